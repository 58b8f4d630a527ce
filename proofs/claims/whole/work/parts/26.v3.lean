theorem vX3_reads (G : GP) (d : Nat) (p0 : Nat) (hp0 : TxAt p0) (m : Mem) (K : Int32 → Mem → Prop) (hF : p0 ≠ 0 ∧ ∀ m1 : Mem, m1 = wR m 233 3 p0 → ∀ t2 : Nat, m1.2.2 233 3 = t2 → t2 ≠ 0 ∧ TxAt t2 ∧ Evv G (d + 8) mX8_clear [.ref (ga G t2)] m1 (fun m3 => Evv G (d + 8) mX7_scan [.ref (ga G 228)] m3 (fun m4 => ∀ m5 : Mem, m5 = wI m4 233 0 0 → ∀ m6 : Mem, m6 = wI m5 233 1 (-1) → ∀ m7 : Mem, m7 = wI m6 233 4 0 → ∀ m8 : Mem, m8 = wI m7 233 5 (m7.1 230 0) → Gw G (d + 9) mX3_reads 49 [.ref (ga G 233), .ref (ga G p0), .int 0] [] m8 (Qi K)))) : Evi G (d + 9) mX3_reads [.ref (ga G 233), .ref (ga G p0)] m K := by
  refine Ev.go [.ref (ga G 233), .ref (ga G p0), uu] (by decide) (Nat.le_of_ble_eq_true rfl) rfl ?_
  refine go_aload_n dX3_reads_0 rfl ?_
  refine go_aload_n dX3_reads_1 rfl ?_
  obtain ⟨hb, hF⟩ := hF
  refine go_putD (k := 3) (C1 := "BellTongue$Text") dX3_reads_2 sh_233 rfl inX3 (Nat.le_of_ble_eq_true rfl) lf_X3_28 tyX3 tyX3_ok nmX3 rfl rfl (by decide +kernel) hb ?_
  obtain ⟨m1, em1⟩ : ∃ z : Mem, z = wR m 233 3 p0 := ⟨_, rfl⟩
  rw [← em1]
  have hF := hF m1 em1
  refine go_aload_n dX3_reads_5 rfl ?_
  obtain ⟨t2, et2⟩ : ∃ z : Nat, m1.2.2 233 3 = z := ⟨_, rfl⟩
  obtain ⟨nt2, ht2, hF⟩ := hF t2 et2
  refine go_getD (k := 3) (r := t2) dX3_reads_6 sh_233 rfl inX3 (Nat.le_of_ble_eq_true rfl) lf_X3_28 rfl ⟨et2, nt2⟩ ?_
  refine go_callV mX8_clear dX3_reads_9 lm_X3_32 okX8_clear isX8_clear ht2.1 rfl (As := []) (S := []) rfl rfl (Nat.le_of_ble_eq_true rfl) hF (k_v (fun m3 hF => ?_))
  refine go_aload_n dX3_reads_12 rfl ?_
  refine go_getR (k := 2) (r := 228) dX3_reads_13 sh_233 rfl inX3 (Nat.le_of_ble_eq_true rfl) lf_X3_24 rfl rfl ?_
  refine go_callV mX7_scan dX3_reads_16 lm_X3_37 okX7_scan isX7_scan sh_228 rfl (As := []) (S := []) rfl rfl (Nat.le_of_ble_eq_true rfl) hF (k_v (fun m4 hF => ?_))
  refine go_aload_n dX3_reads_19 rfl ?_
  refine go_iconst (v := 0) dX3_reads_20 (by decide) ?_
  refine go_putI (k := 0) dX3_reads_21 sh_233 rfl inX3 (Nat.le_of_ble_eq_true rfl) lf_X3_13 tyX3 tyX3_ok nmX3 rfl rfl (by decide +kernel) ?_
  obtain ⟨m5, em5⟩ : ∃ z : Mem, z = wI m4 233 0 0 := ⟨_, rfl⟩
  rw [← em5]
  have hF := hF m5 em5
  refine go_aload_n dX3_reads_24 rfl ?_
  refine go_iconst (v := -1) dX3_reads_25 (by decide) ?_
  refine go_putI (k := 1) dX3_reads_26 sh_233 rfl inX3 (Nat.le_of_ble_eq_true rfl) lf_X3_17 tyX3 tyX3_ok nmX3 rfl rfl (by decide +kernel) ?_
  obtain ⟨m6, em6⟩ : ∃ z : Mem, z = wI m5 233 1 (-1) := ⟨_, rfl⟩
  rw [← em6]
  have hF := hF m6 em6
  refine go_aload_n dX3_reads_29 rfl ?_
  refine go_iconst (v := 0) dX3_reads_30 (by decide) ?_
  refine go_putI (k := 4) dX3_reads_31 sh_233 rfl inX3 (Nat.le_of_ble_eq_true rfl) lf_X3_40 tyX3 tyX3_ok nmX3 rfl rfl (by decide +kernel) ?_
  obtain ⟨m7, em7⟩ : ∃ z : Mem, z = wI m6 233 4 0 := ⟨_, rfl⟩
  rw [← em7]
  have hF := hF m7 em7
  refine go_aload_n dX3_reads_34 rfl ?_
  refine go_aload_n dX3_reads_35 rfl ?_
  refine go_getR (k := 2) (r := 228) dX3_reads_36 sh_233 rfl inX3 (Nat.le_of_ble_eq_true rfl) lf_X3_24 rfl rfl ?_
  refine go_getR (k := 2) (r := 230) dX3_reads_39 sh_228 rfl inX7 (Nat.le_of_ble_eq_true rfl) lf_X3_43 rfl rfl ?_
  refine go_iconst (v := 0) dX3_reads_42 (by decide) ?_
  refine go_ialdK (k := 0) dX3_reads_43 sh_230 (vp_in_dec (by decide)) (by decide) ?_
  refine go_putI (k := 5) dX3_reads_44 sh_233 rfl inX3 (Nat.le_of_ble_eq_true rfl) lf_X3_46 tyX3 tyX3_ok nmX3 rfl rfl (by decide +kernel) ?_
  obtain ⟨m8, em8⟩ : ∃ z : Mem, z = wI m7 233 5 (m7.1 230 0) := ⟨_, rfl⟩
  rw [← em8]
  have hF := hF m8 em8
  refine go_iconst (v := 0) dX3_reads_47 (by decide) ?_
  refine go_istore_n (L' := [.ref (ga G 233), .ref (ga G p0), .int 0]) dX3_reads_48 (Nat.le_of_ble_eq_true rfl) rfl ?_
  exact hF
theorem vX3_reads_49 (G : GP) (d : Nat) (u1 : Value) (l2 : Int32) (m : Mem) (K : Int32 → Mem → Prop) (hF : ((24 < l2) → ∀ m9 : Mem, m9 = wI m 228 0 0 → ((¬ (m9.1 233 0) = 0) → K 0 m9) ∧ (((m9.1 233 0) = 0) → K 1 m9)) ∧ ((¬ 24 < l2) → ((¬ (m.1 233 0) = 0) → ∀ m10 : Mem, m10 = wI m 228 0 0 → ((¬ (m10.1 233 0) = 0) → K 0 m10) ∧ (((m10.1 233 0) = 0) → K 1 m10)) ∧ (((m.1 233 0) = 0) → (((m.1 233 5) = 1) → ∀ m11 : Mem, m11 = wI m 228 0 0 → ((¬ (m11.1 233 0) = 0) → K 0 m11) ∧ (((m11.1 233 0) = 0) → K 1 m11)) ∧ ((¬ (m.1 233 5) = 1) → Evv G (d + 8) mX3_readClause [.ref (ga G 233)] m (fun m12 => ∀ x13 : Int32, x13 = l2 + 1 → Gw G (d + 9) mX3_reads 49 [.ref (ga G 233), uu, .int x13] [] m12 (Qi K)))))) : Gw G (d + 9) mX3_reads 49 [.ref (ga G 233), u1, .int l2] [] m (Qi K) := by
  refine Gw.weak (L' := [.ref (ga G 233), uu, .int l2]) ⟨Or.inl rfl, Or.inr rfl, Or.inl rfl, trivial⟩ ?_
  refine go_iload_n dX3_reads_49 rfl ?_
  refine go_bipush (v := 24) dX3_reads_50 (by decide) ?_
  refine go_icmp_gt 80 dX3_reads_52 rfl ⟨fun hc => ?_, fun hc => ?_⟩
  · have hF := hF.1 hc
    refine go_aload_n dX3_reads_80 rfl ?_
    refine go_getR (k := 2) (r := 228) dX3_reads_81 sh_233 rfl inX3 (Nat.le_of_ble_eq_true rfl) lf_X3_24 rfl rfl ?_
    refine go_iconst (v := 0) dX3_reads_84 (by decide) ?_
    refine go_putI (k := 0) dX3_reads_85 sh_228 rfl inX7 (Nat.le_of_ble_eq_true rfl) lf_X3_52 tyX7 tyX7_ok nmX7 rfl rfl (by decide +kernel) ?_
    obtain ⟨m9, em9⟩ : ∃ z : Mem, z = wI m 228 0 0 := ⟨_, rfl⟩
    rw [← em9]
    have hF := hF m9 em9
    refine go_aload_n dX3_reads_88 rfl ?_
    refine go_getI (k := 0) dX3_reads_89 sh_233 rfl inX3 (Nat.le_of_ble_eq_true rfl) lf_X3_13 rfl ?_
    refine go_if_ne 99 dX3_reads_92 rfl ⟨fun hc => ?_, fun hc => ?_⟩
    · have hF := hF.1 hc
      refine go_iconst (v := 0) dX3_reads_99 (by decide) ?_
      exact go_zret (S := []) dX3_reads_100 rfl (by decide) ⟨_, rfl, hF⟩
    · have hF := hF.2 hc
      refine go_iconst (v := 1) dX3_reads_95 (by decide) ?_
      refine go_goto 100 dX3_reads_96 rfl ?_
      exact go_zret (S := []) dX3_reads_100 rfl (by decide) ⟨_, rfl, hF⟩
  · have hF := hF.2 hc
    refine go_aload_n dX3_reads_55 rfl ?_
    refine go_getI (k := 0) dX3_reads_56 sh_233 rfl inX3 (Nat.le_of_ble_eq_true rfl) lf_X3_13 rfl ?_
    refine go_if_ne 80 dX3_reads_59 rfl ⟨fun hc => ?_, fun hc => ?_⟩
    · have hF := hF.1 hc
      refine go_aload_n dX3_reads_80 rfl ?_
      refine go_getR (k := 2) (r := 228) dX3_reads_81 sh_233 rfl inX3 (Nat.le_of_ble_eq_true rfl) lf_X3_24 rfl rfl ?_
      refine go_iconst (v := 0) dX3_reads_84 (by decide) ?_
      refine go_putI (k := 0) dX3_reads_85 sh_228 rfl inX7 (Nat.le_of_ble_eq_true rfl) lf_X3_52 tyX7 tyX7_ok nmX7 rfl rfl (by decide +kernel) ?_
      obtain ⟨m10, em10⟩ : ∃ z : Mem, z = wI m 228 0 0 := ⟨_, rfl⟩
      rw [← em10]
      have hF := hF m10 em10
      refine go_aload_n dX3_reads_88 rfl ?_
      refine go_getI (k := 0) dX3_reads_89 sh_233 rfl inX3 (Nat.le_of_ble_eq_true rfl) lf_X3_13 rfl ?_
      refine go_if_ne 99 dX3_reads_92 rfl ⟨fun hc => ?_, fun hc => ?_⟩
      · have hF := hF.1 hc
        refine go_iconst (v := 0) dX3_reads_99 (by decide) ?_
        exact go_zret (S := []) dX3_reads_100 rfl (by decide) ⟨_, rfl, hF⟩
      · have hF := hF.2 hc
        refine go_iconst (v := 1) dX3_reads_95 (by decide) ?_
        refine go_goto 100 dX3_reads_96 rfl ?_
        exact go_zret (S := []) dX3_reads_100 rfl (by decide) ⟨_, rfl, hF⟩
    · have hF := hF.2 hc
      refine go_aload_n dX3_reads_62 rfl ?_
      refine go_getI (k := 5) dX3_reads_63 sh_233 rfl inX3 (Nat.le_of_ble_eq_true rfl) lf_X3_46 rfl ?_
      refine go_iconst (v := 1) dX3_reads_66 (by decide) ?_
      refine go_icmp_eq 80 dX3_reads_67 rfl ⟨fun hc => ?_, fun hc => ?_⟩
      · have hF := hF.1 hc
        refine go_aload_n dX3_reads_80 rfl ?_
        refine go_getR (k := 2) (r := 228) dX3_reads_81 sh_233 rfl inX3 (Nat.le_of_ble_eq_true rfl) lf_X3_24 rfl rfl ?_
        refine go_iconst (v := 0) dX3_reads_84 (by decide) ?_
        refine go_putI (k := 0) dX3_reads_85 sh_228 rfl inX7 (Nat.le_of_ble_eq_true rfl) lf_X3_52 tyX7 tyX7_ok nmX7 rfl rfl (by decide +kernel) ?_
        obtain ⟨m11, em11⟩ : ∃ z : Mem, z = wI m 228 0 0 := ⟨_, rfl⟩
        rw [← em11]
        have hF := hF m11 em11
        refine go_aload_n dX3_reads_88 rfl ?_
        refine go_getI (k := 0) dX3_reads_89 sh_233 rfl inX3 (Nat.le_of_ble_eq_true rfl) lf_X3_13 rfl ?_
        refine go_if_ne 99 dX3_reads_92 rfl ⟨fun hc => ?_, fun hc => ?_⟩
        · have hF := hF.1 hc
          refine go_iconst (v := 0) dX3_reads_99 (by decide) ?_
          exact go_zret (S := []) dX3_reads_100 rfl (by decide) ⟨_, rfl, hF⟩
        · have hF := hF.2 hc
          refine go_iconst (v := 1) dX3_reads_95 (by decide) ?_
          refine go_goto 100 dX3_reads_96 rfl ?_
          exact go_zret (S := []) dX3_reads_100 rfl (by decide) ⟨_, rfl, hF⟩
      · have hF := hF.2 hc
        refine go_aload_n dX3_reads_70 rfl ?_
        refine go_callV mX3_readClause dX3_reads_71 lm_X3_49 okX3_readClause isX3_readClause sh_233 rfl (As := []) (S := []) rfl rfl (Nat.le_of_ble_eq_true rfl) hF (k_v (fun m12 hF => ?_))
        obtain ⟨x13, ex13⟩ : ∃ z : Int32, z = l2 + 1 := ⟨_, rfl⟩
        have hF := hF x13 ex13
        refine go_iinc (v := x13) (L' := [.ref (ga G 233), uu, .int x13]) dX3_reads_74 rfl (by rw [ex13]; rfl) (Nat.le_of_ble_eq_true rfl) rfl ?_
        refine go_goto 49 dX3_reads_77 rfl ?_
        exact hF
theorem vX3_advance (G : GP) (d : Nat)  (m : Mem) (K : Mem → Prop) (hF : ((300 ≤ (m.1 233 4)) → vp_in (m.1 233 4) 301 ∧ ∀ m1 : Mem, m1 = wI m 233 5 (m.1 230 (m.1 233 4).toNatClampNeg) → K m1) ∧ ((¬ 300 ≤ (m.1 233 4)) → ∀ m2 : Mem, m2 = wI m 233 4 ((m.1 233 4) + 1) → vp_in (m2.1 233 4) 301 ∧ ∀ m3 : Mem, m3 = wI m2 233 5 (m2.1 230 (m2.1 233 4).toNatClampNeg) → K m3)) : Evv G (d) mX3_advance [.ref (ga G 233)] m K := by
  refine Ev.go [.ref (ga G 233)] (by decide) (Nat.le_of_ble_eq_true rfl) rfl ?_
  refine go_aload_n dX3_advance_0 rfl ?_
  refine go_getI (k := 4) dX3_advance_1 sh_233 rfl inX3 (Nat.le_of_ble_eq_true rfl) lf_X3_40 rfl ?_
  refine go_sipush (v := 300) dX3_advance_4 (by decide) ?_
  refine go_icmp_ge 20 dX3_advance_7 rfl ⟨fun hc => ?_, fun hc => ?_⟩
  · have hF := hF.1 hc
    refine go_aload_n dX3_advance_20 rfl ?_
    refine go_aload_n dX3_advance_21 rfl ?_
    refine go_getR (k := 2) (r := 228) dX3_advance_22 sh_233 rfl inX3 (Nat.le_of_ble_eq_true rfl) lf_X3_24 rfl rfl ?_
    refine go_getR (k := 2) (r := 230) dX3_advance_25 sh_228 rfl inX7 (Nat.le_of_ble_eq_true rfl) lf_X3_43 rfl rfl ?_
    refine go_aload_n dX3_advance_28 rfl ?_
    refine go_getI (k := 4) dX3_advance_29 sh_233 rfl inX3 (Nat.le_of_ble_eq_true rfl) lf_X3_40 rfl ?_
    obtain ⟨hi, hF⟩ := hF
    refine go_iald dX3_advance_32 sh_230 hi ?_
    refine go_putI (k := 5) dX3_advance_33 sh_233 rfl inX3 (Nat.le_of_ble_eq_true rfl) lf_X3_46 tyX3 tyX3_ok nmX3 rfl rfl (by decide +kernel) ?_
    obtain ⟨m1, em1⟩ : ∃ z : Mem, z = wI m 233 5 (m.1 230 (m.1 233 4).toNatClampNeg) := ⟨_, rfl⟩
    rw [← em1]
    have hF := hF m1 em1
    exact go_vret (S := []) dX3_advance_36 rfl ⟨rfl, hF⟩
  · have hF := hF.2 hc
    refine go_aload_n dX3_advance_10 rfl ?_
    refine go_dup dX3_advance_11 rfl ?_
    refine go_getI (k := 4) dX3_advance_12 sh_233 rfl inX3 (Nat.le_of_ble_eq_true rfl) lf_X3_40 rfl ?_
    refine go_iconst (v := 1) dX3_advance_15 (by decide) ?_
    refine go_iadd dX3_advance_16 ?_
    refine go_putI (k := 4) dX3_advance_17 sh_233 rfl inX3 (Nat.le_of_ble_eq_true rfl) lf_X3_40 tyX3 tyX3_ok nmX3 rfl rfl (by decide +kernel) ?_
    obtain ⟨m2, em2⟩ : ∃ z : Mem, z = wI m 233 4 ((m.1 233 4) + 1) := ⟨_, rfl⟩
    rw [← em2]
    have hF := hF m2 em2
    refine go_aload_n dX3_advance_20 rfl ?_
    refine go_aload_n dX3_advance_21 rfl ?_
    refine go_getR (k := 2) (r := 228) dX3_advance_22 sh_233 rfl inX3 (Nat.le_of_ble_eq_true rfl) lf_X3_24 rfl rfl ?_
    refine go_getR (k := 2) (r := 230) dX3_advance_25 sh_228 rfl inX7 (Nat.le_of_ble_eq_true rfl) lf_X3_43 rfl rfl ?_
    refine go_aload_n dX3_advance_28 rfl ?_
    refine go_getI (k := 4) dX3_advance_29 sh_233 rfl inX3 (Nat.le_of_ble_eq_true rfl) lf_X3_40 rfl ?_
    obtain ⟨hi, hF⟩ := hF
    refine go_iald dX3_advance_32 sh_230 hi ?_
    refine go_putI (k := 5) dX3_advance_33 sh_233 rfl inX3 (Nat.le_of_ble_eq_true rfl) lf_X3_46 tyX3 tyX3_ok nmX3 rfl rfl (by decide +kernel) ?_
    obtain ⟨m3, em3⟩ : ∃ z : Mem, z = wI m2 233 5 (m2.1 230 (m2.1 233 4).toNatClampNeg) := ⟨_, rfl⟩
    rw [← em3]
    have hF := hF m3 em3
    exact go_vret (S := []) dX3_advance_36 rfl ⟨rfl, hF⟩
theorem vX3_fail (G : GP) (d : Nat) (a0 : Int32) (m : Mem) (K : Mem → Prop) (hF : ∀ m1 : Mem, m1 = wI m 233 0 a0 → vp_in (m1.1 233 4) 301 ∧ ∀ m2 : Mem, m2 = wI m1 233 1 (m1.1 231 (m1.1 233 4).toNatClampNeg) → K m2) : Evv G (d) mX3_fail [.ref (ga G 233), .int a0] m K := by
  refine Ev.go [.ref (ga G 233), .int a0] (by decide) (Nat.le_of_ble_eq_true rfl) rfl ?_
  refine go_aload_n dX3_fail_0 rfl ?_
  refine go_iload_n dX3_fail_1 rfl ?_
  refine go_putI (k := 0) dX3_fail_2 sh_233 rfl inX3 (Nat.le_of_ble_eq_true rfl) lf_X3_13 tyX3 tyX3_ok nmX3 rfl rfl (by decide +kernel) ?_
  obtain ⟨m1, em1⟩ : ∃ z : Mem, z = wI m 233 0 a0 := ⟨_, rfl⟩
  rw [← em1]
  have hF := hF m1 em1
  refine go_aload_n dX3_fail_5 rfl ?_
  refine go_aload_n dX3_fail_6 rfl ?_
  refine go_getR (k := 2) (r := 228) dX3_fail_7 sh_233 rfl inX3 (Nat.le_of_ble_eq_true rfl) lf_X3_24 rfl rfl ?_
  refine go_getR (k := 3) (r := 231) dX3_fail_10 sh_228 rfl inX7 (Nat.le_of_ble_eq_true rfl) lf_X3_55 rfl rfl ?_
  refine go_aload_n dX3_fail_13 rfl ?_
  refine go_getI (k := 4) dX3_fail_14 sh_233 rfl inX3 (Nat.le_of_ble_eq_true rfl) lf_X3_40 rfl ?_
  obtain ⟨hi, hF⟩ := hF
  refine go_iald dX3_fail_17 sh_231 hi ?_
  refine go_putI (k := 1) dX3_fail_18 sh_233 rfl inX3 (Nat.le_of_ble_eq_true rfl) lf_X3_17 tyX3 tyX3_ok nmX3 rfl rfl (by decide +kernel) ?_
  obtain ⟨m2, em2⟩ : ∃ z : Mem, z = wI m1 233 1 (m1.1 231 (m1.1 233 4).toNatClampNeg) := ⟨_, rfl⟩
  rw [← em2]
  have hF := hF m2 em2
  exact go_vret (S := []) dX3_fail_21 rfl ⟨rfl, hF⟩
theorem vX3_readClause (G : GP) (d : Nat)  (m : Mem) (K : Mem → Prop) (hF : ∀ x1 : Int32, x1 = m.1 233 5 → ∀ x2 : Int32, x2 = x1 - 100 → ((x1 < 100) → Evv G (d + 4) mX3_fail [.ref (ga G 233), .int 1] m (fun m3 => K m3)) ∧ ((¬ x1 < 100) → ((x1 ≤ 110) → ((3 ≤ x2) → ∀ t4 : Nat, m.2.2 233 3 = t4 → t4 ≠ 0 ∧ TxAt t4 ∧ (((m.1 t4 0) < 24) → ∀ t5 : Nat, m.2.2 233 3 = t5 → t5 ≠ 0 ∧ TxAt t5 ∧ Evv G (d + 4) mX8_startClause [.ref (ga G t5), .int x1] m (fun m6 => Evv G (d + 4) mX3_advance [.ref (ga G 233)] m6 (fun m7 => ((3 ≤ x2) → Evv G (d + 4) mX3_readNumbers [.ref (ga G 233), .int x1] m7 (fun m8 => Evv G (d + 4) mX3_pass [.ref (ga G 233), .int 59] m8 (fun m9 => K m9))) ∧ ((¬ 3 ≤ x2) → Evv G (d + 4) mX3_readLaw [.ref (ga G 233), .int x2] m7 (fun m10 => Evv G (d + 4) mX3_pass [.ref (ga G 233), .int 59] m10 (fun m11 => K m11)))))) ∧ ((¬ (m.1 t4 0) < 24) → Evv G (d + 4) mX3_fail [.ref (ga G 233), .int 6] m (fun m12 => K m12))) ∧ ((¬ 3 ≤ x2) → ∀ t13 : Nat, m.2.2 233 3 = t13 → t13 ≠ 0 ∧ TxAt t13 ∧ vp_in x2 3 ∧ ((m.1 (t13 + 4) x2.toNatClampNeg < m.1 (t13 + 5) x2.toNatClampNeg) → Evv G (d + 4) mX3_fail [.ref (ga G 233), .int 4] m (fun m14 => K m14)) ∧ (¬ (m.1 (t13 + 4) x2.toNatClampNeg < m.1 (t13 + 5) x2.toNatClampNeg) → ∀ t15 : Nat, m.2.2 233 3 = t15 → t15 ≠ 0 ∧ TxAt t15 ∧ (((m.1 t15 0) < 24) → ∀ t16 : Nat, m.2.2 233 3 = t16 → t16 ≠ 0 ∧ TxAt t16 ∧ Evv G (d + 4) mX8_startClause [.ref (ga G t16), .int x1] m (fun m17 => Evv G (d + 4) mX3_advance [.ref (ga G 233)] m17 (fun m18 => ((3 ≤ x2) → Evv G (d + 4) mX3_readNumbers [.ref (ga G 233), .int x1] m18 (fun m19 => Evv G (d + 4) mX3_pass [.ref (ga G 233), .int 59] m19 (fun m20 => K m20))) ∧ ((¬ 3 ≤ x2) → Evv G (d + 4) mX3_readLaw [.ref (ga G 233), .int x2] m18 (fun m21 => Evv G (d + 4) mX3_pass [.ref (ga G 233), .int 59] m21 (fun m22 => K m22)))))) ∧ ((¬ (m.1 t15 0) < 24) → Evv G (d + 4) mX3_fail [.ref (ga G 233), .int 6] m (fun m23 => K m23))))) ∧ ((¬ x1 ≤ 110) → Evv G (d + 4) mX3_fail [.ref (ga G 233), .int 1] m (fun m24 => K m24)))) : Evv G (d + 5) mX3_readClause [.ref (ga G 233)] m K := by
  refine Ev.go [.ref (ga G 233), uu, uu] (by decide) (Nat.le_of_ble_eq_true rfl) rfl ?_
  refine go_aload_n dX3_readClause_0 rfl ?_
  refine go_getI (k := 5) dX3_readClause_1 sh_233 rfl inX3 (Nat.le_of_ble_eq_true rfl) lf_X3_46 rfl ?_
  refine Gw.namei (fun x1 ex1 => ?_)
  have hF := hF x1 ex1
  refine go_istore_n (L' := [.ref (ga G 233), .int x1, uu]) dX3_readClause_4 (Nat.le_of_ble_eq_true rfl) rfl ?_
  refine go_iload_n dX3_readClause_5 rfl ?_
  refine go_bipush (v := 100) dX3_readClause_6 (by decide) ?_
  refine go_isub dX3_readClause_8 ?_
  refine Gw.namei (fun x2 ex2 => ?_)
  have hF := hF x2 ex2
  refine go_istore_n (L' := [.ref (ga G 233), .int x1, .int x2]) dX3_readClause_9 (Nat.le_of_ble_eq_true rfl) rfl ?_
  refine go_iload_n dX3_readClause_10 rfl ?_
  refine go_bipush (v := 100) dX3_readClause_11 (by decide) ?_
  refine go_icmp_lt 22 dX3_readClause_13 rfl ⟨fun hc => ?_, fun hc => ?_⟩
  · have hF := hF.1 hc
    refine go_aload_n dX3_readClause_22 rfl ?_
    refine go_iconst (v := 1) dX3_readClause_23 (by decide) ?_
    refine go_callV mX3_fail dX3_readClause_24 lm_X3_58 okX3_fail isX3_fail sh_233 rfl (As := [.int 1]) (S := []) rfl rfl (Nat.le_of_ble_eq_true rfl) hF (k_v (fun m3 hF => ?_))
    refine go_goto 111 dX3_readClause_27 rfl ?_
    exact go_vret (S := []) dX3_readClause_111 rfl ⟨rfl, hF⟩
  · have hF := hF.2 hc
    refine go_iload_n dX3_readClause_16 rfl ?_
    refine go_bipush (v := 110) dX3_readClause_17 (by decide) ?_
    refine go_icmp_le 30 dX3_readClause_19 rfl ⟨fun hc => ?_, fun hc => ?_⟩
    · have hF := hF.1 hc
      refine go_iload_n dX3_readClause_30 rfl ?_
      refine go_iconst (v := 3) dX3_readClause_31 (by decide) ?_
      refine go_icmp_ge 54 dX3_readClause_32 rfl ⟨fun hc => ?_, fun hc => ?_⟩
      · have hF := hF.1 hc
        refine go_aload_n dX3_readClause_54 rfl ?_
        obtain ⟨t4, et4⟩ : ∃ z : Nat, m.2.2 233 3 = z := ⟨_, rfl⟩
        obtain ⟨nt4, ht4, hF⟩ := hF t4 et4
        refine go_getD (k := 3) (r := t4) dX3_readClause_55 sh_233 rfl inX3 (Nat.le_of_ble_eq_true rfl) lf_X3_28 rfl ⟨et4, nt4⟩ ?_
        refine go_getI (k := 0) dX3_readClause_58 ht4.1 rfl inX8 (Nat.le_of_ble_eq_true rfl) lf_X3_66 rfl ?_
        refine go_bipush (v := 24) dX3_readClause_61 (by decide) ?_
        refine go_icmp_lt 75 dX3_readClause_63 rfl ⟨fun hc => ?_, fun hc => ?_⟩
        · have hF := hF.1 hc
          refine go_aload_n dX3_readClause_75 rfl ?_
          obtain ⟨t5, et5⟩ : ∃ z : Nat, m.2.2 233 3 = z := ⟨_, rfl⟩
          obtain ⟨nt5, ht5, hF⟩ := hF t5 et5
          refine go_getD (k := 3) (r := t5) dX3_readClause_76 sh_233 rfl inX3 (Nat.le_of_ble_eq_true rfl) lf_X3_28 rfl ⟨et5, nt5⟩ ?_
          refine go_iload_n dX3_readClause_79 rfl ?_
          refine go_callV mX8_startClause dX3_readClause_80 lm_X3_69 okX8_startClause isX8_startClause ht5.1 rfl (As := [.int x1]) (S := []) rfl rfl (Nat.le_of_ble_eq_true rfl) hF (k_v (fun m6 hF => ?_))
          refine go_aload_n dX3_readClause_83 rfl ?_
          refine go_callV mX3_advance dX3_readClause_84 lm_X3_72 okX3_advance isX3_advance sh_233 rfl (As := []) (S := []) rfl rfl (Nat.le_of_ble_eq_true rfl) hF (k_v (fun m7 hF => ?_))
          refine go_iload_n dX3_readClause_87 rfl ?_
          refine go_iconst (v := 3) dX3_readClause_88 (by decide) ?_
          refine go_icmp_ge 100 dX3_readClause_89 rfl ⟨fun hc => ?_, fun hc => ?_⟩
          · have hF := hF.1 hc
            refine go_aload_n dX3_readClause_100 rfl ?_
            refine go_iload_n dX3_readClause_101 rfl ?_
            refine go_callV mX3_readNumbers dX3_readClause_102 lm_X3_78 okX3_readNumbers isX3_readNumbers sh_233 rfl (As := [.int x1]) (S := []) rfl rfl (Nat.le_of_ble_eq_true rfl) hF (k_v (fun m8 hF => ?_))
            refine go_aload_n dX3_readClause_105 rfl ?_
            refine go_bipush (v := 59) dX3_readClause_106 (by decide) ?_
            refine go_callV mX3_pass dX3_readClause_108 lm_X3_81 okX3_pass isX3_pass sh_233 rfl (As := [.int 59]) (S := []) rfl rfl (Nat.le_of_ble_eq_true rfl) hF (k_v (fun m9 hF => ?_))
            exact go_vret (S := []) dX3_readClause_111 rfl ⟨rfl, hF⟩
          · have hF := hF.2 hc
            refine go_aload_n dX3_readClause_92 rfl ?_
            refine go_iload_n dX3_readClause_93 rfl ?_
            refine go_callV mX3_readLaw dX3_readClause_94 lm_X3_75 okX3_readLaw isX3_readLaw sh_233 rfl (As := [.int x2]) (S := []) rfl rfl (Nat.le_of_ble_eq_true rfl) hF (k_v (fun m10 hF => ?_))
            refine go_goto 105 dX3_readClause_97 rfl ?_
            refine go_aload_n dX3_readClause_105 rfl ?_
            refine go_bipush (v := 59) dX3_readClause_106 (by decide) ?_
            refine go_callV mX3_pass dX3_readClause_108 lm_X3_81 okX3_pass isX3_pass sh_233 rfl (As := [.int 59]) (S := []) rfl rfl (Nat.le_of_ble_eq_true rfl) hF (k_v (fun m11 hF => ?_))
            exact go_vret (S := []) dX3_readClause_111 rfl ⟨rfl, hF⟩
        · have hF := hF.2 hc
          refine go_aload_n dX3_readClause_66 rfl ?_
          refine go_bipush (v := 6) dX3_readClause_67 (by decide) ?_
          refine go_callV mX3_fail dX3_readClause_69 lm_X3_58 okX3_fail isX3_fail sh_233 rfl (As := [.int 6]) (S := []) rfl rfl (Nat.le_of_ble_eq_true rfl) hF (k_v (fun m12 hF => ?_))
          refine go_goto 111 dX3_readClause_72 rfl ?_
          exact go_vret (S := []) dX3_readClause_111 rfl ⟨rfl, hF⟩
      · have hF := hF.2 hc
        refine go_aload_n dX3_readClause_35 rfl ?_
        obtain ⟨t13, et13⟩ : ∃ z : Nat, m.2.2 233 3 = z := ⟨_, rfl⟩
        obtain ⟨nt13, ht13, hF⟩ := hF t13 et13
        refine go_getD (k := 3) (r := t13) dX3_readClause_36 sh_233 rfl inX3 (Nat.le_of_ble_eq_true rfl) lf_X3_28 rfl ⟨et13, nt13⟩ ?_
        refine go_iload_n dX3_readClause_39 rfl ?_
        obtain ⟨ho, hF⟩ := hF
        rcases Classical.em (m.1 (t13 + 4) x2.toNatClampNeg < m.1 (t13 + 5) x2.toNatClampNeg) with hp | hp
        · have hF := hF.1 hp
          refine go_callV mX8_hasLaw dX3_readClause_40 lm_X3_62 okX8_hasLaw isX8_hasLaw ht13.1 rfl (As := [.int x2]) (S := []) rfl rfl (Nat.le_of_ble_eq_true rfl) (eX8_hasLaw G _ t13 ht13 x2 m (fun r m' => r = 1 ∧ m = m') ho ⟨fun _ => ⟨rfl, rfl⟩, fun q => absurd hp q⟩) (k_i (fun r m' hr => ?_))
          obtain ⟨hr1, hr2⟩ := hr
          subst hr1
          subst hr2
          refine go_if_eq 54 dX3_readClause_43 rfl ⟨fun hc => absurd hc (by decide), fun _ => ?_⟩
          refine go_aload_n dX3_readClause_46 rfl ?_
          refine go_iconst (v := 4) dX3_readClause_47 (by decide) ?_
          refine go_callV mX3_fail dX3_readClause_48 lm_X3_58 okX3_fail isX3_fail sh_233 rfl (As := [.int 4]) (S := []) rfl rfl (Nat.le_of_ble_eq_true rfl) hF (k_v (fun m14 hF => ?_))
          refine go_goto 111 dX3_readClause_51 rfl ?_
          exact go_vret (S := []) dX3_readClause_111 rfl ⟨rfl, hF⟩
        · have hF := hF.2 hp
          refine go_callV mX8_hasLaw dX3_readClause_40 lm_X3_62 okX8_hasLaw isX8_hasLaw ht13.1 rfl (As := [.int x2]) (S := []) rfl rfl (Nat.le_of_ble_eq_true rfl) (eX8_hasLaw G _ t13 ht13 x2 m (fun r m' => r = 0 ∧ m = m') ho ⟨fun q => absurd q hp, fun _ => ⟨rfl, rfl⟩⟩) (k_i (fun r m' hr => ?_))
          obtain ⟨hr1, hr2⟩ := hr
          subst hr1
          subst hr2
          refine go_if_eq 54 dX3_readClause_43 rfl ⟨fun _ => ?_, fun hc => absurd hc (by decide)⟩
          refine go_aload_n dX3_readClause_54 rfl ?_
          obtain ⟨t15, et15⟩ : ∃ z : Nat, m.2.2 233 3 = z := ⟨_, rfl⟩
          obtain ⟨nt15, ht15, hF⟩ := hF t15 et15
          refine go_getD (k := 3) (r := t15) dX3_readClause_55 sh_233 rfl inX3 (Nat.le_of_ble_eq_true rfl) lf_X3_28 rfl ⟨et15, nt15⟩ ?_
          refine go_getI (k := 0) dX3_readClause_58 ht15.1 rfl inX8 (Nat.le_of_ble_eq_true rfl) lf_X3_66 rfl ?_
          refine go_bipush (v := 24) dX3_readClause_61 (by decide) ?_
          refine go_icmp_lt 75 dX3_readClause_63 rfl ⟨fun hc => ?_, fun hc => ?_⟩
          · have hF := hF.1 hc
            refine go_aload_n dX3_readClause_75 rfl ?_
            obtain ⟨t16, et16⟩ : ∃ z : Nat, m.2.2 233 3 = z := ⟨_, rfl⟩
            obtain ⟨nt16, ht16, hF⟩ := hF t16 et16
            refine go_getD (k := 3) (r := t16) dX3_readClause_76 sh_233 rfl inX3 (Nat.le_of_ble_eq_true rfl) lf_X3_28 rfl ⟨et16, nt16⟩ ?_
            refine go_iload_n dX3_readClause_79 rfl ?_
            refine go_callV mX8_startClause dX3_readClause_80 lm_X3_69 okX8_startClause isX8_startClause ht16.1 rfl (As := [.int x1]) (S := []) rfl rfl (Nat.le_of_ble_eq_true rfl) hF (k_v (fun m17 hF => ?_))
            refine go_aload_n dX3_readClause_83 rfl ?_
            refine go_callV mX3_advance dX3_readClause_84 lm_X3_72 okX3_advance isX3_advance sh_233 rfl (As := []) (S := []) rfl rfl (Nat.le_of_ble_eq_true rfl) hF (k_v (fun m18 hF => ?_))
            refine go_iload_n dX3_readClause_87 rfl ?_
            refine go_iconst (v := 3) dX3_readClause_88 (by decide) ?_
            refine go_icmp_ge 100 dX3_readClause_89 rfl ⟨fun hc => ?_, fun hc => ?_⟩
            · have hF := hF.1 hc
              refine go_aload_n dX3_readClause_100 rfl ?_
              refine go_iload_n dX3_readClause_101 rfl ?_
              refine go_callV mX3_readNumbers dX3_readClause_102 lm_X3_78 okX3_readNumbers isX3_readNumbers sh_233 rfl (As := [.int x1]) (S := []) rfl rfl (Nat.le_of_ble_eq_true rfl) hF (k_v (fun m19 hF => ?_))
              refine go_aload_n dX3_readClause_105 rfl ?_
              refine go_bipush (v := 59) dX3_readClause_106 (by decide) ?_
              refine go_callV mX3_pass dX3_readClause_108 lm_X3_81 okX3_pass isX3_pass sh_233 rfl (As := [.int 59]) (S := []) rfl rfl (Nat.le_of_ble_eq_true rfl) hF (k_v (fun m20 hF => ?_))
              exact go_vret (S := []) dX3_readClause_111 rfl ⟨rfl, hF⟩
            · have hF := hF.2 hc
              refine go_aload_n dX3_readClause_92 rfl ?_
              refine go_iload_n dX3_readClause_93 rfl ?_
              refine go_callV mX3_readLaw dX3_readClause_94 lm_X3_75 okX3_readLaw isX3_readLaw sh_233 rfl (As := [.int x2]) (S := []) rfl rfl (Nat.le_of_ble_eq_true rfl) hF (k_v (fun m21 hF => ?_))
              refine go_goto 105 dX3_readClause_97 rfl ?_
              refine go_aload_n dX3_readClause_105 rfl ?_
              refine go_bipush (v := 59) dX3_readClause_106 (by decide) ?_
              refine go_callV mX3_pass dX3_readClause_108 lm_X3_81 okX3_pass isX3_pass sh_233 rfl (As := [.int 59]) (S := []) rfl rfl (Nat.le_of_ble_eq_true rfl) hF (k_v (fun m22 hF => ?_))
              exact go_vret (S := []) dX3_readClause_111 rfl ⟨rfl, hF⟩
          · have hF := hF.2 hc
            refine go_aload_n dX3_readClause_66 rfl ?_
            refine go_bipush (v := 6) dX3_readClause_67 (by decide) ?_
            refine go_callV mX3_fail dX3_readClause_69 lm_X3_58 okX3_fail isX3_fail sh_233 rfl (As := [.int 6]) (S := []) rfl rfl (Nat.le_of_ble_eq_true rfl) hF (k_v (fun m23 hF => ?_))
            refine go_goto 111 dX3_readClause_72 rfl ?_
            exact go_vret (S := []) dX3_readClause_111 rfl ⟨rfl, hF⟩
    · have hF := hF.2 hc
      refine go_aload_n dX3_readClause_22 rfl ?_
      refine go_iconst (v := 1) dX3_readClause_23 (by decide) ?_
      refine go_callV mX3_fail dX3_readClause_24 lm_X3_58 okX3_fail isX3_fail sh_233 rfl (As := [.int 1]) (S := []) rfl rfl (Nat.le_of_ble_eq_true rfl) hF (k_v (fun m24 hF => ?_))
      refine go_goto 111 dX3_readClause_27 rfl ?_
      exact go_vret (S := []) dX3_readClause_111 rfl ⟨rfl, hF⟩
theorem vX3_readNumbers (G : GP) (d : Nat) (a0 : Int32) (m : Mem) (K : Mem → Prop) (hF : (a0 = 103 → Evv G (d + 2) mX3_number [.ref (ga G 233), .int 1, .int 9] m (fun m1 => Evv G (d + 2) mX3_pass [.ref (ga G 233), .int 111] m1 (fun m2 => Evv G (d + 2) mX3_number [.ref (ga G 233), .int 0, .int 9] m2 (fun m3 => Evv G (d + 2) mX3_pass [.ref (ga G 233), .int 112] m3 (fun m4 => Evv G (d + 2) mX3_number [.ref (ga G 233), .int 1, .int 9] m4 (fun m5 => K m5)))))) ∧ (a0 = 104 → Evv G (d + 2) mX3_number [.ref (ga G 233), .int 0, .int 3] m (fun m6 => Evv G (d + 2) mX3_pass [.ref (ga G 233), .int 113] m6 (fun m7 => Evv G (d + 2) mX3_number [.ref (ga G 233), .int 0, .int 99] m7 (fun m8 => Evv G (d + 2) mX3_pass [.ref (ga G 233), .int 58] m8 (fun m9 => Evv G (d + 2) mX3_readBells [.ref (ga G 233)] m9 (fun m10 => K m10)))))) ∧ (a0 = 105 → Evv G (d + 2) mX3_number [.ref (ga G 233), .int 0, .int 5] m (fun m11 => K m11)) ∧ (a0 = 106 → Evv G (d + 2) mX3_number [.ref (ga G 233), .int 0, .int 9] m (fun m12 => K m12)) ∧ (a0 = 107 → Evv G (d + 2) mX3_number [.ref (ga G 233), .int 0, .int 9] m (fun m13 => K m13)) ∧ (a0 = 108 → Evv G (d + 2) mX3_number [.ref (ga G 233), .int 0, .int 9] m (fun m14 => K m14)) ∧ (a0 = 109 → Evv G (d + 2) mX3_number [.ref (ga G 233), .int 1, .int 60] m (fun m15 => K m15)) ∧ (¬ a0 = 103 ∧ ¬ a0 = 104 ∧ ¬ a0 = 105 ∧ ¬ a0 = 106 ∧ ¬ a0 = 107 ∧ ¬ a0 = 108 ∧ ¬ a0 = 109 → K m)) : Evv G (d + 3) mX3_readNumbers [.ref (ga G 233), .int a0] m K := by
  refine Ev.go [.ref (ga G 233), .int a0] (by decide) (Nat.le_of_ble_eq_true rfl) rfl ?_
  refine go_iload_n dX3_readNumbers_0 rfl ?_
  rcases Decidable.em (a0 = 103) with hc0 | hc0
  · have hF := hF.1 hc0
    refine go_tabIn (off := 43) 44 dX3_readNumbers_1 (by rw [hc0]; decide) (by rw [hc0]; decide) (by rw [hc0]; rfl) rfl ?_
    refine go_aload_n dX3_readNumbers_44 rfl ?_
    refine go_iconst (v := 1) dX3_readNumbers_45 (by decide) ?_
    refine go_bipush (v := 9) dX3_readNumbers_46 (by decide) ?_
    refine go_callV mX3_number dX3_readNumbers_48 lm_X3_84 okX3_number isX3_number sh_233 rfl (As := [.int 1, .int 9]) (S := []) rfl rfl (Nat.le_of_ble_eq_true rfl) hF (k_v (fun m1 hF => ?_))
    refine go_aload_n dX3_readNumbers_51 rfl ?_
    refine go_bipush (v := 111) dX3_readNumbers_52 (by decide) ?_
    refine go_callV mX3_pass dX3_readNumbers_54 lm_X3_81 okX3_pass isX3_pass sh_233 rfl (As := [.int 111]) (S := []) rfl rfl (Nat.le_of_ble_eq_true rfl) hF (k_v (fun m2 hF => ?_))
    refine go_aload_n dX3_readNumbers_57 rfl ?_
    refine go_iconst (v := 0) dX3_readNumbers_58 (by decide) ?_
    refine go_bipush (v := 9) dX3_readNumbers_59 (by decide) ?_
    refine go_callV mX3_number dX3_readNumbers_61 lm_X3_84 okX3_number isX3_number sh_233 rfl (As := [.int 0, .int 9]) (S := []) rfl rfl (Nat.le_of_ble_eq_true rfl) hF (k_v (fun m3 hF => ?_))
    refine go_aload_n dX3_readNumbers_64 rfl ?_
    refine go_bipush (v := 112) dX3_readNumbers_65 (by decide) ?_
    refine go_callV mX3_pass dX3_readNumbers_67 lm_X3_81 okX3_pass isX3_pass sh_233 rfl (As := [.int 112]) (S := []) rfl rfl (Nat.le_of_ble_eq_true rfl) hF (k_v (fun m4 hF => ?_))
    refine go_aload_n dX3_readNumbers_70 rfl ?_
    refine go_iconst (v := 1) dX3_readNumbers_71 (by decide) ?_
    refine go_bipush (v := 9) dX3_readNumbers_72 (by decide) ?_
    refine go_callV mX3_number dX3_readNumbers_74 lm_X3_84 okX3_number isX3_number sh_233 rfl (As := [.int 1, .int 9]) (S := []) rfl rfl (Nat.le_of_ble_eq_true rfl) hF (k_v (fun m5 hF => ?_))
    refine go_goto 141 dX3_readNumbers_77 rfl ?_
    exact go_vret (S := []) dX3_readNumbers_141 rfl ⟨rfl, hF⟩
  rcases Decidable.em (a0 = 104) with hc1 | hc1
  · have hF := hF.2.1 hc1
    refine go_tabIn (off := 79) 80 dX3_readNumbers_1 (by rw [hc1]; decide) (by rw [hc1]; decide) (by rw [hc1]; rfl) rfl ?_
    refine go_aload_n dX3_readNumbers_80 rfl ?_
    refine go_iconst (v := 0) dX3_readNumbers_81 (by decide) ?_
    refine go_iconst (v := 3) dX3_readNumbers_82 (by decide) ?_
    refine go_callV mX3_number dX3_readNumbers_83 lm_X3_84 okX3_number isX3_number sh_233 rfl (As := [.int 0, .int 3]) (S := []) rfl rfl (Nat.le_of_ble_eq_true rfl) hF (k_v (fun m6 hF => ?_))
    refine go_aload_n dX3_readNumbers_86 rfl ?_
    refine go_bipush (v := 113) dX3_readNumbers_87 (by decide) ?_
    refine go_callV mX3_pass dX3_readNumbers_89 lm_X3_81 okX3_pass isX3_pass sh_233 rfl (As := [.int 113]) (S := []) rfl rfl (Nat.le_of_ble_eq_true rfl) hF (k_v (fun m7 hF => ?_))
    refine go_aload_n dX3_readNumbers_92 rfl ?_
    refine go_iconst (v := 0) dX3_readNumbers_93 (by decide) ?_
    refine go_bipush (v := 99) dX3_readNumbers_94 (by decide) ?_
    refine go_callV mX3_number dX3_readNumbers_96 lm_X3_84 okX3_number isX3_number sh_233 rfl (As := [.int 0, .int 99]) (S := []) rfl rfl (Nat.le_of_ble_eq_true rfl) hF (k_v (fun m8 hF => ?_))
    refine go_aload_n dX3_readNumbers_99 rfl ?_
    refine go_bipush (v := 58) dX3_readNumbers_100 (by decide) ?_
    refine go_callV mX3_pass dX3_readNumbers_102 lm_X3_81 okX3_pass isX3_pass sh_233 rfl (As := [.int 58]) (S := []) rfl rfl (Nat.le_of_ble_eq_true rfl) hF (k_v (fun m9 hF => ?_))
    refine go_aload_n dX3_readNumbers_105 rfl ?_
    refine go_callV mX3_readBells dX3_readNumbers_106 lm_X3_88 okX3_readBells isX3_readBells sh_233 rfl (As := []) (S := []) rfl rfl (Nat.le_of_ble_eq_true rfl) hF (k_v (fun m10 hF => ?_))
    refine go_goto 141 dX3_readNumbers_109 rfl ?_
    exact go_vret (S := []) dX3_readNumbers_141 rfl ⟨rfl, hF⟩
  rcases Decidable.em (a0 = 105) with hc2 | hc2
  · have hF := hF.2.2.1 hc2
    refine go_tabIn (off := 111) 112 dX3_readNumbers_1 (by rw [hc2]; decide) (by rw [hc2]; decide) (by rw [hc2]; rfl) rfl ?_
    refine go_aload_n dX3_readNumbers_112 rfl ?_
    refine go_iconst (v := 0) dX3_readNumbers_113 (by decide) ?_
    refine go_iconst (v := 5) dX3_readNumbers_114 (by decide) ?_
    refine go_callV mX3_number dX3_readNumbers_115 lm_X3_84 okX3_number isX3_number sh_233 rfl (As := [.int 0, .int 5]) (S := []) rfl rfl (Nat.le_of_ble_eq_true rfl) hF (k_v (fun m11 hF => ?_))
    refine go_goto 141 dX3_readNumbers_118 rfl ?_
    exact go_vret (S := []) dX3_readNumbers_141 rfl ⟨rfl, hF⟩
  rcases Decidable.em (a0 = 106) with hc3 | hc3
  · have hF := hF.2.2.2.1 hc3
    refine go_tabIn (off := 130) 131 dX3_readNumbers_1 (by rw [hc3]; decide) (by rw [hc3]; decide) (by rw [hc3]; rfl) rfl ?_
    refine go_aload_n dX3_readNumbers_131 rfl ?_
    refine go_iconst (v := 0) dX3_readNumbers_132 (by decide) ?_
    refine go_bipush (v := 9) dX3_readNumbers_133 (by decide) ?_
    refine go_callV mX3_number dX3_readNumbers_135 lm_X3_84 okX3_number isX3_number sh_233 rfl (As := [.int 0, .int 9]) (S := []) rfl rfl (Nat.le_of_ble_eq_true rfl) hF (k_v (fun m12 hF => ?_))
    refine go_goto 141 dX3_readNumbers_138 rfl ?_
    exact go_vret (S := []) dX3_readNumbers_141 rfl ⟨rfl, hF⟩
  rcases Decidable.em (a0 = 107) with hc4 | hc4
  · have hF := hF.2.2.2.2.1 hc4
    refine go_tabIn (off := 130) 131 dX3_readNumbers_1 (by rw [hc4]; decide) (by rw [hc4]; decide) (by rw [hc4]; rfl) rfl ?_
    refine go_aload_n dX3_readNumbers_131 rfl ?_
    refine go_iconst (v := 0) dX3_readNumbers_132 (by decide) ?_
    refine go_bipush (v := 9) dX3_readNumbers_133 (by decide) ?_
    refine go_callV mX3_number dX3_readNumbers_135 lm_X3_84 okX3_number isX3_number sh_233 rfl (As := [.int 0, .int 9]) (S := []) rfl rfl (Nat.le_of_ble_eq_true rfl) hF (k_v (fun m13 hF => ?_))
    refine go_goto 141 dX3_readNumbers_138 rfl ?_
    exact go_vret (S := []) dX3_readNumbers_141 rfl ⟨rfl, hF⟩
  rcases Decidable.em (a0 = 108) with hc5 | hc5
  · have hF := hF.2.2.2.2.2.1 hc5
    refine go_tabIn (off := 130) 131 dX3_readNumbers_1 (by rw [hc5]; decide) (by rw [hc5]; decide) (by rw [hc5]; rfl) rfl ?_
    refine go_aload_n dX3_readNumbers_131 rfl ?_
    refine go_iconst (v := 0) dX3_readNumbers_132 (by decide) ?_
    refine go_bipush (v := 9) dX3_readNumbers_133 (by decide) ?_
    refine go_callV mX3_number dX3_readNumbers_135 lm_X3_84 okX3_number isX3_number sh_233 rfl (As := [.int 0, .int 9]) (S := []) rfl rfl (Nat.le_of_ble_eq_true rfl) hF (k_v (fun m14 hF => ?_))
    refine go_goto 141 dX3_readNumbers_138 rfl ?_
    exact go_vret (S := []) dX3_readNumbers_141 rfl ⟨rfl, hF⟩
  rcases Decidable.em (a0 = 109) with hc6 | hc6
  · have hF := hF.2.2.2.2.2.2.1 hc6
    refine go_tabIn (off := 120) 121 dX3_readNumbers_1 (by rw [hc6]; decide) (by rw [hc6]; decide) (by rw [hc6]; rfl) rfl ?_
    refine go_aload_n dX3_readNumbers_121 rfl ?_
    refine go_iconst (v := 1) dX3_readNumbers_122 (by decide) ?_
    refine go_bipush (v := 60) dX3_readNumbers_123 (by decide) ?_
    refine go_callV mX3_number dX3_readNumbers_125 lm_X3_84 okX3_number isX3_number sh_233 rfl (As := [.int 1, .int 60]) (S := []) rfl rfl (Nat.le_of_ble_eq_true rfl) hF (k_v (fun m15 hF => ?_))
    refine go_goto 141 dX3_readNumbers_128 rfl ?_
    exact go_vret (S := []) dX3_readNumbers_141 rfl ⟨rfl, hF⟩
  have hF := hF.2.2.2.2.2.2.2 ⟨hc0, hc1, hc2, hc3, hc4, hc5, hc6⟩
  refine go_tabOut 141 dX3_readNumbers_1 (tab_out [103, 104, 105, 106, 107, 108, 109] 103 109 a0 (by decide) (by simp only [List.forall_mem_cons, List.not_mem_nil, false_implies, implies_true, and_true]; exact ⟨hc0, hc1, hc2, hc3, hc4, hc5, hc6⟩)) rfl ?_
  exact go_vret (S := []) dX3_readNumbers_141 rfl ⟨rfl, hF⟩
theorem vX3_readBells (G : GP) (d : Nat)  (m : Mem) (K : Mem → Prop) (hF : Evv G (d + 1) mX3_number [.ref (ga G 233), .int 0, .int 5] m (fun m1 => Gw G (d + 2) mX3_readBells 8 [.ref (ga G 233), .int 1] [] m1 (Qv K))) : Evv G (d + 2) mX3_readBells [.ref (ga G 233)] m K := by
  refine Ev.go [.ref (ga G 233), uu] (by decide) (Nat.le_of_ble_eq_true rfl) rfl ?_
  refine go_aload_n dX3_readBells_0 rfl ?_
  refine go_iconst (v := 0) dX3_readBells_1 (by decide) ?_
  refine go_iconst (v := 5) dX3_readBells_2 (by decide) ?_
  refine go_callV mX3_number dX3_readBells_3 lm_X3_84 okX3_number isX3_number sh_233 rfl (As := [.int 0, .int 5]) (S := []) rfl rfl (Nat.le_of_ble_eq_true rfl) hF (k_v (fun m1 hF => ?_))
  refine go_iconst (v := 1) dX3_readBells_6 (by decide) ?_
  refine go_istore_n (L' := [.ref (ga G 233), .int 1]) dX3_readBells_7 (Nat.le_of_ble_eq_true rfl) rfl ?_
  exact hF
theorem vX3_readBells_8 (G : GP) (d : Nat) (l1 : Int32) (m : Mem) (K : Mem → Prop) (hF : ((4 < l1) → K m) ∧ ((¬ 4 < l1) → ((¬ (m.1 233 0) = 0) → K m) ∧ (((m.1 233 0) = 0) → ((¬ (m.1 233 5) = 2) → K m) ∧ (((m.1 233 5) = 2) → ((¬ l1 = 4) → Evv G (d + 1) mX3_number [.ref (ga G 233), .int 0, .int 5] m (fun m2 => ∀ x3 : Int32, x3 = l1 + 1 → Gw G (d + 2) mX3_readBells 8 [.ref (ga G 233), .int x3] [] m2 (Qv K))) ∧ ((l1 = 4) → vp_in (m.1 233 4) 301 ∧ ((6 ≤ (m.1 232 (m.1 233 4).toNatClampNeg)) → Evv G (d + 1) mX3_number [.ref (ga G 233), .int 0, .int 5] m (fun m4 => ∀ x5 : Int32, x5 = l1 + 1 → Gw G (d + 2) mX3_readBells 8 [.ref (ga G 233), .int x5] [] m4 (Qv K))) ∧ ((¬ 6 ≤ (m.1 232 (m.1 233 4).toNatClampNeg)) → Evv G (d + 1) mX3_fail [.ref (ga G 233), .int 7] m (fun m6 => Evv G (d + 1) mX3_number [.ref (ga G 233), .int 0, .int 5] m6 (fun m7 => ∀ x8 : Int32, x8 = l1 + 1 → Gw G (d + 2) mX3_readBells 8 [.ref (ga G 233), .int x8] [] m7 (Qv K))))))))) : Gw G (d + 2) mX3_readBells 8 [.ref (ga G 233), .int l1] [] m (Qv K) := by
  refine go_iload_n dX3_readBells_8 rfl ?_
  refine go_iconst (v := 4) dX3_readBells_9 (by decide) ?_
  refine go_icmp_gt 68 dX3_readBells_10 rfl ⟨fun hc => ?_, fun hc => ?_⟩
  · have hF := hF.1 hc
    exact go_vret (S := []) dX3_readBells_68 rfl ⟨rfl, hF⟩
  · have hF := hF.2 hc
    refine go_aload_n dX3_readBells_13 rfl ?_
    refine go_getI (k := 0) dX3_readBells_14 sh_233 rfl inX3 (Nat.le_of_ble_eq_true rfl) lf_X3_13 rfl ?_
    refine go_if_ne 68 dX3_readBells_17 rfl ⟨fun hc => ?_, fun hc => ?_⟩
    · have hF := hF.1 hc
      exact go_vret (S := []) dX3_readBells_68 rfl ⟨rfl, hF⟩
    · have hF := hF.2 hc
      refine go_aload_n dX3_readBells_20 rfl ?_
      refine go_getI (k := 5) dX3_readBells_21 sh_233 rfl inX3 (Nat.le_of_ble_eq_true rfl) lf_X3_46 rfl ?_
      refine go_iconst (v := 2) dX3_readBells_24 (by decide) ?_
      refine go_icmp_ne 68 dX3_readBells_25 rfl ⟨fun hc => ?_, fun hc => ?_⟩
      · have hF := hF.1 hc
        exact go_vret (S := []) dX3_readBells_68 rfl ⟨rfl, hF⟩
      · have hF := hF.2 hc
        refine go_iload_n dX3_readBells_28 rfl ?_
        refine go_iconst (v := 4) dX3_readBells_29 (by decide) ?_
        refine go_icmp_ne 56 dX3_readBells_30 rfl ⟨fun hc => ?_, fun hc => ?_⟩
        · have hF := hF.1 hc
          refine go_aload_n dX3_readBells_56 rfl ?_
          refine go_iconst (v := 0) dX3_readBells_57 (by decide) ?_
          refine go_iconst (v := 5) dX3_readBells_58 (by decide) ?_
          refine go_callV mX3_number dX3_readBells_59 lm_X3_84 okX3_number isX3_number sh_233 rfl (As := [.int 0, .int 5]) (S := []) rfl rfl (Nat.le_of_ble_eq_true rfl) hF (k_v (fun m2 hF => ?_))
          obtain ⟨x3, ex3⟩ : ∃ z : Int32, z = l1 + 1 := ⟨_, rfl⟩
          have hF := hF x3 ex3
          refine go_iinc (v := x3) (L' := [.ref (ga G 233), .int x3]) dX3_readBells_62 rfl (by rw [ex3]; rfl) (Nat.le_of_ble_eq_true rfl) rfl ?_
          refine go_goto 8 dX3_readBells_65 rfl ?_
          exact hF
        · have hF := hF.2 hc
          refine go_aload_n dX3_readBells_33 rfl ?_
          refine go_getR (k := 2) (r := 228) dX3_readBells_34 sh_233 rfl inX3 (Nat.le_of_ble_eq_true rfl) lf_X3_24 rfl rfl ?_
          refine go_getR (k := 4) (r := 232) dX3_readBells_37 sh_228 rfl inX7 (Nat.le_of_ble_eq_true rfl) lf_X3_91 rfl rfl ?_
          refine go_aload_n dX3_readBells_40 rfl ?_
          refine go_getI (k := 4) dX3_readBells_41 sh_233 rfl inX3 (Nat.le_of_ble_eq_true rfl) lf_X3_40 rfl ?_
          obtain ⟨hi, hF⟩ := hF
          refine go_iald dX3_readBells_44 sh_232 hi ?_
          refine go_bipush (v := 6) dX3_readBells_45 (by decide) ?_
          refine go_icmp_ge 56 dX3_readBells_47 rfl ⟨fun hc => ?_, fun hc => ?_⟩
          · have hF := hF.1 hc
            refine go_aload_n dX3_readBells_56 rfl ?_
            refine go_iconst (v := 0) dX3_readBells_57 (by decide) ?_
            refine go_iconst (v := 5) dX3_readBells_58 (by decide) ?_
            refine go_callV mX3_number dX3_readBells_59 lm_X3_84 okX3_number isX3_number sh_233 rfl (As := [.int 0, .int 5]) (S := []) rfl rfl (Nat.le_of_ble_eq_true rfl) hF (k_v (fun m4 hF => ?_))
            obtain ⟨x5, ex5⟩ : ∃ z : Int32, z = l1 + 1 := ⟨_, rfl⟩
            have hF := hF x5 ex5
            refine go_iinc (v := x5) (L' := [.ref (ga G 233), .int x5]) dX3_readBells_62 rfl (by rw [ex5]; rfl) (Nat.le_of_ble_eq_true rfl) rfl ?_
            refine go_goto 8 dX3_readBells_65 rfl ?_
            exact hF
          · have hF := hF.2 hc
            refine go_aload_n dX3_readBells_50 rfl ?_
            refine go_bipush (v := 7) dX3_readBells_51 (by decide) ?_
            refine go_callV mX3_fail dX3_readBells_53 lm_X3_58 okX3_fail isX3_fail sh_233 rfl (As := [.int 7]) (S := []) rfl rfl (Nat.le_of_ble_eq_true rfl) hF (k_v (fun m6 hF => ?_))
            refine go_aload_n dX3_readBells_56 rfl ?_
            refine go_iconst (v := 0) dX3_readBells_57 (by decide) ?_
            refine go_iconst (v := 5) dX3_readBells_58 (by decide) ?_
            refine go_callV mX3_number dX3_readBells_59 lm_X3_84 okX3_number isX3_number sh_233 rfl (As := [.int 0, .int 5]) (S := []) rfl rfl (Nat.le_of_ble_eq_true rfl) hF (k_v (fun m7 hF => ?_))
            obtain ⟨x8, ex8⟩ : ∃ z : Int32, z = l1 + 1 := ⟨_, rfl⟩
            have hF := hF x8 ex8
            refine go_iinc (v := x8) (L' := [.ref (ga G 233), .int x8]) dX3_readBells_62 rfl (by rw [ex8]; rfl) (Nat.le_of_ble_eq_true rfl) rfl ?_
            refine go_goto 8 dX3_readBells_65 rfl ?_
            exact hF
theorem vX3_number (G : GP) (d : Nat) (a0 : Int32) (a1 : Int32) (m : Mem) (K : Mem → Prop) (hF : (((m.1 233 0) = 0) → (((m.1 233 5) = 2) → vp_in (m.1 233 4) 301 ∧ ((a0 ≤ (m.1 232 (m.1 233 4).toNatClampNeg) ∧ (m.1 232 (m.1 233 4).toNatClampNeg) ≤ a1) → ∀ t1 : Nat, m.2.2 233 3 = t1 → t1 ≠ 0 ∧ TxAt t1 ∧ vp_in (m.1 233 4) 301 ∧ Evv G (d) mX8_tell [.ref (ga G t1), .int (m.1 232 (m.1 233 4).toNatClampNeg)] m (fun m2 => Evv G (d) mX3_advance [.ref (ga G 233)] m2 (fun m3 => K m3))) ∧ (¬ (a0 ≤ (m.1 232 (m.1 233 4).toNatClampNeg) ∧ (m.1 232 (m.1 233 4).toNatClampNeg) ≤ a1) → Evv G (d) mX3_fail [.ref (ga G 233), .int 2] m (fun m4 => K m4))) ∧ ((¬ (m.1 233 5) = 2) → Evv G (d) mX3_fail [.ref (ga G 233), .int 1] m (fun m5 => K m5))) ∧ ((¬ (m.1 233 0) = 0) → K m)) : Evv G (d + 1) mX3_number [.ref (ga G 233), .int a0, .int a1] m K := by
  refine Ev.go [.ref (ga G 233), .int a0, .int a1] (by decide) (Nat.le_of_ble_eq_true rfl) rfl ?_
  refine go_aload_n dX3_number_0 rfl ?_
  refine go_getI (k := 0) dX3_number_1 sh_233 rfl inX3 (Nat.le_of_ble_eq_true rfl) lf_X3_13 rfl ?_
  refine go_if_eq 8 dX3_number_4 rfl ⟨fun hc => ?_, fun hc => ?_⟩
  · have hF := hF.1 hc
    refine go_aload_n dX3_number_8 rfl ?_
    refine go_getI (k := 5) dX3_number_9 sh_233 rfl inX3 (Nat.le_of_ble_eq_true rfl) lf_X3_46 rfl ?_
    refine go_iconst (v := 2) dX3_number_12 (by decide) ?_
    refine go_icmp_eq 24 dX3_number_13 rfl ⟨fun hc => ?_, fun hc => ?_⟩
    · have hF := hF.1 hc
      refine go_aload_n dX3_number_24 rfl ?_
      refine go_getR (k := 2) (r := 228) dX3_number_25 sh_233 rfl inX3 (Nat.le_of_ble_eq_true rfl) lf_X3_24 rfl rfl ?_
      refine go_getR (k := 4) (r := 232) dX3_number_28 sh_228 rfl inX7 (Nat.le_of_ble_eq_true rfl) lf_X3_91 rfl rfl ?_
      refine go_aload_n dX3_number_31 rfl ?_
      refine go_getI (k := 4) dX3_number_32 sh_233 rfl inX3 (Nat.le_of_ble_eq_true rfl) lf_X3_40 rfl ?_
      obtain ⟨hi, hF⟩ := hF
      refine go_iald dX3_number_35 sh_232 hi ?_
      refine go_iload_n dX3_number_36 rfl ?_
      refine go_iload_n dX3_number_37 rfl ?_
      rcases Classical.em (a0 ≤ (m.1 232 (m.1 233 4).toNatClampNeg) ∧ (m.1 232 (m.1 233 4).toNatClampNeg) ≤ a1) with hp | hp
      · have hF := hF.1 hp
        refine go_callN mX11_within "BellTongue" dX3_number_38 ln_X3_94 okX11_within isX11_within (As := [.int (m.1 232 (m.1 233 4).toNatClampNeg), .int a0, .int a1]) (S := []) rfl rfl (Nat.le_of_ble_eq_true rfl) (eX11_within G _ (m.1 232 (m.1 233 4).toNatClampNeg) a0 a1 m (fun r m' => r = 1 ∧ m = m') ⟨fun _ => ⟨rfl, rfl⟩, fun q => absurd hp q⟩) (k_i (fun r m' hr => ?_))
        obtain ⟨hr1, hr2⟩ := hr
        subst hr1
        subst hr2
        refine go_if_ne 52 dX3_number_41 rfl ⟨fun _ => ?_, fun hc => absurd hc (by decide)⟩
        refine go_aload_n dX3_number_52 rfl ?_
        obtain ⟨t1, et1⟩ : ∃ z : Nat, m.2.2 233 3 = z := ⟨_, rfl⟩
        obtain ⟨nt1, ht1, hF⟩ := hF t1 et1
        refine go_getD (k := 3) (r := t1) dX3_number_53 sh_233 rfl inX3 (Nat.le_of_ble_eq_true rfl) lf_X3_28 rfl ⟨et1, nt1⟩ ?_
        refine go_aload_n dX3_number_56 rfl ?_
        refine go_getR (k := 2) (r := 228) dX3_number_57 sh_233 rfl inX3 (Nat.le_of_ble_eq_true rfl) lf_X3_24 rfl rfl ?_
        refine go_getR (k := 4) (r := 232) dX3_number_60 sh_228 rfl inX7 (Nat.le_of_ble_eq_true rfl) lf_X3_91 rfl rfl ?_
        refine go_aload_n dX3_number_63 rfl ?_
        refine go_getI (k := 4) dX3_number_64 sh_233 rfl inX3 (Nat.le_of_ble_eq_true rfl) lf_X3_40 rfl ?_
        obtain ⟨hi, hF⟩ := hF
        refine go_iald dX3_number_67 sh_232 hi ?_
        refine go_callV mX8_tell dX3_number_68 lm_X3_98 okX8_tell isX8_tell ht1.1 rfl (As := [.int (m.1 232 (m.1 233 4).toNatClampNeg)]) (S := []) rfl rfl (Nat.le_of_ble_eq_true rfl) hF (k_v (fun m2 hF => ?_))
        refine go_aload_n dX3_number_71 rfl ?_
        refine go_callV mX3_advance dX3_number_72 lm_X3_72 okX3_advance isX3_advance sh_233 rfl (As := []) (S := []) rfl rfl (Nat.le_of_ble_eq_true rfl) hF (k_v (fun m3 hF => ?_))
        exact go_vret (S := []) dX3_number_75 rfl ⟨rfl, hF⟩
      · have hF := hF.2 hp
        refine go_callN mX11_within "BellTongue" dX3_number_38 ln_X3_94 okX11_within isX11_within (As := [.int (m.1 232 (m.1 233 4).toNatClampNeg), .int a0, .int a1]) (S := []) rfl rfl (Nat.le_of_ble_eq_true rfl) (eX11_within G _ (m.1 232 (m.1 233 4).toNatClampNeg) a0 a1 m (fun r m' => r = 0 ∧ m = m') ⟨fun q => absurd q hp, fun _ => ⟨rfl, rfl⟩⟩) (k_i (fun r m' hr => ?_))
        obtain ⟨hr1, hr2⟩ := hr
        subst hr1
        subst hr2
        refine go_if_ne 52 dX3_number_41 rfl ⟨fun hc => absurd hc (by decide), fun _ => ?_⟩
        refine go_aload_n dX3_number_44 rfl ?_
        refine go_iconst (v := 2) dX3_number_45 (by decide) ?_
        refine go_callV mX3_fail dX3_number_46 lm_X3_58 okX3_fail isX3_fail sh_233 rfl (As := [.int 2]) (S := []) rfl rfl (Nat.le_of_ble_eq_true rfl) hF (k_v (fun m4 hF => ?_))
        refine go_goto 75 dX3_number_49 rfl ?_
        exact go_vret (S := []) dX3_number_75 rfl ⟨rfl, hF⟩
    · have hF := hF.2 hc
      refine go_aload_n dX3_number_16 rfl ?_
      refine go_iconst (v := 1) dX3_number_17 (by decide) ?_
      refine go_callV mX3_fail dX3_number_18 lm_X3_58 okX3_fail isX3_fail sh_233 rfl (As := [.int 1]) (S := []) rfl rfl (Nat.le_of_ble_eq_true rfl) hF (k_v (fun m5 hF => ?_))
      refine go_goto 75 dX3_number_21 rfl ?_
      exact go_vret (S := []) dX3_number_75 rfl ⟨rfl, hF⟩
  · have hF := hF.2 hc
    exact go_vret (S := []) dX3_number_7 rfl ⟨rfl, hF⟩
theorem vX3_pass (G : GP) (d : Nat) (a0 : Int32) (m : Mem) (K : Mem → Prop) (hF : (((m.1 233 0) = 0) → (((m.1 233 5) = a0) → Evv G (d) mX3_advance [.ref (ga G 233)] m (fun m1 => K m1)) ∧ ((¬ (m.1 233 5) = a0) → Evv G (d) mX3_fail [.ref (ga G 233), .int 1] m (fun m2 => K m2))) ∧ ((¬ (m.1 233 0) = 0) → K m)) : Evv G (d + 1) mX3_pass [.ref (ga G 233), .int a0] m K := by
  refine Ev.go [.ref (ga G 233), .int a0] (by decide) (Nat.le_of_ble_eq_true rfl) rfl ?_
  refine go_aload_n dX3_pass_0 rfl ?_
  refine go_getI (k := 0) dX3_pass_1 sh_233 rfl inX3 (Nat.le_of_ble_eq_true rfl) lf_X3_13 rfl ?_
  refine go_if_eq 8 dX3_pass_4 rfl ⟨fun hc => ?_, fun hc => ?_⟩
  · have hF := hF.1 hc
    refine go_aload_n dX3_pass_8 rfl ?_
    refine go_getI (k := 5) dX3_pass_9 sh_233 rfl inX3 (Nat.le_of_ble_eq_true rfl) lf_X3_46 rfl ?_
    refine go_iload_n dX3_pass_12 rfl ?_
    refine go_icmp_eq 24 dX3_pass_13 rfl ⟨fun hc => ?_, fun hc => ?_⟩
    · have hF := hF.1 hc
      refine go_aload_n dX3_pass_24 rfl ?_
      refine go_callV mX3_advance dX3_pass_25 lm_X3_72 okX3_advance isX3_advance sh_233 rfl (As := []) (S := []) rfl rfl (Nat.le_of_ble_eq_true rfl) hF (k_v (fun m1 hF => ?_))
      exact go_vret (S := []) dX3_pass_28 rfl ⟨rfl, hF⟩
    · have hF := hF.2 hc
      refine go_aload_n dX3_pass_16 rfl ?_
      refine go_iconst (v := 1) dX3_pass_17 (by decide) ?_
      refine go_callV mX3_fail dX3_pass_18 lm_X3_58 okX3_fail isX3_fail sh_233 rfl (As := [.int 1]) (S := []) rfl rfl (Nat.le_of_ble_eq_true rfl) hF (k_v (fun m2 hF => ?_))
      refine go_goto 28 dX3_pass_21 rfl ?_
      exact go_vret (S := []) dX3_pass_28 rfl ⟨rfl, hF⟩
  · have hF := hF.2 hc
    exact go_vret (S := []) dX3_pass_7 rfl ⟨rfl, hF⟩
theorem vX3_readLaw (G : GP) (d : Nat) (a0 : Int32) (m : Mem) (K : Mem → Prop) (hF : ∀ t1 : Nat, m.2.2 233 3 = t1 → t1 ≠ 0 ∧ TxAt t1 ∧ ∀ t2 : Nat, m.2.2 233 3 = t2 → t2 ≠ 0 ∧ TxAt t2 ∧ vp_in a0 3 ∧ ∀ m3 : Mem, m3 = wI m (t1 + 4) a0.toNatClampNeg (m.1 t2 5) → ∀ m4 : Mem, m4 = wI m3 233 7 0 → ∀ m5 : Mem, m5 = wI m4 233 8 0 → ∀ m6 : Mem, m6 = wI m5 233 9 0 → ∀ m7 : Mem, m7 = wI m6 233 10 1 → ∀ m8 : Mem, m8 = wI m7 233 11 1 → ∀ m9 : Mem, m9 = wI m8 233 12 0 → Gw G (d + 4) mX3_readLaw 48 [.ref (ga G 233), .int a0, .int 0] [] m9 (Qv K)) : Evv G (d + 4) mX3_readLaw [.ref (ga G 233), .int a0] m K := by
  refine Ev.go [.ref (ga G 233), .int a0, uu] (by decide) (Nat.le_of_ble_eq_true rfl) rfl ?_
  refine go_aload_n dX3_readLaw_0 rfl ?_
  obtain ⟨t1, et1⟩ : ∃ z : Nat, m.2.2 233 3 = z := ⟨_, rfl⟩
  obtain ⟨nt1, ht1, hF⟩ := hF t1 et1
  refine go_getD (k := 3) (r := t1) dX3_readLaw_1 sh_233 rfl inX3 (Nat.le_of_ble_eq_true rfl) lf_X3_28 rfl ⟨et1, nt1⟩ ?_
  refine go_getR (k := 7) (r := (t1 + 4)) dX3_readLaw_4 ht1.1 rfl inX8 (Nat.le_of_ble_eq_true rfl) lf_X3_101 rfl rfl ?_
  refine go_iload_n dX3_readLaw_7 rfl ?_
  refine go_aload_n dX3_readLaw_8 rfl ?_
  obtain ⟨t2, et2⟩ : ∃ z : Nat, m.2.2 233 3 = z := ⟨_, rfl⟩
  obtain ⟨nt2, ht2, hF⟩ := hF t2 et2
  refine go_getD (k := 3) (r := t2) dX3_readLaw_9 sh_233 rfl inX3 (Nat.le_of_ble_eq_true rfl) lf_X3_28 rfl ⟨et2, nt2⟩ ?_
  refine go_getI (k := 5) dX3_readLaw_12 ht2.1 rfl inX8 (Nat.le_of_ble_eq_true rfl) lf_X3_104 rfl ?_
  obtain ⟨hi, hF⟩ := hF
  refine go_iast dX3_readLaw_15 ht1.2.2.2.2.1 hi ?_
  obtain ⟨m3, em3⟩ : ∃ z : Mem, z = wI m (t1 + 4) a0.toNatClampNeg (m.1 t2 5) := ⟨_, rfl⟩
  rw [← em3]
  have hF := hF m3 em3
  refine go_aload_n dX3_readLaw_16 rfl ?_
  refine go_iconst (v := 0) dX3_readLaw_17 (by decide) ?_
  refine go_putI (k := 7) dX3_readLaw_18 sh_233 rfl inX3 (Nat.le_of_ble_eq_true rfl) lf_X3_107 tyX3 tyX3_ok nmX3 rfl rfl (by decide +kernel) ?_
  obtain ⟨m4, em4⟩ : ∃ z : Mem, z = wI m3 233 7 0 := ⟨_, rfl⟩
  rw [← em4]
  have hF := hF m4 em4
  refine go_aload_n dX3_readLaw_21 rfl ?_
  refine go_iconst (v := 0) dX3_readLaw_22 (by decide) ?_
  refine go_putI (k := 8) dX3_readLaw_23 sh_233 rfl inX3 (Nat.le_of_ble_eq_true rfl) lf_X3_110 tyX3 tyX3_ok nmX3 rfl rfl (by decide +kernel) ?_
  obtain ⟨m5, em5⟩ : ∃ z : Mem, z = wI m4 233 8 0 := ⟨_, rfl⟩
  rw [← em5]
  have hF := hF m5 em5
  refine go_aload_n dX3_readLaw_26 rfl ?_
  refine go_iconst (v := 0) dX3_readLaw_27 (by decide) ?_
  refine go_putI (k := 9) dX3_readLaw_28 sh_233 rfl inX3 (Nat.le_of_ble_eq_true rfl) lf_X3_113 tyX3 tyX3_ok nmX3 rfl rfl (by decide +kernel) ?_
  obtain ⟨m6, em6⟩ : ∃ z : Mem, z = wI m5 233 9 0 := ⟨_, rfl⟩
  rw [← em6]
  have hF := hF m6 em6
  refine go_aload_n dX3_readLaw_31 rfl ?_
  refine go_iconst (v := 1) dX3_readLaw_32 (by decide) ?_
  refine go_putZ (k := 10) dX3_readLaw_33 sh_233 rfl inX3 (Nat.le_of_ble_eq_true rfl) lf_X3_116 tyX3 tyX3_ok nmX3 rfl rfl (by decide +kernel) (by decide) ?_
  obtain ⟨m7, em7⟩ : ∃ z : Mem, z = wI m6 233 10 1 := ⟨_, rfl⟩
  rw [← em7]
  have hF := hF m7 em7
  refine go_aload_n dX3_readLaw_36 rfl ?_
  refine go_iconst (v := 1) dX3_readLaw_37 (by decide) ?_
  refine go_putZ (k := 11) dX3_readLaw_38 sh_233 rfl inX3 (Nat.le_of_ble_eq_true rfl) lf_X3_120 tyX3 tyX3_ok nmX3 rfl rfl (by decide +kernel) (by decide) ?_
  obtain ⟨m8, em8⟩ : ∃ z : Mem, z = wI m7 233 11 1 := ⟨_, rfl⟩
  rw [← em8]
  have hF := hF m8 em8
  refine go_aload_n dX3_readLaw_41 rfl ?_
  refine go_iconst (v := 0) dX3_readLaw_42 (by decide) ?_
  refine go_putZ (k := 12) dX3_readLaw_43 sh_233 rfl inX3 (Nat.le_of_ble_eq_true rfl) lf_X3_123 tyX3 tyX3_ok nmX3 rfl rfl (by decide +kernel) (by decide) ?_
  obtain ⟨m9, em9⟩ : ∃ z : Mem, z = wI m8 233 12 0 := ⟨_, rfl⟩
  rw [← em9]
  have hF := hF m9 em9
  refine go_iconst (v := 0) dX3_readLaw_46 (by decide) ?_
  refine go_istore_n (L' := [.ref (ga G 233), .int a0, .int 0]) dX3_readLaw_47 (Nat.le_of_ble_eq_true rfl) rfl ?_
  exact hF
theorem vX3_readLaw_48 (G : GP) (d : Nat) (l1 : Int32) (l2 : Int32) (m : Mem) (K : Mem → Prop) (hF : ((300 < l2) → Evv G (d + 3) mX3_settle [.ref (ga G 233), .int 1] m (fun m10 => ∀ t11 : Nat, m10.2.2 233 3 = t11 → t11 ≠ 0 ∧ TxAt t11 ∧ ∀ t12 : Nat, m10.2.2 233 3 = t12 → t12 ≠ 0 ∧ TxAt t12 ∧ vp_in l1 3 ∧ ∀ m13 : Mem, m13 = wI m10 (t11 + 5) l1.toNatClampNeg (m10.1 t12 5) → K m13)) ∧ ((¬ 300 < l2) → (((m.1 233 10) = 0) → ((¬ (m.1 233 5) = 59) → Evv G (d + 3) mX3_readOperator [.ref (ga G 233)] m (fun m14 => (((m14.1 233 0) = 0) → Evv G (d + 3) mX3_advance [.ref (ga G 233)] m14 (fun m15 => ∀ x16 : Int32, x16 = l2 + 1 → Gw G (d + 4) mX3_readLaw 48 [.ref (ga G 233), .int l1, .int x16] [] m15 (Qv K))) ∧ ((¬ (m14.1 233 0) = 0) → K m14))) ∧ (((m.1 233 5) = 59) → (((m.1 233 12) = 0) → Evv G (d + 3) mX3_readOperator [.ref (ga G 233)] m (fun m17 => (((m17.1 233 0) = 0) → Evv G (d + 3) mX3_advance [.ref (ga G 233)] m17 (fun m18 => ∀ x19 : Int32, x19 = l2 + 1 → Gw G (d + 4) mX3_readLaw 48 [.ref (ga G 233), .int l1, .int x19] [] m18 (Qv K))) ∧ ((¬ (m17.1 233 0) = 0) → K m17))) ∧ ((¬ (m.1 233 12) = 0) → ((¬ (m.1 233 9) = 0) → Evv G (d + 3) mX3_readOperator [.ref (ga G 233)] m (fun m20 => (((m20.1 233 0) = 0) → Evv G (d + 3) mX3_advance [.ref (ga G 233)] m20 (fun m21 => ∀ x22 : Int32, x22 = l2 + 1 → Gw G (d + 4) mX3_readLaw 48 [.ref (ga G 233), .int l1, .int x22] [] m21 (Qv K))) ∧ ((¬ (m20.1 233 0) = 0) → K m20))) ∧ (((m.1 233 9) = 0) → Evv G (d + 3) mX3_settle [.ref (ga G 233), .int 1] m (fun m23 => ∀ t24 : Nat, m23.2.2 233 3 = t24 → t24 ≠ 0 ∧ TxAt t24 ∧ ∀ t25 : Nat, m23.2.2 233 3 = t25 → t25 ≠ 0 ∧ TxAt t25 ∧ vp_in l1 3 ∧ ∀ m26 : Mem, m26 = wI m23 (t24 + 5) l1.toNatClampNeg (m23.1 t25 5) → K m26))))) ∧ ((¬ (m.1 233 10) = 0) → Evv G (d + 3) mX3_readValue [.ref (ga G 233), .int l1] m (fun m27 => (((m27.1 233 0) = 0) → Evv G (d + 3) mX3_advance [.ref (ga G 233)] m27 (fun m28 => ∀ x29 : Int32, x29 = l2 + 1 → Gw G (d + 4) mX3_readLaw 48 [.ref (ga G 233), .int l1, .int x29] [] m28 (Qv K))) ∧ ((¬ (m27.1 233 0) = 0) → K m27))))) : Gw G (d + 4) mX3_readLaw 48 [.ref (ga G 233), .int l1, .int l2] [] m (Qv K) := by
  refine go_iload_n dX3_readLaw_48 rfl ?_
  refine go_sipush (v := 300) dX3_readLaw_49 (by decide) ?_
  refine go_icmp_gt 118 dX3_readLaw_52 rfl ⟨fun hc => ?_, fun hc => ?_⟩
  · have hF := hF.1 hc
    refine go_aload_n dX3_readLaw_118 rfl ?_
    refine go_iconst (v := 1) dX3_readLaw_119 (by decide) ?_
    refine go_callV mX3_settle dX3_readLaw_120 lm_X3_132 okX3_settle isX3_settle sh_233 rfl (As := [.int 1]) (S := []) rfl rfl (Nat.le_of_ble_eq_true rfl) hF (k_v (fun m10 hF => ?_))
    refine go_aload_n dX3_readLaw_123 rfl ?_
    obtain ⟨t11, et11⟩ : ∃ z : Nat, m10.2.2 233 3 = z := ⟨_, rfl⟩
    obtain ⟨nt11, ht11, hF⟩ := hF t11 et11
    refine go_getD (k := 3) (r := t11) dX3_readLaw_124 sh_233 rfl inX3 (Nat.le_of_ble_eq_true rfl) lf_X3_28 rfl ⟨et11, nt11⟩ ?_
    refine go_getR (k := 8) (r := (t11 + 5)) dX3_readLaw_127 ht11.1 rfl inX8 (Nat.le_of_ble_eq_true rfl) lf_X3_135 rfl rfl ?_
    refine go_iload_n dX3_readLaw_130 rfl ?_
    refine go_aload_n dX3_readLaw_131 rfl ?_
    obtain ⟨t12, et12⟩ : ∃ z : Nat, m10.2.2 233 3 = z := ⟨_, rfl⟩
    obtain ⟨nt12, ht12, hF⟩ := hF t12 et12
    refine go_getD (k := 3) (r := t12) dX3_readLaw_132 sh_233 rfl inX3 (Nat.le_of_ble_eq_true rfl) lf_X3_28 rfl ⟨et12, nt12⟩ ?_
    refine go_getI (k := 5) dX3_readLaw_135 ht12.1 rfl inX8 (Nat.le_of_ble_eq_true rfl) lf_X3_104 rfl ?_
    obtain ⟨hi, hF⟩ := hF
    refine go_iast dX3_readLaw_138 ht11.2.2.2.2.2 hi ?_
    obtain ⟨m13, em13⟩ : ∃ z : Mem, z = wI m10 (t11 + 5) l1.toNatClampNeg (m10.1 t12 5) := ⟨_, rfl⟩
    rw [← em13]
    have hF := hF m13 em13
    exact go_vret (S := []) dX3_readLaw_139 rfl ⟨rfl, hF⟩
  · have hF := hF.2 hc
    refine go_aload_n dX3_readLaw_55 rfl ?_
    refine go_getI (k := 10) dX3_readLaw_56 sh_233 rfl inX3 (Nat.le_of_ble_eq_true rfl) lf_X3_116 rfl ?_
    refine go_if_eq 70 dX3_readLaw_59 rfl ⟨fun hc => ?_, fun hc => ?_⟩
    · have hF := hF.1 hc
      refine go_aload_n dX3_readLaw_70 rfl ?_
      refine go_getI (k := 5) dX3_readLaw_71 sh_233 rfl inX3 (Nat.le_of_ble_eq_true rfl) lf_X3_46 rfl ?_
      refine go_bipush (v := 59) dX3_readLaw_74 (by decide) ?_
      refine go_icmp_ne 96 dX3_readLaw_76 rfl ⟨fun hc => ?_, fun hc => ?_⟩
      · have hF := hF.1 hc
        refine go_aload_n dX3_readLaw_96 rfl ?_
        refine go_callV mX3_readOperator dX3_readLaw_97 lm_X3_129 okX3_readOperator isX3_readOperator sh_233 rfl (As := []) (S := []) rfl rfl (Nat.le_of_ble_eq_true rfl) hF (k_v (fun m14 hF => ?_))
        refine go_aload_n dX3_readLaw_100 rfl ?_
        refine go_getI (k := 0) dX3_readLaw_101 sh_233 rfl inX3 (Nat.le_of_ble_eq_true rfl) lf_X3_13 rfl ?_
        refine go_if_eq 108 dX3_readLaw_104 rfl ⟨fun hc => ?_, fun hc => ?_⟩
        · have hF := hF.1 hc
          refine go_aload_n dX3_readLaw_108 rfl ?_
          refine go_callV mX3_advance dX3_readLaw_109 lm_X3_72 okX3_advance isX3_advance sh_233 rfl (As := []) (S := []) rfl rfl (Nat.le_of_ble_eq_true rfl) hF (k_v (fun m15 hF => ?_))
          obtain ⟨x16, ex16⟩ : ∃ z : Int32, z = l2 + 1 := ⟨_, rfl⟩
          have hF := hF x16 ex16
          refine go_iinc (v := x16) (L' := [.ref (ga G 233), .int l1, .int x16]) dX3_readLaw_112 rfl (by rw [ex16]; rfl) (Nat.le_of_ble_eq_true rfl) rfl ?_
          refine go_goto 48 dX3_readLaw_115 rfl ?_
          exact hF
        · have hF := hF.2 hc
          exact go_vret (S := []) dX3_readLaw_107 rfl ⟨rfl, hF⟩
      · have hF := hF.2 hc
        refine go_aload_n dX3_readLaw_79 rfl ?_
        refine go_getI (k := 12) dX3_readLaw_80 sh_233 rfl inX3 (Nat.le_of_ble_eq_true rfl) lf_X3_123 rfl ?_
        refine go_if_eq 96 dX3_readLaw_83 rfl ⟨fun hc => ?_, fun hc => ?_⟩
        · have hF := hF.1 hc
          refine go_aload_n dX3_readLaw_96 rfl ?_
          refine go_callV mX3_readOperator dX3_readLaw_97 lm_X3_129 okX3_readOperator isX3_readOperator sh_233 rfl (As := []) (S := []) rfl rfl (Nat.le_of_ble_eq_true rfl) hF (k_v (fun m17 hF => ?_))
          refine go_aload_n dX3_readLaw_100 rfl ?_
          refine go_getI (k := 0) dX3_readLaw_101 sh_233 rfl inX3 (Nat.le_of_ble_eq_true rfl) lf_X3_13 rfl ?_
          refine go_if_eq 108 dX3_readLaw_104 rfl ⟨fun hc => ?_, fun hc => ?_⟩
          · have hF := hF.1 hc
            refine go_aload_n dX3_readLaw_108 rfl ?_
            refine go_callV mX3_advance dX3_readLaw_109 lm_X3_72 okX3_advance isX3_advance sh_233 rfl (As := []) (S := []) rfl rfl (Nat.le_of_ble_eq_true rfl) hF (k_v (fun m18 hF => ?_))
            obtain ⟨x19, ex19⟩ : ∃ z : Int32, z = l2 + 1 := ⟨_, rfl⟩
            have hF := hF x19 ex19
            refine go_iinc (v := x19) (L' := [.ref (ga G 233), .int l1, .int x19]) dX3_readLaw_112 rfl (by rw [ex19]; rfl) (Nat.le_of_ble_eq_true rfl) rfl ?_
            refine go_goto 48 dX3_readLaw_115 rfl ?_
            exact hF
          · have hF := hF.2 hc
            exact go_vret (S := []) dX3_readLaw_107 rfl ⟨rfl, hF⟩
        · have hF := hF.2 hc
          refine go_aload_n dX3_readLaw_86 rfl ?_
          refine go_getI (k := 9) dX3_readLaw_87 sh_233 rfl inX3 (Nat.le_of_ble_eq_true rfl) lf_X3_113 rfl ?_
          refine go_if_ne 96 dX3_readLaw_90 rfl ⟨fun hc => ?_, fun hc => ?_⟩
          · have hF := hF.1 hc
            refine go_aload_n dX3_readLaw_96 rfl ?_
            refine go_callV mX3_readOperator dX3_readLaw_97 lm_X3_129 okX3_readOperator isX3_readOperator sh_233 rfl (As := []) (S := []) rfl rfl (Nat.le_of_ble_eq_true rfl) hF (k_v (fun m20 hF => ?_))
            refine go_aload_n dX3_readLaw_100 rfl ?_
            refine go_getI (k := 0) dX3_readLaw_101 sh_233 rfl inX3 (Nat.le_of_ble_eq_true rfl) lf_X3_13 rfl ?_
            refine go_if_eq 108 dX3_readLaw_104 rfl ⟨fun hc => ?_, fun hc => ?_⟩
            · have hF := hF.1 hc
              refine go_aload_n dX3_readLaw_108 rfl ?_
              refine go_callV mX3_advance dX3_readLaw_109 lm_X3_72 okX3_advance isX3_advance sh_233 rfl (As := []) (S := []) rfl rfl (Nat.le_of_ble_eq_true rfl) hF (k_v (fun m21 hF => ?_))
              obtain ⟨x22, ex22⟩ : ∃ z : Int32, z = l2 + 1 := ⟨_, rfl⟩
              have hF := hF x22 ex22
              refine go_iinc (v := x22) (L' := [.ref (ga G 233), .int l1, .int x22]) dX3_readLaw_112 rfl (by rw [ex22]; rfl) (Nat.le_of_ble_eq_true rfl) rfl ?_
              refine go_goto 48 dX3_readLaw_115 rfl ?_
              exact hF
            · have hF := hF.2 hc
              exact go_vret (S := []) dX3_readLaw_107 rfl ⟨rfl, hF⟩
          · have hF := hF.2 hc
            refine go_goto 118 dX3_readLaw_93 rfl ?_
            refine go_aload_n dX3_readLaw_118 rfl ?_
            refine go_iconst (v := 1) dX3_readLaw_119 (by decide) ?_
            refine go_callV mX3_settle dX3_readLaw_120 lm_X3_132 okX3_settle isX3_settle sh_233 rfl (As := [.int 1]) (S := []) rfl rfl (Nat.le_of_ble_eq_true rfl) hF (k_v (fun m23 hF => ?_))
            refine go_aload_n dX3_readLaw_123 rfl ?_
            obtain ⟨t24, et24⟩ : ∃ z : Nat, m23.2.2 233 3 = z := ⟨_, rfl⟩
            obtain ⟨nt24, ht24, hF⟩ := hF t24 et24
            refine go_getD (k := 3) (r := t24) dX3_readLaw_124 sh_233 rfl inX3 (Nat.le_of_ble_eq_true rfl) lf_X3_28 rfl ⟨et24, nt24⟩ ?_
            refine go_getR (k := 8) (r := (t24 + 5)) dX3_readLaw_127 ht24.1 rfl inX8 (Nat.le_of_ble_eq_true rfl) lf_X3_135 rfl rfl ?_
            refine go_iload_n dX3_readLaw_130 rfl ?_
            refine go_aload_n dX3_readLaw_131 rfl ?_
            obtain ⟨t25, et25⟩ : ∃ z : Nat, m23.2.2 233 3 = z := ⟨_, rfl⟩
            obtain ⟨nt25, ht25, hF⟩ := hF t25 et25
            refine go_getD (k := 3) (r := t25) dX3_readLaw_132 sh_233 rfl inX3 (Nat.le_of_ble_eq_true rfl) lf_X3_28 rfl ⟨et25, nt25⟩ ?_
            refine go_getI (k := 5) dX3_readLaw_135 ht25.1 rfl inX8 (Nat.le_of_ble_eq_true rfl) lf_X3_104 rfl ?_
            obtain ⟨hi, hF⟩ := hF
            refine go_iast dX3_readLaw_138 ht24.2.2.2.2.2 hi ?_
            obtain ⟨m26, em26⟩ : ∃ z : Mem, z = wI m23 (t24 + 5) l1.toNatClampNeg (m23.1 t25 5) := ⟨_, rfl⟩
            rw [← em26]
            have hF := hF m26 em26
            exact go_vret (S := []) dX3_readLaw_139 rfl ⟨rfl, hF⟩
    · have hF := hF.2 hc
      refine go_aload_n dX3_readLaw_62 rfl ?_
      refine go_iload_n dX3_readLaw_63 rfl ?_
      refine go_callV mX3_readValue dX3_readLaw_64 lm_X3_126 okX3_readValue isX3_readValue sh_233 rfl (As := [.int l1]) (S := []) rfl rfl (Nat.le_of_ble_eq_true rfl) hF (k_v (fun m27 hF => ?_))
      refine go_goto 100 dX3_readLaw_67 rfl ?_
      refine go_aload_n dX3_readLaw_100 rfl ?_
      refine go_getI (k := 0) dX3_readLaw_101 sh_233 rfl inX3 (Nat.le_of_ble_eq_true rfl) lf_X3_13 rfl ?_
      refine go_if_eq 108 dX3_readLaw_104 rfl ⟨fun hc => ?_, fun hc => ?_⟩
      · have hF := hF.1 hc
        refine go_aload_n dX3_readLaw_108 rfl ?_
        refine go_callV mX3_advance dX3_readLaw_109 lm_X3_72 okX3_advance isX3_advance sh_233 rfl (As := []) (S := []) rfl rfl (Nat.le_of_ble_eq_true rfl) hF (k_v (fun m28 hF => ?_))
        obtain ⟨x29, ex29⟩ : ∃ z : Int32, z = l2 + 1 := ⟨_, rfl⟩
        have hF := hF x29 ex29
        refine go_iinc (v := x29) (L' := [.ref (ga G 233), .int l1, .int x29]) dX3_readLaw_112 rfl (by rw [ex29]; rfl) (Nat.le_of_ble_eq_true rfl) rfl ?_
        refine go_goto 48 dX3_readLaw_115 rfl ?_
        exact hF
      · have hF := hF.2 hc
        exact go_vret (S := []) dX3_readLaw_107 rfl ⟨rfl, hF⟩
theorem vX3_readValue (G : GP) (d : Nat) (a0 : Int32) (m : Mem) (K : Mem → Prop) (hF : ((m.1 233 5) = 2 → vp_in (m.1 233 4) 301 ∧ (((m.1 232 (m.1 233 4).toNatClampNeg) ≤ 9999) → vp_in (m.1 233 4) 301 ∧ Evv G (d + 2) mX3_putValue [.ref (ga G 233), .int ((1000 : Int32) + (m.1 232 (m.1 233 4).toNatClampNeg))] m (fun m1 => K m1)) ∧ ((¬ (m.1 232 (m.1 233 4).toNatClampNeg) ≤ 9999) → Evv G (d + 2) mX3_fail [.ref (ga G 233), .int 2] m (fun m2 => K m2))) ∧ ((m.1 233 5) = 40 → ∀ m3 : Mem, m3 = wI m 233 9 ((m.1 233 9) + 1) → ∀ m4 : Mem, m4 = wI m3 233 11 0 → Evv G (d + 2) mX3_putOpen [.ref (ga G 233), .int 40] m4 (fun m5 => K m5)) ∧ ((m.1 233 5) = 45 → ∀ m6 : Mem, m6 = wI m 233 11 0 → Evv G (d + 2) mX3_putOpen [.ref (ga G 233), .int 5] m6 (fun m7 => K m7)) ∧ ((m.1 233 5) = 116 → (((m.1 233 11) = 0) → Evv G (d + 2) mX3_fail [.ref (ga G 233), .int 1] m (fun m8 => K m8)) ∧ ((¬ (m.1 233 11) = 0) → Evv G (d + 2) mX3_putOpen [.ref (ga G 233), .int 116] m (fun m9 => K m9))) ∧ (¬ (m.1 233 5) = 2 ∧ ¬ (m.1 233 5) = 40 ∧ ¬ (m.1 233 5) = 45 ∧ ¬ (m.1 233 5) = 116 → Evv G (d + 2) mX3_readName [.ref (ga G 233), .int a0] m (fun m10 => K m10))) : Evv G (d + 3) mX3_readValue [.ref (ga G 233), .int a0] m K := by
  refine Ev.go [.ref (ga G 233), .int a0] (by decide) (Nat.le_of_ble_eq_true rfl) rfl ?_
  refine go_aload_n dX3_readValue_0 rfl ?_
  refine go_getI (k := 5) dX3_readValue_1 sh_233 rfl inX3 (Nat.le_of_ble_eq_true rfl) lf_X3_46 rfl ?_
  rcases Decidable.em ((m.1 233 5) = 2) with hc0 | hc0
  · have hF := hF.1 hc0
    refine go_lookup (off := 44) 48 dX3_readValue_4 (by decide) (by rw [hc0]; rfl) rfl ?_
    refine go_aload_n dX3_readValue_48 rfl ?_
    refine go_getR (k := 2) (r := 228) dX3_readValue_49 sh_233 rfl inX3 (Nat.le_of_ble_eq_true rfl) lf_X3_24 rfl rfl ?_
    refine go_getR (k := 4) (r := 232) dX3_readValue_52 sh_228 rfl inX7 (Nat.le_of_ble_eq_true rfl) lf_X3_91 rfl rfl ?_
    refine go_aload_n dX3_readValue_55 rfl ?_
    refine go_getI (k := 4) dX3_readValue_56 sh_233 rfl inX3 (Nat.le_of_ble_eq_true rfl) lf_X3_40 rfl ?_
    obtain ⟨hi, hF⟩ := hF
    refine go_iald dX3_readValue_59 sh_232 hi ?_
    refine go_sipush (v := 9999) dX3_readValue_60 (by decide) ?_
    refine go_icmp_le 74 dX3_readValue_63 rfl ⟨fun hc => ?_, fun hc => ?_⟩
    · have hF := hF.1 hc
      refine go_aload_n dX3_readValue_74 rfl ?_
      refine go_sipush (v := 1000) dX3_readValue_75 (by decide) ?_
      refine go_aload_n dX3_readValue_78 rfl ?_
      refine go_getR (k := 2) (r := 228) dX3_readValue_79 sh_233 rfl inX3 (Nat.le_of_ble_eq_true rfl) lf_X3_24 rfl rfl ?_
      refine go_getR (k := 4) (r := 232) dX3_readValue_82 sh_228 rfl inX7 (Nat.le_of_ble_eq_true rfl) lf_X3_91 rfl rfl ?_
      refine go_aload_n dX3_readValue_85 rfl ?_
      refine go_getI (k := 4) dX3_readValue_86 sh_233 rfl inX3 (Nat.le_of_ble_eq_true rfl) lf_X3_40 rfl ?_
      obtain ⟨hi, hF⟩ := hF
      refine go_iald dX3_readValue_89 sh_232 hi ?_
      refine go_iadd dX3_readValue_90 ?_
      refine go_callV mX3_putValue dX3_readValue_91 lm_X3_138 okX3_putValue isX3_putValue sh_233 rfl (As := [.int ((1000 : Int32) + (m.1 232 (m.1 233 4).toNatClampNeg))]) (S := []) rfl rfl (Nat.le_of_ble_eq_true rfl) hF (k_v (fun m1 hF => ?_))
      refine go_goto 163 dX3_readValue_94 rfl ?_
      exact go_vret (S := []) dX3_readValue_163 rfl ⟨rfl, hF⟩
    · have hF := hF.2 hc
      refine go_aload_n dX3_readValue_66 rfl ?_
      refine go_iconst (v := 2) dX3_readValue_67 (by decide) ?_
      refine go_callV mX3_fail dX3_readValue_68 lm_X3_58 okX3_fail isX3_fail sh_233 rfl (As := [.int 2]) (S := []) rfl rfl (Nat.le_of_ble_eq_true rfl) hF (k_v (fun m2 hF => ?_))
      refine go_goto 163 dX3_readValue_71 rfl ?_
      exact go_vret (S := []) dX3_readValue_163 rfl ⟨rfl, hF⟩
  rcases Decidable.em ((m.1 233 5) = 40) with hc1 | hc1
  · have hF := hF.2.1 hc1
    refine go_lookup (off := 93) 97 dX3_readValue_4 (by decide) (by rw [hc1]; rfl) rfl ?_
    refine go_aload_n dX3_readValue_97 rfl ?_
    refine go_dup dX3_readValue_98 rfl ?_
    refine go_getI (k := 9) dX3_readValue_99 sh_233 rfl inX3 (Nat.le_of_ble_eq_true rfl) lf_X3_113 rfl ?_
    refine go_iconst (v := 1) dX3_readValue_102 (by decide) ?_
    refine go_iadd dX3_readValue_103 ?_
    refine go_putI (k := 9) dX3_readValue_104 sh_233 rfl inX3 (Nat.le_of_ble_eq_true rfl) lf_X3_113 tyX3 tyX3_ok nmX3 rfl rfl (by decide +kernel) ?_
    obtain ⟨m3, em3⟩ : ∃ z : Mem, z = wI m 233 9 ((m.1 233 9) + 1) := ⟨_, rfl⟩
    rw [← em3]
    have hF := hF m3 em3
    refine go_aload_n dX3_readValue_107 rfl ?_
    refine go_iconst (v := 0) dX3_readValue_108 (by decide) ?_
    refine go_putZ (k := 11) dX3_readValue_109 sh_233 rfl inX3 (Nat.le_of_ble_eq_true rfl) lf_X3_120 tyX3 tyX3_ok nmX3 rfl rfl (by decide +kernel) (by decide) ?_
    obtain ⟨m4, em4⟩ : ∃ z : Mem, z = wI m3 233 11 0 := ⟨_, rfl⟩
    rw [← em4]
    have hF := hF m4 em4
    refine go_aload_n dX3_readValue_112 rfl ?_
    refine go_bipush (v := 40) dX3_readValue_113 (by decide) ?_
    refine go_callV mX3_putOpen dX3_readValue_115 lm_X3_141 okX3_putOpen isX3_putOpen sh_233 rfl (As := [.int 40]) (S := []) rfl rfl (Nat.le_of_ble_eq_true rfl) hF (k_v (fun m5 hF => ?_))
    refine go_goto 163 dX3_readValue_118 rfl ?_
    exact go_vret (S := []) dX3_readValue_163 rfl ⟨rfl, hF⟩
  rcases Decidable.em ((m.1 233 5) = 45) with hc2 | hc2
  · have hF := hF.2.2.1 hc2
    refine go_lookup (off := 117) 121 dX3_readValue_4 (by decide) (by rw [hc2]; rfl) rfl ?_
    refine go_aload_n dX3_readValue_121 rfl ?_
    refine go_iconst (v := 0) dX3_readValue_122 (by decide) ?_
    refine go_putZ (k := 11) dX3_readValue_123 sh_233 rfl inX3 (Nat.le_of_ble_eq_true rfl) lf_X3_120 tyX3 tyX3_ok nmX3 rfl rfl (by decide +kernel) (by decide) ?_
    obtain ⟨m6, em6⟩ : ∃ z : Mem, z = wI m 233 11 0 := ⟨_, rfl⟩
    rw [← em6]
    have hF := hF m6 em6
    refine go_aload_n dX3_readValue_126 rfl ?_
    refine go_iconst (v := 5) dX3_readValue_127 (by decide) ?_
    refine go_callV mX3_putOpen dX3_readValue_128 lm_X3_141 okX3_putOpen isX3_putOpen sh_233 rfl (As := [.int 5]) (S := []) rfl rfl (Nat.le_of_ble_eq_true rfl) hF (k_v (fun m7 hF => ?_))
    refine go_goto 163 dX3_readValue_131 rfl ?_
    exact go_vret (S := []) dX3_readValue_163 rfl ⟨rfl, hF⟩
  rcases Decidable.em ((m.1 233 5) = 116) with hc3 | hc3
  · have hF := hF.2.2.2.1 hc3
    refine go_lookup (off := 130) 134 dX3_readValue_4 (by decide) (by rw [hc3]; rfl) rfl ?_
    refine go_aload_n dX3_readValue_134 rfl ?_
    refine go_getI (k := 11) dX3_readValue_135 sh_233 rfl inX3 (Nat.le_of_ble_eq_true rfl) lf_X3_120 rfl ?_
    refine go_if_eq 150 dX3_readValue_138 rfl ⟨fun hc => ?_, fun hc => ?_⟩
    · have hF := hF.1 hc
      refine go_aload_n dX3_readValue_150 rfl ?_
      refine go_iconst (v := 1) dX3_readValue_151 (by decide) ?_
      refine go_callV mX3_fail dX3_readValue_152 lm_X3_58 okX3_fail isX3_fail sh_233 rfl (As := [.int 1]) (S := []) rfl rfl (Nat.le_of_ble_eq_true rfl) hF (k_v (fun m8 hF => ?_))
      refine go_goto 163 dX3_readValue_155 rfl ?_
      exact go_vret (S := []) dX3_readValue_163 rfl ⟨rfl, hF⟩
    · have hF := hF.2 hc
      refine go_aload_n dX3_readValue_141 rfl ?_
      refine go_bipush (v := 116) dX3_readValue_142 (by decide) ?_
      refine go_callV mX3_putOpen dX3_readValue_144 lm_X3_141 okX3_putOpen isX3_putOpen sh_233 rfl (As := [.int 116]) (S := []) rfl rfl (Nat.le_of_ble_eq_true rfl) hF (k_v (fun m9 hF => ?_))
      refine go_goto 163 dX3_readValue_147 rfl ?_
      exact go_vret (S := []) dX3_readValue_163 rfl ⟨rfl, hF⟩
  have hF := hF.2.2.2.2 ⟨hc0, hc1, hc2, hc3⟩
  refine go_lookup 158 dX3_readValue_4 (by decide) (look_out (m.1 233 5) _ _ (by simp only [List.forall_mem_cons, List.not_mem_nil, false_implies, implies_true, and_true]; exact ⟨ne_toInt (by decide) hc0, ne_toInt (by decide) hc1, ne_toInt (by decide) hc2, ne_toInt (by decide) hc3⟩)) rfl ?_
  refine go_aload_n dX3_readValue_158 rfl ?_
  refine go_iload_n dX3_readValue_159 rfl ?_
  refine go_callV mX3_readName dX3_readValue_160 lm_X3_144 okX3_readName isX3_readName sh_233 rfl (As := [.int a0]) (S := []) rfl rfl (Nat.le_of_ble_eq_true rfl) hF (k_v (fun m10 hF => ?_))
  exact go_vret (S := []) dX3_readValue_163 rfl ⟨rfl, hF⟩
theorem vX3_readName (G : GP) (d : Nat) (a0 : Int32) (m : Mem) (K : Mem → Prop) (hF : (((m.1 233 5) < 100) → ((¬ ((0 : Int32) &&& 8272776) = 0) → Evi G (d + 1) mX3_namesOf [.int a0] m (fun r2 m1 => ((¬ ((0 : Int32) &&& r2) = 0) → ∀ t3 : Nat, m1.2.2 233 3 = t3 → t3 ≠ 0 ∧ TxAt t3 ∧ ((¬ (m1.1 233 5) = 122) → (((m1.1 t3 4) ||| 0) = 0 ∨ ((m1.1 t3 4) ||| 0) = 1) ∧ ∀ m4 : Mem, m4 = wI m1 t3 4 ((m1.1 t3 4) ||| 0) → Evv G (d + 1) mX3_putValue [.ref (ga G 233), .int (m4.1 233 5)] m4 (fun m5 => K m5)) ∧ (((m1.1 233 5) = 122) → (((m1.1 t3 4) ||| 1) = 0 ∨ ((m1.1 t3 4) ||| 1) = 1) ∧ ∀ m6 : Mem, m6 = wI m1 t3 4 ((m1.1 t3 4) ||| 1) → Evv G (d + 1) mX3_putValue [.ref (ga G 233), .int (m6.1 233 5)] m6 (fun m7 => K m7))) ∧ ((((0 : Int32) &&& r2) = 0) → Evv G (d + 1) mX3_fail [.ref (ga G 233), .int 5] m1 (fun m8 => K m8)))) ∧ ((((0 : Int32) &&& 8272776) = 0) → Evv G (d + 1) mX3_fail [.ref (ga G 233), .int 1] m (fun m9 => K m9))) ∧ ((¬ (m.1 233 5) < 100) → ∀ x10 : Int32, x10 = (1 : Int32) <<< (((m.1 233 5) - 100) &&& 31) → ((¬ (x10 &&& 8272776) = 0) → Evi G (d + 1) mX3_namesOf [.int a0] m (fun r12 m11 => ((¬ (x10 &&& r12) = 0) → ∀ t13 : Nat, m11.2.2 233 3 = t13 → t13 ≠ 0 ∧ TxAt t13 ∧ ((¬ (m11.1 233 5) = 122) → (((m11.1 t13 4) ||| 0) = 0 ∨ ((m11.1 t13 4) ||| 0) = 1) ∧ ∀ m14 : Mem, m14 = wI m11 t13 4 ((m11.1 t13 4) ||| 0) → Evv G (d + 1) mX3_putValue [.ref (ga G 233), .int (m14.1 233 5)] m14 (fun m15 => K m15)) ∧ (((m11.1 233 5) = 122) → (((m11.1 t13 4) ||| 1) = 0 ∨ ((m11.1 t13 4) ||| 1) = 1) ∧ ∀ m16 : Mem, m16 = wI m11 t13 4 ((m11.1 t13 4) ||| 1) → Evv G (d + 1) mX3_putValue [.ref (ga G 233), .int (m16.1 233 5)] m16 (fun m17 => K m17))) ∧ (((x10 &&& r12) = 0) → Evv G (d + 1) mX3_fail [.ref (ga G 233), .int 5] m11 (fun m18 => K m18)))) ∧ (((x10 &&& 8272776) = 0) → Evv G (d + 1) mX3_fail [.ref (ga G 233), .int 1] m (fun m19 => K m19)))) : Evv G (d + 2) mX3_readName [.ref (ga G 233), .int a0] m K := by
  refine Ev.go [.ref (ga G 233), .int a0, uu] (by decide) (Nat.le_of_ble_eq_true rfl) rfl ?_
  refine go_aload_n dX3_readName_0 rfl ?_
  refine go_getI (k := 5) dX3_readName_1 sh_233 rfl inX3 (Nat.le_of_ble_eq_true rfl) lf_X3_46 rfl ?_
  refine go_bipush (v := 100) dX3_readName_4 (by decide) ?_
  refine go_icmp_lt 21 dX3_readName_6 rfl ⟨fun hc => ?_, fun hc => ?_⟩
  · have hF := hF.1 hc
    refine go_iconst (v := 0) dX3_readName_21 (by decide) ?_
    refine go_istore_n (L' := [.ref (ga G 233), .int a0, .int 0]) dX3_readName_22 (Nat.le_of_ble_eq_true rfl) rfl ?_
    refine go_iload_n dX3_readName_23 rfl ?_
    refine go_ldc (v := 8272776) dX3_readName_24 lc_X3_147 ?_
    refine go_iand dX3_readName_26 ?_
    refine go_if_ne 38 dX3_readName_27 rfl ⟨fun hc => ?_, fun hc => ?_⟩
    · have hF := hF.1 hc
      refine go_iload_n dX3_readName_38 rfl ?_
      refine go_iload_n dX3_readName_39 rfl ?_
      refine go_callS mX3_namesOf dX3_readName_40 lm_X3_148 okX3_namesOf isX3_namesOf (As := [.int a0]) (S := [.int 0]) rfl rfl (Nat.le_of_ble_eq_true rfl) hF (k_i (fun r2 m1 hF => ?_))
      refine go_iand dX3_readName_43 ?_
      refine go_if_ne 55 dX3_readName_44 rfl ⟨fun hc => ?_, fun hc => ?_⟩
      · have hF := hF.1 hc
        refine go_aload_n dX3_readName_55 rfl ?_
        obtain ⟨t3, et3⟩ : ∃ z : Nat, m1.2.2 233 3 = z := ⟨_, rfl⟩
        obtain ⟨nt3, ht3, hF⟩ := hF t3 et3
        refine go_getD (k := 3) (r := t3) dX3_readName_56 sh_233 rfl inX3 (Nat.le_of_ble_eq_true rfl) lf_X3_28 rfl ⟨et3, nt3⟩ ?_
        refine go_dup dX3_readName_59 rfl ?_
        refine go_getI (k := 4) dX3_readName_60 ht3.1 rfl inX8 (Nat.le_of_ble_eq_true rfl) lf_X3_152 rfl ?_
        refine go_aload_n dX3_readName_63 rfl ?_
        refine go_getI (k := 5) dX3_readName_64 sh_233 rfl inX3 (Nat.le_of_ble_eq_true rfl) lf_X3_46 rfl ?_
        refine go_bipush (v := 122) dX3_readName_67 (by decide) ?_
        refine go_icmp_ne 76 dX3_readName_69 rfl ⟨fun hc => ?_, fun hc => ?_⟩
        · have hF := hF.1 hc
          refine go_iconst (v := 0) dX3_readName_76 (by decide) ?_
          refine go_ior dX3_readName_77 ?_
          obtain ⟨hb, hF⟩ := hF
          refine go_putZ (k := 4) dX3_readName_78 ht3.1 rfl inX8 (Nat.le_of_ble_eq_true rfl) lf_X3_152 tyX8 tyX8_ok nmX8 rfl rfl (by decide +kernel) hb ?_
          obtain ⟨m4, em4⟩ : ∃ z : Mem, z = wI m1 t3 4 ((m1.1 t3 4) ||| 0) := ⟨_, rfl⟩
          rw [← em4]
          have hF := hF m4 em4
          refine go_aload_n dX3_readName_81 rfl ?_
          refine go_aload_n dX3_readName_82 rfl ?_
          refine go_getI (k := 5) dX3_readName_83 sh_233 rfl inX3 (Nat.le_of_ble_eq_true rfl) lf_X3_46 rfl ?_
          refine go_callV mX3_putValue dX3_readName_86 lm_X3_138 okX3_putValue isX3_putValue sh_233 rfl (As := [.int (m4.1 233 5)]) (S := []) rfl rfl (Nat.le_of_ble_eq_true rfl) hF (k_v (fun m5 hF => ?_))
          exact go_vret (S := []) dX3_readName_89 rfl ⟨rfl, hF⟩
        · have hF := hF.2 hc
          refine go_iconst (v := 1) dX3_readName_72 (by decide) ?_
          refine go_goto 77 dX3_readName_73 rfl ?_
          refine go_ior dX3_readName_77 ?_
          obtain ⟨hb, hF⟩ := hF
          refine go_putZ (k := 4) dX3_readName_78 ht3.1 rfl inX8 (Nat.le_of_ble_eq_true rfl) lf_X3_152 tyX8 tyX8_ok nmX8 rfl rfl (by decide +kernel) hb ?_
          obtain ⟨m6, em6⟩ : ∃ z : Mem, z = wI m1 t3 4 ((m1.1 t3 4) ||| 1) := ⟨_, rfl⟩
          rw [← em6]
          have hF := hF m6 em6
          refine go_aload_n dX3_readName_81 rfl ?_
          refine go_aload_n dX3_readName_82 rfl ?_
          refine go_getI (k := 5) dX3_readName_83 sh_233 rfl inX3 (Nat.le_of_ble_eq_true rfl) lf_X3_46 rfl ?_
          refine go_callV mX3_putValue dX3_readName_86 lm_X3_138 okX3_putValue isX3_putValue sh_233 rfl (As := [.int (m6.1 233 5)]) (S := []) rfl rfl (Nat.le_of_ble_eq_true rfl) hF (k_v (fun m7 hF => ?_))
          exact go_vret (S := []) dX3_readName_89 rfl ⟨rfl, hF⟩
      · have hF := hF.2 hc
        refine go_aload_n dX3_readName_47 rfl ?_
        refine go_iconst (v := 5) dX3_readName_48 (by decide) ?_
        refine go_callV mX3_fail dX3_readName_49 lm_X3_58 okX3_fail isX3_fail sh_233 rfl (As := [.int 5]) (S := []) rfl rfl (Nat.le_of_ble_eq_true rfl) hF (k_v (fun m8 hF => ?_))
        refine go_goto 89 dX3_readName_52 rfl ?_
        exact go_vret (S := []) dX3_readName_89 rfl ⟨rfl, hF⟩
    · have hF := hF.2 hc
      refine go_aload_n dX3_readName_30 rfl ?_
      refine go_iconst (v := 1) dX3_readName_31 (by decide) ?_
      refine go_callV mX3_fail dX3_readName_32 lm_X3_58 okX3_fail isX3_fail sh_233 rfl (As := [.int 1]) (S := []) rfl rfl (Nat.le_of_ble_eq_true rfl) hF (k_v (fun m9 hF => ?_))
      refine go_goto 89 dX3_readName_35 rfl ?_
      exact go_vret (S := []) dX3_readName_89 rfl ⟨rfl, hF⟩
  · have hF := hF.2 hc
    refine go_iconst (v := 1) dX3_readName_9 (by decide) ?_
    refine go_aload_n dX3_readName_10 rfl ?_
    refine go_getI (k := 5) dX3_readName_11 sh_233 rfl inX3 (Nat.le_of_ble_eq_true rfl) lf_X3_46 rfl ?_
    refine go_bipush (v := 100) dX3_readName_14 (by decide) ?_
    refine go_isub dX3_readName_16 ?_
    refine go_ishl dX3_readName_17 ?_
    refine go_goto 22 dX3_readName_18 rfl ?_
    refine Gw.namei (fun x10 ex10 => ?_)
    have hF := hF x10 ex10
    refine go_istore_n (L' := [.ref (ga G 233), .int a0, .int x10]) dX3_readName_22 (Nat.le_of_ble_eq_true rfl) rfl ?_
    refine go_iload_n dX3_readName_23 rfl ?_
    refine go_ldc (v := 8272776) dX3_readName_24 lc_X3_147 ?_
    refine go_iand dX3_readName_26 ?_
    refine go_if_ne 38 dX3_readName_27 rfl ⟨fun hc => ?_, fun hc => ?_⟩
    · have hF := hF.1 hc
      refine go_iload_n dX3_readName_38 rfl ?_
      refine go_iload_n dX3_readName_39 rfl ?_
      refine go_callS mX3_namesOf dX3_readName_40 lm_X3_148 okX3_namesOf isX3_namesOf (As := [.int a0]) (S := [.int x10]) rfl rfl (Nat.le_of_ble_eq_true rfl) hF (k_i (fun r12 m11 hF => ?_))
      refine go_iand dX3_readName_43 ?_
      refine go_if_ne 55 dX3_readName_44 rfl ⟨fun hc => ?_, fun hc => ?_⟩
      · have hF := hF.1 hc
        refine go_aload_n dX3_readName_55 rfl ?_
        obtain ⟨t13, et13⟩ : ∃ z : Nat, m11.2.2 233 3 = z := ⟨_, rfl⟩
        obtain ⟨nt13, ht13, hF⟩ := hF t13 et13
        refine go_getD (k := 3) (r := t13) dX3_readName_56 sh_233 rfl inX3 (Nat.le_of_ble_eq_true rfl) lf_X3_28 rfl ⟨et13, nt13⟩ ?_
        refine go_dup dX3_readName_59 rfl ?_
        refine go_getI (k := 4) dX3_readName_60 ht13.1 rfl inX8 (Nat.le_of_ble_eq_true rfl) lf_X3_152 rfl ?_
        refine go_aload_n dX3_readName_63 rfl ?_
        refine go_getI (k := 5) dX3_readName_64 sh_233 rfl inX3 (Nat.le_of_ble_eq_true rfl) lf_X3_46 rfl ?_
        refine go_bipush (v := 122) dX3_readName_67 (by decide) ?_
        refine go_icmp_ne 76 dX3_readName_69 rfl ⟨fun hc => ?_, fun hc => ?_⟩
        · have hF := hF.1 hc
          refine go_iconst (v := 0) dX3_readName_76 (by decide) ?_
          refine go_ior dX3_readName_77 ?_
          obtain ⟨hb, hF⟩ := hF
          refine go_putZ (k := 4) dX3_readName_78 ht13.1 rfl inX8 (Nat.le_of_ble_eq_true rfl) lf_X3_152 tyX8 tyX8_ok nmX8 rfl rfl (by decide +kernel) hb ?_
          obtain ⟨m14, em14⟩ : ∃ z : Mem, z = wI m11 t13 4 ((m11.1 t13 4) ||| 0) := ⟨_, rfl⟩
          rw [← em14]
          have hF := hF m14 em14
          refine go_aload_n dX3_readName_81 rfl ?_
          refine go_aload_n dX3_readName_82 rfl ?_
          refine go_getI (k := 5) dX3_readName_83 sh_233 rfl inX3 (Nat.le_of_ble_eq_true rfl) lf_X3_46 rfl ?_
          refine go_callV mX3_putValue dX3_readName_86 lm_X3_138 okX3_putValue isX3_putValue sh_233 rfl (As := [.int (m14.1 233 5)]) (S := []) rfl rfl (Nat.le_of_ble_eq_true rfl) hF (k_v (fun m15 hF => ?_))
          exact go_vret (S := []) dX3_readName_89 rfl ⟨rfl, hF⟩
        · have hF := hF.2 hc
          refine go_iconst (v := 1) dX3_readName_72 (by decide) ?_
          refine go_goto 77 dX3_readName_73 rfl ?_
          refine go_ior dX3_readName_77 ?_
          obtain ⟨hb, hF⟩ := hF
          refine go_putZ (k := 4) dX3_readName_78 ht13.1 rfl inX8 (Nat.le_of_ble_eq_true rfl) lf_X3_152 tyX8 tyX8_ok nmX8 rfl rfl (by decide +kernel) hb ?_
          obtain ⟨m16, em16⟩ : ∃ z : Mem, z = wI m11 t13 4 ((m11.1 t13 4) ||| 1) := ⟨_, rfl⟩
          rw [← em16]
          have hF := hF m16 em16
          refine go_aload_n dX3_readName_81 rfl ?_
          refine go_aload_n dX3_readName_82 rfl ?_
          refine go_getI (k := 5) dX3_readName_83 sh_233 rfl inX3 (Nat.le_of_ble_eq_true rfl) lf_X3_46 rfl ?_
          refine go_callV mX3_putValue dX3_readName_86 lm_X3_138 okX3_putValue isX3_putValue sh_233 rfl (As := [.int (m16.1 233 5)]) (S := []) rfl rfl (Nat.le_of_ble_eq_true rfl) hF (k_v (fun m17 hF => ?_))
          exact go_vret (S := []) dX3_readName_89 rfl ⟨rfl, hF⟩
      · have hF := hF.2 hc
        refine go_aload_n dX3_readName_47 rfl ?_
        refine go_iconst (v := 5) dX3_readName_48 (by decide) ?_
        refine go_callV mX3_fail dX3_readName_49 lm_X3_58 okX3_fail isX3_fail sh_233 rfl (As := [.int 5]) (S := []) rfl rfl (Nat.le_of_ble_eq_true rfl) hF (k_v (fun m18 hF => ?_))
        refine go_goto 89 dX3_readName_52 rfl ?_
        exact go_vret (S := []) dX3_readName_89 rfl ⟨rfl, hF⟩
    · have hF := hF.2 hc
      refine go_aload_n dX3_readName_30 rfl ?_
      refine go_iconst (v := 1) dX3_readName_31 (by decide) ?_
      refine go_callV mX3_fail dX3_readName_32 lm_X3_58 okX3_fail isX3_fail sh_233 rfl (As := [.int 1]) (S := []) rfl rfl (Nat.le_of_ble_eq_true rfl) hF (k_v (fun m19 hF => ?_))
      refine go_goto 89 dX3_readName_35 rfl ?_
      exact go_vret (S := []) dX3_readName_89 rfl ⟨rfl, hF⟩
theorem vX3_namesOf (G : GP) (d : Nat) (a0 : Int32) (m : Mem) (K : Int32 → Mem → Prop) (hF : (a0 = 0 → K 400264 m) ∧ (a0 = 1 → K 7872512 m) ∧ (¬ a0 = 0 ∧ ¬ a0 = 1 → K 532480 m)) : Evi G (d) mX3_namesOf [.int a0] m K := by
  refine Ev.go [.int a0] (by decide) (Nat.le_of_ble_eq_true rfl) rfl ?_
  refine go_iload_n dX3_namesOf_0 rfl ?_
  rcases Decidable.em (a0 = 0) with hc0 | hc0
  · have hF := hF.1 hc0
    refine go_lookup (off := 27) 28 dX3_namesOf_1 (by decide) (by rw [hc0]; rfl) rfl ?_
    refine go_ldc (v := 400264) dX3_namesOf_28 lc_X3_155 ?_
    exact go_iret (S := []) dX3_namesOf_30 rfl ⟨_, rfl, hF⟩
  rcases Decidable.em (a0 = 1) with hc1 | hc1
  · have hF := hF.2.1 hc1
    refine go_lookup (off := 30) 31 dX3_namesOf_1 (by decide) (by rw [hc1]; rfl) rfl ?_
    refine go_ldc (v := 7872512) dX3_namesOf_31 lc_X3_156 ?_
    exact go_iret (S := []) dX3_namesOf_33 rfl ⟨_, rfl, hF⟩
  have hF := hF.2.2 ⟨hc0, hc1⟩
  refine go_lookup 34 dX3_namesOf_1 (by decide) (look_out a0 _ _ (by simp only [List.forall_mem_cons, List.not_mem_nil, false_implies, implies_true, and_true]; exact ⟨ne_toInt (by decide) hc0, ne_toInt (by decide) hc1⟩)) rfl ?_
  refine go_ldc (v := 532480) dX3_namesOf_34 lc_X3_157 ?_
  exact go_iret (S := []) dX3_namesOf_36 rfl ⟨_, rfl, hF⟩
theorem vX3_readOperator (G : GP) (d : Nat)  (m : Mem) (K : Mem → Prop) (hF : ∀ x1 : Int32, x1 = holdV (m.1 233 5) → ((x1 = 1) → Gw G (d + 2) mX3_readOperator 24 [.ref (ga G 233), .int x1, .int 1, uu] [] m (Qv K)) ∧ ((¬ x1 = 1) → ((¬ x1 = 2) → Gw G (d + 2) mX3_readOperator 24 [.ref (ga G 233), .int x1, .int 0, uu] [] m (Qv K)) ∧ ((x1 = 2) → Gw G (d + 2) mX3_readOperator 24 [.ref (ga G 233), .int x1, .int 1, uu] [] m (Qv K)))) : Evv G (d + 2) mX3_readOperator [.ref (ga G 233)] m K := by
  refine Ev.go [.ref (ga G 233), uu, uu, uu] (by decide) (Nat.le_of_ble_eq_true rfl) rfl ?_
  refine go_aload_n dX3_readOperator_0 rfl ?_
  refine go_getI (k := 5) dX3_readOperator_1 sh_233 rfl inX3 (Nat.le_of_ble_eq_true rfl) lf_X3_46 rfl ?_
  refine go_callS mX3_holdOf dX3_readOperator_4 lm_X3_158 okX3_holdOf isX3_holdOf (As := [.int (m.1 233 5)]) (S := []) rfl rfl (Nat.le_of_ble_eq_true rfl) (eX3_holdOf G _ (m.1 233 5) m (fun r m' => r = holdV (m.1 233 5) ∧ m = m') ⟨rfl, rfl⟩) (k_i (fun r m' hr => ?_))
  obtain ⟨hr1, hr2⟩ := hr
  subst hr1
  subst hr2
  refine Gw.namei (fun x1 ex1 => ?_)
  have hF := hF x1 ex1
  refine go_istore_n (L' := [.ref (ga G 233), .int x1, uu, uu]) dX3_readOperator_7 (Nat.le_of_ble_eq_true rfl) rfl ?_
  refine go_iload_n dX3_readOperator_8 rfl ?_
  refine go_iconst (v := 1) dX3_readOperator_9 (by decide) ?_
  refine go_icmp_eq 18 dX3_readOperator_10 rfl ⟨fun hc => ?_, fun hc => ?_⟩
  · have hF := hF.1 hc
    refine go_iconst (v := 1) dX3_readOperator_18 (by decide) ?_
    refine go_goto 23 dX3_readOperator_19 rfl ?_
    refine go_istore_n (L' := [.ref (ga G 233), .int x1, .int 1, uu]) dX3_readOperator_23 (Nat.le_of_ble_eq_true rfl) rfl ?_
    exact hF
  · have hF := hF.2 hc
    refine go_iload_n dX3_readOperator_13 rfl ?_
    refine go_iconst (v := 2) dX3_readOperator_14 (by decide) ?_
    refine go_icmp_ne 22 dX3_readOperator_15 rfl ⟨fun hc => ?_, fun hc => ?_⟩
    · have hF := hF.1 hc
      refine go_iconst (v := 0) dX3_readOperator_22 (by decide) ?_
      refine go_istore_n (L' := [.ref (ga G 233), .int x1, .int 0, uu]) dX3_readOperator_23 (Nat.le_of_ble_eq_true rfl) rfl ?_
      exact hF
    · have hF := hF.2 hc
      refine go_iconst (v := 1) dX3_readOperator_18 (by decide) ?_
      refine go_goto 23 dX3_readOperator_19 rfl ?_
      refine go_istore_n (L' := [.ref (ga G 233), .int x1, .int 1, uu]) dX3_readOperator_23 (Nat.le_of_ble_eq_true rfl) rfl ?_
      exact hF
theorem vX3_readOperator_24 (G : GP) (d : Nat) (l1 : Int32) (l2 : Int32) (u3 : Value) (m : Mem) (K : Mem → Prop) (hF : ((¬ l2 = 0) → Gw G (d + 2) mX3_readOperator 39 [.ref (ga G 233), .int l1, .int l2, .int 1] [] m (Qv K)) ∧ ((l2 = 0) → ((¬ l1 = 4) → Gw G (d + 2) mX3_readOperator 39 [.ref (ga G 233), .int l1, .int l2, .int 0] [] m (Qv K)) ∧ ((l1 = 4) → Gw G (d + 2) mX3_readOperator 39 [.ref (ga G 233), .int l1, .int l2, .int 1] [] m (Qv K)))) : Gw G (d + 2) mX3_readOperator 24 [.ref (ga G 233), .int l1, .int l2, u3] [] m (Qv K) := by
  refine Gw.weak (L' := [.ref (ga G 233), .int l1, .int l2, uu]) ⟨Or.inl rfl, Or.inl rfl, Or.inl rfl, Or.inr rfl, trivial⟩ ?_
  refine go_iload_n dX3_readOperator_24 rfl ?_
  refine go_if_ne 33 dX3_readOperator_25 rfl ⟨fun hc => ?_, fun hc => ?_⟩
  · have hF := hF.1 hc
    refine go_iconst (v := 1) dX3_readOperator_33 (by decide) ?_
    refine go_goto 38 dX3_readOperator_34 rfl ?_
    refine go_istore_n (L' := [.ref (ga G 233), .int l1, .int l2, .int 1]) dX3_readOperator_38 (Nat.le_of_ble_eq_true rfl) rfl ?_
    exact hF
  · have hF := hF.2 hc
    refine go_iload_n dX3_readOperator_28 rfl ?_
    refine go_iconst (v := 4) dX3_readOperator_29 (by decide) ?_
    refine go_icmp_ne 37 dX3_readOperator_30 rfl ⟨fun hc => ?_, fun hc => ?_⟩
    · have hF := hF.1 hc
      refine go_iconst (v := 0) dX3_readOperator_37 (by decide) ?_
      refine go_istore_n (L' := [.ref (ga G 233), .int l1, .int l2, .int 0]) dX3_readOperator_38 (Nat.le_of_ble_eq_true rfl) rfl ?_
      exact hF
    · have hF := hF.2 hc
      refine go_iconst (v := 1) dX3_readOperator_33 (by decide) ?_
      refine go_goto 38 dX3_readOperator_34 rfl ?_
      refine go_istore_n (L' := [.ref (ga G 233), .int l1, .int l2, .int 1]) dX3_readOperator_38 (Nat.le_of_ble_eq_true rfl) rfl ?_
      exact hF
theorem vX3_readOperator_39 (G : GP) (d : Nat) (l1 : Int32) (l2 : Int32) (l3 : Int32) (m : Mem) (K : Mem → Prop) (hF : ((¬ (m.1 233 5) = 41) → ((l1 = 0) → Evv G (d + 1) mX3_fail [.ref (ga G 233), .int 1] m (fun m2 => K m2)) ∧ ((¬ l1 = 0) → ((¬ l1 = 3) → Gw G (d + 2) mX3_readOperator 114 [.ref (ga G 233), .int l1, .int l2, .int l3] [] m (Qv K)) ∧ ((l1 = 3) → Evv G (d + 1) mX3_fail [.ref (ga G 233), .int 1] m (fun m3 => K m3)))) ∧ (((m.1 233 5) = 41) → (((m.1 233 9) ≤ 0) → ((l1 = 0) → Evv G (d + 1) mX3_fail [.ref (ga G 233), .int 1] m (fun m4 => K m4)) ∧ ((¬ l1 = 0) → ((¬ l1 = 3) → Gw G (d + 2) mX3_readOperator 114 [.ref (ga G 233), .int l1, .int l2, .int l3] [] m (Qv K)) ∧ ((l1 = 3) → Evv G (d + 1) mX3_fail [.ref (ga G 233), .int 1] m (fun m5 => K m5)))) ∧ ((¬ (m.1 233 9) ≤ 0) → Evv G (d + 1) mX3_settle [.ref (ga G 233), .int 1] m (fun m6 => ∀ m7 : Mem, m7 = wI m6 233 9 ((m6.1 233 9) - 1) → ∀ m8 : Mem, m8 = wI m7 233 8 ((m7.1 233 8) - 1) → ∀ m9 : Mem, m9 = wI m8 233 7 (imax 0 ((m8.1 233 7) - 1)) → K m9)))) : Gw G (d + 2) mX3_readOperator 39 [.ref (ga G 233), .int l1, .int l2, .int l3] [] m (Qv K) := by
  refine go_aload_n dX3_readOperator_39 rfl ?_
  refine go_getI (k := 5) dX3_readOperator_40 sh_233 rfl inX3 (Nat.le_of_ble_eq_true rfl) lf_X3_46 rfl ?_
  refine go_bipush (v := 41) dX3_readOperator_43 (by decide) ?_
  refine go_icmp_ne 97 dX3_readOperator_45 rfl ⟨fun hc => ?_, fun hc => ?_⟩
  · have hF := hF.1 hc
    refine go_iload_n dX3_readOperator_97 rfl ?_
    refine go_if_eq 106 dX3_readOperator_98 rfl ⟨fun hc => ?_, fun hc => ?_⟩
    · have hF := hF.1 hc
      refine go_aload_n dX3_readOperator_106 rfl ?_
      refine go_iconst (v := 1) dX3_readOperator_107 (by decide) ?_
      refine go_callV mX3_fail dX3_readOperator_108 lm_X3_58 okX3_fail isX3_fail sh_233 rfl (As := [.int 1]) (S := []) rfl rfl (Nat.le_of_ble_eq_true rfl) hF (k_v (fun m2 hF => ?_))
      refine go_goto 211 dX3_readOperator_111 rfl ?_
      exact go_vret (S := []) dX3_readOperator_211 rfl ⟨rfl, hF⟩
    · have hF := hF.2 hc
      refine go_iload_n dX3_readOperator_101 rfl ?_
      refine go_iconst (v := 3) dX3_readOperator_102 (by decide) ?_
      refine go_icmp_ne 114 dX3_readOperator_103 rfl ⟨fun hc => ?_, fun hc => ?_⟩
      · have hF := hF.1 hc
        exact hF
      · have hF := hF.2 hc
        refine go_aload_n dX3_readOperator_106 rfl ?_
        refine go_iconst (v := 1) dX3_readOperator_107 (by decide) ?_
        refine go_callV mX3_fail dX3_readOperator_108 lm_X3_58 okX3_fail isX3_fail sh_233 rfl (As := [.int 1]) (S := []) rfl rfl (Nat.le_of_ble_eq_true rfl) hF (k_v (fun m3 hF => ?_))
        refine go_goto 211 dX3_readOperator_111 rfl ?_
        exact go_vret (S := []) dX3_readOperator_211 rfl ⟨rfl, hF⟩
  · have hF := hF.2 hc
    refine go_aload_n dX3_readOperator_48 rfl ?_
    refine go_getI (k := 9) dX3_readOperator_49 sh_233 rfl inX3 (Nat.le_of_ble_eq_true rfl) lf_X3_113 rfl ?_
    refine go_if_le 97 dX3_readOperator_52 rfl ⟨fun hc => ?_, fun hc => ?_⟩
    · have hF := hF.1 hc
      refine go_iload_n dX3_readOperator_97 rfl ?_
      refine go_if_eq 106 dX3_readOperator_98 rfl ⟨fun hc => ?_, fun hc => ?_⟩
      · have hF := hF.1 hc
        refine go_aload_n dX3_readOperator_106 rfl ?_
        refine go_iconst (v := 1) dX3_readOperator_107 (by decide) ?_
        refine go_callV mX3_fail dX3_readOperator_108 lm_X3_58 okX3_fail isX3_fail sh_233 rfl (As := [.int 1]) (S := []) rfl rfl (Nat.le_of_ble_eq_true rfl) hF (k_v (fun m4 hF => ?_))
        refine go_goto 211 dX3_readOperator_111 rfl ?_
        exact go_vret (S := []) dX3_readOperator_211 rfl ⟨rfl, hF⟩
      · have hF := hF.2 hc
        refine go_iload_n dX3_readOperator_101 rfl ?_
        refine go_iconst (v := 3) dX3_readOperator_102 (by decide) ?_
        refine go_icmp_ne 114 dX3_readOperator_103 rfl ⟨fun hc => ?_, fun hc => ?_⟩
        · have hF := hF.1 hc
          exact hF
        · have hF := hF.2 hc
          refine go_aload_n dX3_readOperator_106 rfl ?_
          refine go_iconst (v := 1) dX3_readOperator_107 (by decide) ?_
          refine go_callV mX3_fail dX3_readOperator_108 lm_X3_58 okX3_fail isX3_fail sh_233 rfl (As := [.int 1]) (S := []) rfl rfl (Nat.le_of_ble_eq_true rfl) hF (k_v (fun m5 hF => ?_))
          refine go_goto 211 dX3_readOperator_111 rfl ?_
          exact go_vret (S := []) dX3_readOperator_211 rfl ⟨rfl, hF⟩
    · have hF := hF.2 hc
      refine go_aload_n dX3_readOperator_55 rfl ?_
      refine go_iconst (v := 1) dX3_readOperator_56 (by decide) ?_
      refine go_callV mX3_settle dX3_readOperator_57 lm_X3_132 okX3_settle isX3_settle sh_233 rfl (As := [.int 1]) (S := []) rfl rfl (Nat.le_of_ble_eq_true rfl) hF (k_v (fun m6 hF => ?_))
      refine go_aload_n dX3_readOperator_60 rfl ?_
      refine go_dup dX3_readOperator_61 rfl ?_
      refine go_getI (k := 9) dX3_readOperator_62 sh_233 rfl inX3 (Nat.le_of_ble_eq_true rfl) lf_X3_113 rfl ?_
      refine go_iconst (v := 1) dX3_readOperator_65 (by decide) ?_
      refine go_isub dX3_readOperator_66 ?_
      refine go_putI (k := 9) dX3_readOperator_67 sh_233 rfl inX3 (Nat.le_of_ble_eq_true rfl) lf_X3_113 tyX3 tyX3_ok nmX3 rfl rfl (by decide +kernel) ?_
      obtain ⟨m7, em7⟩ : ∃ z : Mem, z = wI m6 233 9 ((m6.1 233 9) - 1) := ⟨_, rfl⟩
      rw [← em7]
      have hF := hF m7 em7
      refine go_aload_n dX3_readOperator_70 rfl ?_
      refine go_dup dX3_readOperator_71 rfl ?_
      refine go_getI (k := 8) dX3_readOperator_72 sh_233 rfl inX3 (Nat.le_of_ble_eq_true rfl) lf_X3_110 rfl ?_
      refine go_iconst (v := 1) dX3_readOperator_75 (by decide) ?_
      refine go_isub dX3_readOperator_76 ?_
      refine go_putI (k := 8) dX3_readOperator_77 sh_233 rfl inX3 (Nat.le_of_ble_eq_true rfl) lf_X3_110 tyX3 tyX3_ok nmX3 rfl rfl (by decide +kernel) ?_
      obtain ⟨m8, em8⟩ : ∃ z : Mem, z = wI m7 233 8 ((m7.1 233 8) - 1) := ⟨_, rfl⟩
      rw [← em8]
      have hF := hF m8 em8
      refine go_aload_n dX3_readOperator_80 rfl ?_
      refine go_iconst (v := 0) dX3_readOperator_81 (by decide) ?_
      refine go_aload_n dX3_readOperator_82 rfl ?_
      refine go_getI (k := 7) dX3_readOperator_83 sh_233 rfl inX3 (Nat.le_of_ble_eq_true rfl) lf_X3_107 rfl ?_
      refine go_iconst (v := 1) dX3_readOperator_86 (by decide) ?_
      refine go_isub dX3_readOperator_87 ?_
      refine go_mmax dX3_readOperator_88 lm_X3_161 (Nat.le_of_ble_eq_true rfl) ?_
      refine go_putI (k := 7) dX3_readOperator_91 sh_233 rfl inX3 (Nat.le_of_ble_eq_true rfl) lf_X3_107 tyX3 tyX3_ok nmX3 rfl rfl (by decide +kernel) ?_
      obtain ⟨m9, em9⟩ : ∃ z : Mem, z = wI m8 233 7 (imax 0 ((m8.1 233 7) - 1)) := ⟨_, rfl⟩
      rw [← em9]
      have hF := hF m9 em9
      refine go_goto 211 dX3_readOperator_94 rfl ?_
      exact go_vret (S := []) dX3_readOperator_211 rfl ⟨rfl, hF⟩
theorem vX3_readOperator_114 (G : GP) (d : Nat) (l1 : Int32) (l2 : Int32) (l3 : Int32) (m : Mem) (K : Mem → Prop) (hF : ((l3 = 0) → Gw G (d + 2) mX3_readOperator 141 [.ref (ga G 233), .int l1, .int l2, .int l3] [] m (Qv K)) ∧ ((¬ l3 = 0) → ((0 < (m.1 233 9)) → Evv G (d + 1) mX3_fail [.ref (ga G 233), .int 1] m (fun m10 => K m10)) ∧ ((¬ 0 < (m.1 233 9)) → ((l2 = (m.1 233 12)) → Gw G (d + 2) mX3_readOperator 141 [.ref (ga G 233), .int l1, .int l2, .int l3] [] m (Qv K)) ∧ ((¬ l2 = (m.1 233 12)) → Evv G (d + 1) mX3_fail [.ref (ga G 233), .int 1] m (fun m11 => K m11))))) : Gw G (d + 2) mX3_readOperator 114 [.ref (ga G 233), .int l1, .int l2, .int l3] [] m (Qv K) := by
  refine go_iload_n dX3_readOperator_114 rfl ?_
  refine go_if_eq 141 dX3_readOperator_115 rfl ⟨fun hc => ?_, fun hc => ?_⟩
  · have hF := hF.1 hc
    exact hF
  · have hF := hF.2 hc
    refine go_aload_n dX3_readOperator_118 rfl ?_
    refine go_getI (k := 9) dX3_readOperator_119 sh_233 rfl inX3 (Nat.le_of_ble_eq_true rfl) lf_X3_113 rfl ?_
    refine go_if_gt 133 dX3_readOperator_122 rfl ⟨fun hc => ?_, fun hc => ?_⟩
    · have hF := hF.1 hc
      refine go_aload_n dX3_readOperator_133 rfl ?_
      refine go_iconst (v := 1) dX3_readOperator_134 (by decide) ?_
      refine go_callV mX3_fail dX3_readOperator_135 lm_X3_58 okX3_fail isX3_fail sh_233 rfl (As := [.int 1]) (S := []) rfl rfl (Nat.le_of_ble_eq_true rfl) hF (k_v (fun m10 hF => ?_))
      refine go_goto 211 dX3_readOperator_138 rfl ?_
      exact go_vret (S := []) dX3_readOperator_211 rfl ⟨rfl, hF⟩
    · have hF := hF.2 hc
      refine go_iload_n dX3_readOperator_125 rfl ?_
      refine go_aload_n dX3_readOperator_126 rfl ?_
      refine go_getI (k := 12) dX3_readOperator_127 sh_233 rfl inX3 (Nat.le_of_ble_eq_true rfl) lf_X3_123 rfl ?_
      refine go_icmp_eq 141 dX3_readOperator_130 rfl ⟨fun hc => ?_, fun hc => ?_⟩
      · have hF := hF.1 hc
        exact hF
      · have hF := hF.2 hc
        refine go_aload_n dX3_readOperator_133 rfl ?_
        refine go_iconst (v := 1) dX3_readOperator_134 (by decide) ?_
        refine go_callV mX3_fail dX3_readOperator_135 lm_X3_58 okX3_fail isX3_fail sh_233 rfl (As := [.int 1]) (S := []) rfl rfl (Nat.le_of_ble_eq_true rfl) hF (k_v (fun m11 hF => ?_))
        refine go_goto 211 dX3_readOperator_138 rfl ?_
        exact go_vret (S := []) dX3_readOperator_211 rfl ⟨rfl, hF⟩
theorem vX3_readOperator_141 (G : GP) (d : Nat) (l1 : Int32) (l2 : Int32) (l3 : Int32) (m : Mem) (K : Mem → Prop) (hF : ((l3 = 0) → ((m.1 233 12) = 0 ∨ (m.1 233 12) = 1) ∧ ∀ m12 : Mem, m12 = wI m 233 12 (m.1 233 12) → Gw G (d + 2) mX3_readOperator 165 [.ref (ga G 233), .int l1, .int l2, .int l3] [] m12 (Qv K)) ∧ ((¬ l3 = 0) → ((¬ l2 = 0) → ∀ m13 : Mem, m13 = wI m 233 12 0 → Gw G (d + 2) mX3_readOperator 165 [.ref (ga G 233), .int l1, .int l2, .int l3] [] m13 (Qv K)) ∧ ((l2 = 0) → ∀ m14 : Mem, m14 = wI m 233 12 1 → Gw G (d + 2) mX3_readOperator 165 [.ref (ga G 233), .int l1, .int l2, .int l3] [] m14 (Qv K)))) : Gw G (d + 2) mX3_readOperator 141 [.ref (ga G 233), .int l1, .int l2, .int l3] [] m (Qv K) := by
  refine go_aload_n dX3_readOperator_141 rfl ?_
  refine go_iload_n dX3_readOperator_142 rfl ?_
  refine go_if_eq 158 dX3_readOperator_143 rfl ⟨fun hc => ?_, fun hc => ?_⟩
  · have hF := hF.1 hc
    refine go_aload_n dX3_readOperator_158 rfl ?_
    refine go_getI (k := 12) dX3_readOperator_159 sh_233 rfl inX3 (Nat.le_of_ble_eq_true rfl) lf_X3_123 rfl ?_
    obtain ⟨hb, hF⟩ := hF
    refine go_putZ (k := 12) dX3_readOperator_162 sh_233 rfl inX3 (Nat.le_of_ble_eq_true rfl) lf_X3_123 tyX3 tyX3_ok nmX3 rfl rfl (by decide +kernel) hb ?_
    obtain ⟨m12, em12⟩ : ∃ z : Mem, z = wI m 233 12 (m.1 233 12) := ⟨_, rfl⟩
    rw [← em12]
    have hF := hF m12 em12
    exact hF
  · have hF := hF.2 hc
    refine go_iload_n dX3_readOperator_146 rfl ?_
    refine go_if_ne 154 dX3_readOperator_147 rfl ⟨fun hc => ?_, fun hc => ?_⟩
    · have hF := hF.1 hc
      refine go_iconst (v := 0) dX3_readOperator_154 (by decide) ?_
      refine go_goto 162 dX3_readOperator_155 rfl ?_
      refine go_putZ (k := 12) dX3_readOperator_162 sh_233 rfl inX3 (Nat.le_of_ble_eq_true rfl) lf_X3_123 tyX3 tyX3_ok nmX3 rfl rfl (by decide +kernel) (by decide) ?_
      obtain ⟨m13, em13⟩ : ∃ z : Mem, z = wI m 233 12 0 := ⟨_, rfl⟩
      rw [← em13]
      have hF := hF m13 em13
      exact hF
    · have hF := hF.2 hc
      refine go_iconst (v := 1) dX3_readOperator_150 (by decide) ?_
      refine go_goto 162 dX3_readOperator_151 rfl ?_
      refine go_putZ (k := 12) dX3_readOperator_162 sh_233 rfl inX3 (Nat.le_of_ble_eq_true rfl) lf_X3_123 tyX3 tyX3_ok nmX3 rfl rfl (by decide +kernel) (by decide) ?_
      obtain ⟨m14, em14⟩ : ∃ z : Mem, z = wI m 233 12 1 := ⟨_, rfl⟩
      rw [← em14]
      have hF := hF m14 em14
      exact hF
theorem vX3_readOperator_165 (G : GP) (d : Nat) (l1 : Int32) (l2 : Int32) (u3 : Value) (m : Mem) (K : Mem → Prop) (hF : (l2 = 0 ∨ l2 = 1) ∧ ∀ m15 : Mem, m15 = wI m 233 11 l2 → ∀ m16 : Mem, m16 = wI m15 233 10 1 → ((¬ l1 = 7) → Evv G (d + 1) mX3_settle [.ref (ga G 233), .int l1] m16 (fun m17 => Evv G (d + 1) mX3_putWaiting [.ref (ga G 233), .int (m17.1 233 5)] m17 (fun m18 => K m18))) ∧ ((l1 = 7) → Evv G (d + 1) mX3_settle [.ref (ga G 233), .int 8] m16 (fun m19 => Evv G (d + 1) mX3_putOpen [.ref (ga G 233), .int (m19.1 233 5)] m19 (fun m20 => K m20)))) : Gw G (d + 2) mX3_readOperator 165 [.ref (ga G 233), .int l1, .int l2, u3] [] m (Qv K) := by
  refine Gw.weak (L' := [.ref (ga G 233), .int l1, .int l2, uu]) ⟨Or.inl rfl, Or.inl rfl, Or.inl rfl, Or.inr rfl, trivial⟩ ?_
  refine go_aload_n dX3_readOperator_165 rfl ?_
  refine go_iload_n dX3_readOperator_166 rfl ?_
  obtain ⟨hb, hF⟩ := hF
  refine go_putZ (k := 11) dX3_readOperator_167 sh_233 rfl inX3 (Nat.le_of_ble_eq_true rfl) lf_X3_120 tyX3 tyX3_ok nmX3 rfl rfl (by decide +kernel) hb ?_
  obtain ⟨m15, em15⟩ : ∃ z : Mem, z = wI m 233 11 l2 := ⟨_, rfl⟩
  rw [← em15]
  have hF := hF m15 em15
  refine go_aload_n dX3_readOperator_170 rfl ?_
  refine go_iconst (v := 1) dX3_readOperator_171 (by decide) ?_
  refine go_putZ (k := 10) dX3_readOperator_172 sh_233 rfl inX3 (Nat.le_of_ble_eq_true rfl) lf_X3_116 tyX3 tyX3_ok nmX3 rfl rfl (by decide +kernel) (by decide) ?_
  obtain ⟨m16, em16⟩ : ∃ z : Mem, z = wI m15 233 10 1 := ⟨_, rfl⟩
  rw [← em16]
  have hF := hF m16 em16
  refine go_iload_n dX3_readOperator_175 rfl ?_
  refine go_bipush (v := 7) dX3_readOperator_176 (by decide) ?_
  refine go_icmp_ne 198 dX3_readOperator_178 rfl ⟨fun hc => ?_, fun hc => ?_⟩
  · have hF := hF.1 hc
    refine go_aload_n dX3_readOperator_198 rfl ?_
    refine go_iload_n dX3_readOperator_199 rfl ?_
    refine go_callV mX3_settle dX3_readOperator_200 lm_X3_132 okX3_settle isX3_settle sh_233 rfl (As := [.int l1]) (S := []) rfl rfl (Nat.le_of_ble_eq_true rfl) hF (k_v (fun m17 hF => ?_))
    refine go_aload_n dX3_readOperator_203 rfl ?_
    refine go_aload_n dX3_readOperator_204 rfl ?_
    refine go_getI (k := 5) dX3_readOperator_205 sh_233 rfl inX3 (Nat.le_of_ble_eq_true rfl) lf_X3_46 rfl ?_
    refine go_callV mX3_putWaiting dX3_readOperator_208 lm_X3_167 okX3_putWaiting isX3_putWaiting sh_233 rfl (As := [.int (m17.1 233 5)]) (S := []) rfl rfl (Nat.le_of_ble_eq_true rfl) hF (k_v (fun m18 hF => ?_))
    exact go_vret (S := []) dX3_readOperator_211 rfl ⟨rfl, hF⟩
  · have hF := hF.2 hc
    refine go_aload_n dX3_readOperator_181 rfl ?_
    refine go_bipush (v := 8) dX3_readOperator_182 (by decide) ?_
    refine go_callV mX3_settle dX3_readOperator_184 lm_X3_132 okX3_settle isX3_settle sh_233 rfl (As := [.int 8]) (S := []) rfl rfl (Nat.le_of_ble_eq_true rfl) hF (k_v (fun m19 hF => ?_))
    refine go_aload_n dX3_readOperator_187 rfl ?_
    refine go_aload_n dX3_readOperator_188 rfl ?_
    refine go_getI (k := 5) dX3_readOperator_189 sh_233 rfl inX3 (Nat.le_of_ble_eq_true rfl) lf_X3_46 rfl ?_
    refine go_callV mX3_putOpen dX3_readOperator_192 lm_X3_141 okX3_putOpen isX3_putOpen sh_233 rfl (As := [.int (m19.1 233 5)]) (S := []) rfl rfl (Nat.le_of_ble_eq_true rfl) hF (k_v (fun m20 hF => ?_))
    refine go_goto 211 dX3_readOperator_195 rfl ?_
    exact go_vret (S := []) dX3_readOperator_211 rfl ⟨rfl, hF⟩
theorem vX3_putValue (G : GP) (d : Nat) (a0 : Int32) (m : Mem) (K : Mem → Prop) (hF : ∀ t1 : Nat, m.2.2 233 3 = t1 → t1 ≠ 0 ∧ TxAt t1 ∧ Evv G (d) mX8_emit [.ref (ga G t1), .int a0] m (fun m2 => ∀ m3 : Mem, m3 = wI m2 233 10 0 → K m3)) : Evv G (d + 1) mX3_putValue [.ref (ga G 233), .int a0] m K := by
  refine Ev.go [.ref (ga G 233), .int a0] (by decide) (Nat.le_of_ble_eq_true rfl) rfl ?_
  refine go_aload_n dX3_putValue_0 rfl ?_
  obtain ⟨t1, et1⟩ : ∃ z : Nat, m.2.2 233 3 = z := ⟨_, rfl⟩
  obtain ⟨nt1, ht1, hF⟩ := hF t1 et1
  refine go_getD (k := 3) (r := t1) dX3_putValue_1 sh_233 rfl inX3 (Nat.le_of_ble_eq_true rfl) lf_X3_28 rfl ⟨et1, nt1⟩ ?_
  refine go_iload_n dX3_putValue_4 rfl ?_
  refine go_callV mX8_emit dX3_putValue_5 lm_X3_170 okX8_emit isX8_emit ht1.1 rfl (As := [.int a0]) (S := []) rfl rfl (Nat.le_of_ble_eq_true rfl) hF (k_v (fun m2 hF => ?_))
  refine go_aload_n dX3_putValue_8 rfl ?_
  refine go_iconst (v := 0) dX3_putValue_9 (by decide) ?_
  refine go_putZ (k := 10) dX3_putValue_10 sh_233 rfl inX3 (Nat.le_of_ble_eq_true rfl) lf_X3_116 tyX3 tyX3_ok nmX3 rfl rfl (by decide +kernel) (by decide) ?_
  obtain ⟨m3, em3⟩ : ∃ z : Mem, z = wI m2 233 10 0 := ⟨_, rfl⟩
  rw [← em3]
  have hF := hF m3 em3
  exact go_vret (S := []) dX3_putValue_13 rfl ⟨rfl, hF⟩
theorem vX3_putOpen (G : GP) (d : Nat) (a0 : Int32) (m : Mem) (K : Mem → Prop) (hF : (((m.1 233 8) < 8) → ∀ m1 : Mem, m1 = wI m 233 8 ((m.1 233 8) + 1) → Evv G (d) mX3_putWaiting [.ref (ga G 233), .int a0] m1 (fun m2 => K m2)) ∧ ((¬ (m.1 233 8) < 8) → Evv G (d) mX3_fail [.ref (ga G 233), .int 3] m (fun m3 => K m3))) : Evv G (d + 1) mX3_putOpen [.ref (ga G 233), .int a0] m K := by
  refine Ev.go [.ref (ga G 233), .int a0] (by decide) (Nat.le_of_ble_eq_true rfl) rfl ?_
  refine go_aload_n dX3_putOpen_0 rfl ?_
  refine go_getI (k := 8) dX3_putOpen_1 sh_233 rfl inX3 (Nat.le_of_ble_eq_true rfl) lf_X3_110 rfl ?_
  refine go_bipush (v := 8) dX3_putOpen_4 (by decide) ?_
  refine go_icmp_lt 17 dX3_putOpen_6 rfl ⟨fun hc => ?_, fun hc => ?_⟩
  · have hF := hF.1 hc
    refine go_aload_n dX3_putOpen_17 rfl ?_
    refine go_dup dX3_putOpen_18 rfl ?_
    refine go_getI (k := 8) dX3_putOpen_19 sh_233 rfl inX3 (Nat.le_of_ble_eq_true rfl) lf_X3_110 rfl ?_
    refine go_iconst (v := 1) dX3_putOpen_22 (by decide) ?_
    refine go_iadd dX3_putOpen_23 ?_
    refine go_putI (k := 8) dX3_putOpen_24 sh_233 rfl inX3 (Nat.le_of_ble_eq_true rfl) lf_X3_110 tyX3 tyX3_ok nmX3 rfl rfl (by decide +kernel) ?_
    obtain ⟨m1, em1⟩ : ∃ z : Mem, z = wI m 233 8 ((m.1 233 8) + 1) := ⟨_, rfl⟩
    rw [← em1]
    have hF := hF m1 em1
    refine go_aload_n dX3_putOpen_27 rfl ?_
    refine go_iload_n dX3_putOpen_28 rfl ?_
    refine go_callV mX3_putWaiting dX3_putOpen_29 lm_X3_167 okX3_putWaiting isX3_putWaiting sh_233 rfl (As := [.int a0]) (S := []) rfl rfl (Nat.le_of_ble_eq_true rfl) hF (k_v (fun m2 hF => ?_))
    exact go_vret (S := []) dX3_putOpen_32 rfl ⟨rfl, hF⟩
  · have hF := hF.2 hc
    refine go_aload_n dX3_putOpen_9 rfl ?_
    refine go_iconst (v := 3) dX3_putOpen_10 (by decide) ?_
    refine go_callV mX3_fail dX3_putOpen_11 lm_X3_58 okX3_fail isX3_fail sh_233 rfl (As := [.int 3]) (S := []) rfl rfl (Nat.le_of_ble_eq_true rfl) hF (k_v (fun m3 hF => ?_))
    refine go_goto 32 dX3_putOpen_14 rfl ?_
    exact go_vret (S := []) dX3_putOpen_32 rfl ⟨rfl, hF⟩
theorem vX3_putWaiting (G : GP) (d : Nat) (a0 : Int32) (m : Mem) (K : Mem → Prop) (hF : ((64 ≤ (m.1 233 7)) → K m) ∧ ((¬ 64 ≤ (m.1 233 7)) → vp_in (m.1 233 7) 64 ∧ ∀ m1 : Mem, m1 = wI m 234 (m.1 233 7).toNatClampNeg a0 → ∀ m2 : Mem, m2 = wI m1 233 7 ((m1.1 233 7) + 1) → K m2)) : Evv G (d) mX3_putWaiting [.ref (ga G 233), .int a0] m K := by
  refine Ev.go [.ref (ga G 233), .int a0] (by decide) (Nat.le_of_ble_eq_true rfl) rfl ?_
  refine go_aload_n dX3_putWaiting_0 rfl ?_
  refine go_getI (k := 7) dX3_putWaiting_1 sh_233 rfl inX3 (Nat.le_of_ble_eq_true rfl) lf_X3_107 rfl ?_
  refine go_bipush (v := 64) dX3_putWaiting_4 (by decide) ?_
  refine go_icmp_ge 29 dX3_putWaiting_6 rfl ⟨fun hc => ?_, fun hc => ?_⟩
  · have hF := hF.1 hc
    exact go_vret (S := []) dX3_putWaiting_29 rfl ⟨rfl, hF⟩
  · have hF := hF.2 hc
    refine go_aload_n dX3_putWaiting_9 rfl ?_
    refine go_getR (k := 6) (r := 234) dX3_putWaiting_10 sh_233 rfl inX3 (Nat.le_of_ble_eq_true rfl) lf_X3_20 rfl rfl ?_
    refine go_aload_n dX3_putWaiting_13 rfl ?_
    refine go_getI (k := 7) dX3_putWaiting_14 sh_233 rfl inX3 (Nat.le_of_ble_eq_true rfl) lf_X3_107 rfl ?_
    refine go_iload_n dX3_putWaiting_17 rfl ?_
    obtain ⟨hi, hF⟩ := hF
    refine go_iast dX3_putWaiting_18 sh_234 hi ?_
    obtain ⟨m1, em1⟩ : ∃ z : Mem, z = wI m 234 (m.1 233 7).toNatClampNeg a0 := ⟨_, rfl⟩
    rw [← em1]
    have hF := hF m1 em1
    refine go_aload_n dX3_putWaiting_19 rfl ?_
    refine go_dup dX3_putWaiting_20 rfl ?_
    refine go_getI (k := 7) dX3_putWaiting_21 sh_233 rfl inX3 (Nat.le_of_ble_eq_true rfl) lf_X3_107 rfl ?_
    refine go_iconst (v := 1) dX3_putWaiting_24 (by decide) ?_
    refine go_iadd dX3_putWaiting_25 ?_
    refine go_putI (k := 7) dX3_putWaiting_26 sh_233 rfl inX3 (Nat.le_of_ble_eq_true rfl) lf_X3_107 tyX3 tyX3_ok nmX3 rfl rfl (by decide +kernel) ?_
    obtain ⟨m2, em2⟩ : ∃ z : Mem, z = wI m1 233 7 ((m1.1 233 7) + 1) := ⟨_, rfl⟩
    rw [← em2]
    have hF := hF m2 em2
    exact go_vret (S := []) dX3_putWaiting_29 rfl ⟨rfl, hF⟩
theorem vX3_settle (G : GP) (d : Nat) (a0 : Int32) (m : Mem) (K : Mem → Prop) (hF : Gw G (d + 1) mX3_settle 0 [.ref (ga G 233), .int a0, uu] [] m (Qv K)) : Evv G (d + 1) mX3_settle [.ref (ga G 233), .int a0] m K := by
  refine Ev.go [.ref (ga G 233), .int a0, uu] (by decide) (Nat.le_of_ble_eq_true rfl) rfl ?_
  exact hF
theorem vX3_settle_0 (G : GP) (d : Nat) (l1 : Int32) (u2 : Value) (m : Mem) (K : Mem → Prop) (hF : (((m.1 233 7) ≤ 0) → K m) ∧ ((¬ (m.1 233 7) ≤ 0) → vp_in ((m.1 233 7) - 1) 64 ∧ (((holdV (m.1 234 ((m.1 233 7) - 1).toNatClampNeg)) < l1) → K m) ∧ ((¬ (holdV (m.1 234 ((m.1 233 7) - 1).toNatClampNeg)) < l1) → ∀ m1 : Mem, m1 = wI m 233 7 ((m.1 233 7) - 1) → vp_in (m1.1 233 7) 64 ∧ ∀ x2 : Int32, x2 = m1.1 234 (m1.1 233 7).toNatClampNeg → ((x2 = 116) → ∀ m3 : Mem, m3 = wI m1 233 8 ((m1.1 233 8) - 1) → ∀ t4 : Nat, m3.2.2 233 3 = t4 → t4 ≠ 0 ∧ TxAt t4 ∧ Evv G (d) mX8_emit [.ref (ga G t4), .int x2] m3 (fun m5 => Gw G (d + 1) mX3_settle 0 [.ref (ga G 233), .int l1, .int x2] [] m5 (Qv K))) ∧ ((¬ x2 = 116) → ((x2 = 5) → ∀ m6 : Mem, m6 = wI m1 233 8 ((m1.1 233 8) - 1) → ∀ t7 : Nat, m6.2.2 233 3 = t7 → t7 ≠ 0 ∧ TxAt t7 ∧ Evv G (d) mX8_emit [.ref (ga G t7), .int x2] m6 (fun m8 => Gw G (d + 1) mX3_settle 0 [.ref (ga G 233), .int l1, .int x2] [] m8 (Qv K))) ∧ ((¬ x2 = 5) → ((¬ x2 = 94) → ∀ t9 : Nat, m1.2.2 233 3 = t9 → t9 ≠ 0 ∧ TxAt t9 ∧ Evv G (d) mX8_emit [.ref (ga G t9), .int x2] m1 (fun m10 => Gw G (d + 1) mX3_settle 0 [.ref (ga G 233), .int l1, .int x2] [] m10 (Qv K))) ∧ ((x2 = 94) → ∀ m11 : Mem, m11 = wI m1 233 8 ((m1.1 233 8) - 1) → ∀ t12 : Nat, m11.2.2 233 3 = t12 → t12 ≠ 0 ∧ TxAt t12 ∧ Evv G (d) mX8_emit [.ref (ga G t12), .int x2] m11 (fun m13 => Gw G (d + 1) mX3_settle 0 [.ref (ga G 233), .int l1, .int x2] [] m13 (Qv K)))))))) : Gw G (d + 1) mX3_settle 0 [.ref (ga G 233), .int l1, u2] [] m (Qv K) := by
  refine Gw.weak (L' := [.ref (ga G 233), .int l1, uu]) ⟨Or.inl rfl, Or.inl rfl, Or.inr rfl, trivial⟩ ?_
  refine go_aload_n dX3_settle_0 rfl ?_
  refine go_getI (k := 7) dX3_settle_1 sh_233 rfl inX3 (Nat.le_of_ble_eq_true rfl) lf_X3_107 rfl ?_
  refine go_if_le 83 dX3_settle_4 rfl ⟨fun hc => ?_, fun hc => ?_⟩
  · have hF := hF.1 hc
    exact go_vret (S := []) dX3_settle_83 rfl ⟨rfl, hF⟩
  · have hF := hF.2 hc
    refine go_aload_n dX3_settle_7 rfl ?_
    refine go_getR (k := 6) (r := 234) dX3_settle_8 sh_233 rfl inX3 (Nat.le_of_ble_eq_true rfl) lf_X3_20 rfl rfl ?_
    refine go_aload_n dX3_settle_11 rfl ?_
    refine go_getI (k := 7) dX3_settle_12 sh_233 rfl inX3 (Nat.le_of_ble_eq_true rfl) lf_X3_107 rfl ?_
    refine go_iconst (v := 1) dX3_settle_15 (by decide) ?_
    refine go_isub dX3_settle_16 ?_
    obtain ⟨hi, hF⟩ := hF
    refine go_iald dX3_settle_17 sh_234 hi ?_
    refine go_callS mX3_holdOf dX3_settle_18 lm_X3_158 okX3_holdOf isX3_holdOf (As := [.int (m.1 234 ((m.1 233 7) - 1).toNatClampNeg)]) (S := []) rfl rfl (Nat.le_of_ble_eq_true rfl) (eX3_holdOf G _ (m.1 234 ((m.1 233 7) - 1).toNatClampNeg) m (fun r m' => r = holdV (m.1 234 ((m.1 233 7) - 1).toNatClampNeg) ∧ m = m') ⟨rfl, rfl⟩) (k_i (fun r m' hr => ?_))
    obtain ⟨hr1, hr2⟩ := hr
    subst hr1
    subst hr2
    refine go_iload_n dX3_settle_21 rfl ?_
    refine go_icmp_lt 83 dX3_settle_22 rfl ⟨fun hc => ?_, fun hc => ?_⟩
    · have hF := hF.1 hc
      exact go_vret (S := []) dX3_settle_83 rfl ⟨rfl, hF⟩
    · have hF := hF.2 hc
      refine go_aload_n dX3_settle_25 rfl ?_
      refine go_dup dX3_settle_26 rfl ?_
      refine go_getI (k := 7) dX3_settle_27 sh_233 rfl inX3 (Nat.le_of_ble_eq_true rfl) lf_X3_107 rfl ?_
      refine go_iconst (v := 1) dX3_settle_30 (by decide) ?_
      refine go_isub dX3_settle_31 ?_
      refine go_putI (k := 7) dX3_settle_32 sh_233 rfl inX3 (Nat.le_of_ble_eq_true rfl) lf_X3_107 tyX3 tyX3_ok nmX3 rfl rfl (by decide +kernel) ?_
      obtain ⟨m1, em1⟩ : ∃ z : Mem, z = wI m 233 7 ((m.1 233 7) - 1) := ⟨_, rfl⟩
      rw [← em1]
      have hF := hF m1 em1
      refine go_aload_n dX3_settle_35 rfl ?_
      refine go_getR (k := 6) (r := 234) dX3_settle_36 sh_233 rfl inX3 (Nat.le_of_ble_eq_true rfl) lf_X3_20 rfl rfl ?_
      refine go_aload_n dX3_settle_39 rfl ?_
      refine go_getI (k := 7) dX3_settle_40 sh_233 rfl inX3 (Nat.le_of_ble_eq_true rfl) lf_X3_107 rfl ?_
      obtain ⟨hi, hF⟩ := hF
      refine go_iald dX3_settle_43 sh_234 hi ?_
      refine Gw.namei (fun x2 ex2 => ?_)
      have hF := hF x2 ex2
      refine go_istore_n (L' := [.ref (ga G 233), .int l1, .int x2]) dX3_settle_44 (Nat.le_of_ble_eq_true rfl) rfl ?_
      refine go_iload_n dX3_settle_45 rfl ?_
      refine go_bipush (v := 116) dX3_settle_46 (by decide) ?_
      refine go_icmp_eq 62 dX3_settle_48 rfl ⟨fun hc => ?_, fun hc => ?_⟩
      · have hF := hF.1 hc
        refine go_aload_n dX3_settle_62 rfl ?_
        refine go_dup dX3_settle_63 rfl ?_
        refine go_getI (k := 8) dX3_settle_64 sh_233 rfl inX3 (Nat.le_of_ble_eq_true rfl) lf_X3_110 rfl ?_
        refine go_iconst (v := 1) dX3_settle_67 (by decide) ?_
        refine go_isub dX3_settle_68 ?_
        refine go_putI (k := 8) dX3_settle_69 sh_233 rfl inX3 (Nat.le_of_ble_eq_true rfl) lf_X3_110 tyX3 tyX3_ok nmX3 rfl rfl (by decide +kernel) ?_
        obtain ⟨m3, em3⟩ : ∃ z : Mem, z = wI m1 233 8 ((m1.1 233 8) - 1) := ⟨_, rfl⟩
        rw [← em3]
        have hF := hF m3 em3
        refine go_aload_n dX3_settle_72 rfl ?_
        obtain ⟨t4, et4⟩ : ∃ z : Nat, m3.2.2 233 3 = z := ⟨_, rfl⟩
        obtain ⟨nt4, ht4, hF⟩ := hF t4 et4
        refine go_getD (k := 3) (r := t4) dX3_settle_73 sh_233 rfl inX3 (Nat.le_of_ble_eq_true rfl) lf_X3_28 rfl ⟨et4, nt4⟩ ?_
        refine go_iload_n dX3_settle_76 rfl ?_
        refine go_callV mX8_emit dX3_settle_77 lm_X3_170 okX8_emit isX8_emit ht4.1 rfl (As := [.int x2]) (S := []) rfl rfl (Nat.le_of_ble_eq_true rfl) hF (k_v (fun m5 hF => ?_))
        refine go_goto 0 dX3_settle_80 rfl ?_
        exact hF
      · have hF := hF.2 hc
        refine go_iload_n dX3_settle_51 rfl ?_
        refine go_iconst (v := 5) dX3_settle_52 (by decide) ?_
        refine go_icmp_eq 62 dX3_settle_53 rfl ⟨fun hc => ?_, fun hc => ?_⟩
        · have hF := hF.1 hc
          refine go_aload_n dX3_settle_62 rfl ?_
          refine go_dup dX3_settle_63 rfl ?_
          refine go_getI (k := 8) dX3_settle_64 sh_233 rfl inX3 (Nat.le_of_ble_eq_true rfl) lf_X3_110 rfl ?_
          refine go_iconst (v := 1) dX3_settle_67 (by decide) ?_
          refine go_isub dX3_settle_68 ?_
          refine go_putI (k := 8) dX3_settle_69 sh_233 rfl inX3 (Nat.le_of_ble_eq_true rfl) lf_X3_110 tyX3 tyX3_ok nmX3 rfl rfl (by decide +kernel) ?_
          obtain ⟨m6, em6⟩ : ∃ z : Mem, z = wI m1 233 8 ((m1.1 233 8) - 1) := ⟨_, rfl⟩
          rw [← em6]
          have hF := hF m6 em6
          refine go_aload_n dX3_settle_72 rfl ?_
          obtain ⟨t7, et7⟩ : ∃ z : Nat, m6.2.2 233 3 = z := ⟨_, rfl⟩
          obtain ⟨nt7, ht7, hF⟩ := hF t7 et7
          refine go_getD (k := 3) (r := t7) dX3_settle_73 sh_233 rfl inX3 (Nat.le_of_ble_eq_true rfl) lf_X3_28 rfl ⟨et7, nt7⟩ ?_
          refine go_iload_n dX3_settle_76 rfl ?_
          refine go_callV mX8_emit dX3_settle_77 lm_X3_170 okX8_emit isX8_emit ht7.1 rfl (As := [.int x2]) (S := []) rfl rfl (Nat.le_of_ble_eq_true rfl) hF (k_v (fun m8 hF => ?_))
          refine go_goto 0 dX3_settle_80 rfl ?_
          exact hF
        · have hF := hF.2 hc
          refine go_iload_n dX3_settle_56 rfl ?_
          refine go_bipush (v := 94) dX3_settle_57 (by decide) ?_
          refine go_icmp_ne 72 dX3_settle_59 rfl ⟨fun hc => ?_, fun hc => ?_⟩
          · have hF := hF.1 hc
            refine go_aload_n dX3_settle_72 rfl ?_
            obtain ⟨t9, et9⟩ : ∃ z : Nat, m1.2.2 233 3 = z := ⟨_, rfl⟩
            obtain ⟨nt9, ht9, hF⟩ := hF t9 et9
            refine go_getD (k := 3) (r := t9) dX3_settle_73 sh_233 rfl inX3 (Nat.le_of_ble_eq_true rfl) lf_X3_28 rfl ⟨et9, nt9⟩ ?_
            refine go_iload_n dX3_settle_76 rfl ?_
            refine go_callV mX8_emit dX3_settle_77 lm_X3_170 okX8_emit isX8_emit ht9.1 rfl (As := [.int x2]) (S := []) rfl rfl (Nat.le_of_ble_eq_true rfl) hF (k_v (fun m10 hF => ?_))
            refine go_goto 0 dX3_settle_80 rfl ?_
            exact hF
          · have hF := hF.2 hc
            refine go_aload_n dX3_settle_62 rfl ?_
            refine go_dup dX3_settle_63 rfl ?_
            refine go_getI (k := 8) dX3_settle_64 sh_233 rfl inX3 (Nat.le_of_ble_eq_true rfl) lf_X3_110 rfl ?_
            refine go_iconst (v := 1) dX3_settle_67 (by decide) ?_
            refine go_isub dX3_settle_68 ?_
            refine go_putI (k := 8) dX3_settle_69 sh_233 rfl inX3 (Nat.le_of_ble_eq_true rfl) lf_X3_110 tyX3 tyX3_ok nmX3 rfl rfl (by decide +kernel) ?_
            obtain ⟨m11, em11⟩ : ∃ z : Mem, z = wI m1 233 8 ((m1.1 233 8) - 1) := ⟨_, rfl⟩
            rw [← em11]
            have hF := hF m11 em11
            refine go_aload_n dX3_settle_72 rfl ?_
            obtain ⟨t12, et12⟩ : ∃ z : Nat, m11.2.2 233 3 = z := ⟨_, rfl⟩
            obtain ⟨nt12, ht12, hF⟩ := hF t12 et12
            refine go_getD (k := 3) (r := t12) dX3_settle_73 sh_233 rfl inX3 (Nat.le_of_ble_eq_true rfl) lf_X3_28 rfl ⟨et12, nt12⟩ ?_
            refine go_iload_n dX3_settle_76 rfl ?_
            refine go_callV mX8_emit dX3_settle_77 lm_X3_170 okX8_emit isX8_emit ht12.1 rfl (As := [.int x2]) (S := []) rfl rfl (Nat.le_of_ble_eq_true rfl) hF (k_v (fun m13 hF => ?_))
            refine go_goto 0 dX3_settle_80 rfl ?_
            exact hF
