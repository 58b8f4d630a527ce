theorem vX11_within (G : GP) (d : Nat) (a0 : Int32) (a1 : Int32) (a2 : Int32) (m : Mem) (K : Int32 → Mem → Prop) (hF : ((a0 < a1) → K 0 m) ∧ ((¬ a0 < a1) → ((a2 < a0) → K 0 m) ∧ ((¬ a2 < a0) → K 1 m))) : Evi G (d) mX11_within [.int a0, .int a1, .int a2] m K := by
  refine Ev.go [.int a0, .int a1, .int a2] (by decide) (Nat.le_of_ble_eq_true rfl) rfl ?_
  refine go_iload_n dX11_within_0 rfl ?_
  refine go_iload_n dX11_within_1 rfl ?_
  refine go_icmp_lt 14 dX11_within_2 rfl ⟨fun hc => ?_, fun hc => ?_⟩
  · have hF := hF.1 hc
    refine go_iconst (v := 0) dX11_within_14 (by decide) ?_
    exact go_zret (S := []) dX11_within_15 rfl (by decide) ⟨_, rfl, hF⟩
  · have hF := hF.2 hc
    refine go_iload_n dX11_within_5 rfl ?_
    refine go_iload_n dX11_within_6 rfl ?_
    refine go_icmp_gt 14 dX11_within_7 rfl ⟨fun hc => ?_, fun hc => ?_⟩
    · have hF := hF.1 hc
      refine go_iconst (v := 0) dX11_within_14 (by decide) ?_
      exact go_zret (S := []) dX11_within_15 rfl (by decide) ⟨_, rfl, hF⟩
    · have hF := hF.2 hc
      refine go_iconst (v := 1) dX11_within_10 (by decide) ?_
      refine go_goto 15 dX11_within_11 rfl ?_
      exact go_zret (S := []) dX11_within_15 rfl (by decide) ⟨_, rfl, hF⟩
theorem vX12_isIn (G : GP) (d : Nat) (a0 : Int32) (a1 : Int32) (a2 : Int32) (m : Mem) (K : Int32 → Mem → Prop) (hF : ((a0 < a1) → K 0 m) ∧ ((¬ a0 < a1) → ((a2 < a0) → K 0 m) ∧ ((¬ a2 < a0) → K 1 m))) : Evi G (d) mX12_isIn [.int a0, .int a1, .int a2] m K := by
  refine Ev.go [.int a0, .int a1, .int a2] (by decide) (Nat.le_of_ble_eq_true rfl) rfl ?_
  refine go_iload_n dX12_isIn_0 rfl ?_
  refine go_iload_n dX12_isIn_1 rfl ?_
  refine go_icmp_lt 14 dX12_isIn_2 rfl ⟨fun hc => ?_, fun hc => ?_⟩
  · have hF := hF.1 hc
    refine go_iconst (v := 0) dX12_isIn_14 (by decide) ?_
    exact go_zret (S := []) dX12_isIn_15 rfl (by decide) ⟨_, rfl, hF⟩
  · have hF := hF.2 hc
    refine go_iload_n dX12_isIn_5 rfl ?_
    refine go_iload_n dX12_isIn_6 rfl ?_
    refine go_icmp_gt 14 dX12_isIn_7 rfl ⟨fun hc => ?_, fun hc => ?_⟩
    · have hF := hF.1 hc
      refine go_iconst (v := 0) dX12_isIn_14 (by decide) ?_
      exact go_zret (S := []) dX12_isIn_15 rfl (by decide) ⟨_, rfl, hF⟩
    · have hF := hF.2 hc
      refine go_iconst (v := 1) dX12_isIn_10 (by decide) ?_
      refine go_goto 15 dX12_isIn_11 rfl ?_
      exact go_zret (S := []) dX12_isIn_15 rfl (by decide) ⟨_, rfl, hF⟩
theorem vX2_hasBell (G : GP) (d : Nat) (a0 : Int32) (m : Mem) (K : Int32 → Mem → Prop) (hF : ((a0 < 0) → K 0 m) ∧ ((¬ a0 < 0) → (((m.1 2 0) ≤ a0) → K 0 m) ∧ ((¬ (m.1 2 0) ≤ a0) → K 1 m))) : Evi G (d) mX2_hasBell [.ref (ga G 2), .int a0] m K := by
  refine Ev.go [.ref (ga G 2), .int a0] (by decide) (Nat.le_of_ble_eq_true rfl) rfl ?_
  refine go_iload_n dX2_hasBell_0 rfl ?_
  refine go_if_lt 16 dX2_hasBell_1 rfl ⟨fun hc => ?_, fun hc => ?_⟩
  · have hF := hF.1 hc
    refine go_iconst (v := 0) dX2_hasBell_16 (by decide) ?_
    exact go_zret (S := []) dX2_hasBell_17 rfl (by decide) ⟨_, rfl, hF⟩
  · have hF := hF.2 hc
    refine go_iload_n dX2_hasBell_4 rfl ?_
    refine go_aload_n dX2_hasBell_5 rfl ?_
    refine go_getI (k := 0) dX2_hasBell_6 sh_2 rfl inX2 (Nat.le_of_ble_eq_true rfl) lf_X2_39 rfl ?_
    refine go_icmp_ge 16 dX2_hasBell_9 rfl ⟨fun hc => ?_, fun hc => ?_⟩
    · have hF := hF.1 hc
      refine go_iconst (v := 0) dX2_hasBell_16 (by decide) ?_
      exact go_zret (S := []) dX2_hasBell_17 rfl (by decide) ⟨_, rfl, hF⟩
    · have hF := hF.2 hc
      refine go_iconst (v := 1) dX2_hasBell_12 (by decide) ?_
      refine go_goto 17 dX2_hasBell_13 rfl ?_
      exact go_zret (S := []) dX2_hasBell_17 rfl (by decide) ⟨_, rfl, hF⟩
theorem vX2_hasWord (G : GP) (d : Nat) (a0 : Int32) (m : Mem) (K : Int32 → Mem → Prop) (hF : ((a0 < 0) → K 0 m) ∧ ((¬ a0 < 0) → (((m.1 2 4) ≤ a0) → K 0 m) ∧ ((¬ (m.1 2 4) ≤ a0) → K 1 m))) : Evi G (d) mX2_hasWord [.ref (ga G 2), .int a0] m K := by
  refine Ev.go [.ref (ga G 2), .int a0] (by decide) (Nat.le_of_ble_eq_true rfl) rfl ?_
  refine go_iload_n dX2_hasWord_0 rfl ?_
  refine go_if_lt 16 dX2_hasWord_1 rfl ⟨fun hc => ?_, fun hc => ?_⟩
  · have hF := hF.1 hc
    refine go_iconst (v := 0) dX2_hasWord_16 (by decide) ?_
    exact go_zret (S := []) dX2_hasWord_17 rfl (by decide) ⟨_, rfl, hF⟩
  · have hF := hF.2 hc
    refine go_iload_n dX2_hasWord_4 rfl ?_
    refine go_aload_n dX2_hasWord_5 rfl ?_
    refine go_getI (k := 4) dX2_hasWord_6 sh_2 rfl inX2 (Nat.le_of_ble_eq_true rfl) lf_X2_43 rfl ?_
    refine go_icmp_ge 16 dX2_hasWord_9 rfl ⟨fun hc => ?_, fun hc => ?_⟩
    · have hF := hF.1 hc
      refine go_iconst (v := 0) dX2_hasWord_16 (by decide) ?_
      exact go_zret (S := []) dX2_hasWord_17 rfl (by decide) ⟨_, rfl, hF⟩
    · have hF := hF.2 hc
      refine go_iconst (v := 1) dX2_hasWord_12 (by decide) ?_
      refine go_goto 17 dX2_hasWord_13 rfl ?_
      exact go_zret (S := []) dX2_hasWord_17 rfl (by decide) ⟨_, rfl, hF⟩
theorem vX10_hasText (G : GP) (d : Nat) (a0 : Int32) (m : Mem) (K : Int32 → Mem → Prop) (hF : ((a0 < 0) → K 0 m) ∧ ((¬ a0 < 0) → (((m.1 1 5) ≤ a0) → K 0 m) ∧ ((¬ (m.1 1 5) ≤ a0) → K 1 m))) : Evi G (d) mX10_hasText [.ref (ga G 1), .int a0] m K := by
  refine Ev.go [.ref (ga G 1), .int a0] (by decide) (Nat.le_of_ble_eq_true rfl) rfl ?_
  refine go_iload_n dX10_hasText_0 rfl ?_
  refine go_if_lt 16 dX10_hasText_1 rfl ⟨fun hc => ?_, fun hc => ?_⟩
  · have hF := hF.1 hc
    refine go_iconst (v := 0) dX10_hasText_16 (by decide) ?_
    exact go_zret (S := []) dX10_hasText_17 rfl (by decide) ⟨_, rfl, hF⟩
  · have hF := hF.2 hc
    refine go_iload_n dX10_hasText_4 rfl ?_
    refine go_aload_n dX10_hasText_5 rfl ?_
    refine go_getI (k := 5) dX10_hasText_6 sh_1 rfl inX10 (Nat.le_of_ble_eq_true rfl) lf_X10_46 rfl ?_
    refine go_icmp_ge 16 dX10_hasText_9 rfl ⟨fun hc => ?_, fun hc => ?_⟩
    · have hF := hF.1 hc
      refine go_iconst (v := 0) dX10_hasText_16 (by decide) ?_
      exact go_zret (S := []) dX10_hasText_17 rfl (by decide) ⟨_, rfl, hF⟩
    · have hF := hF.2 hc
      refine go_iconst (v := 1) dX10_hasText_12 (by decide) ?_
      refine go_goto 17 dX10_hasText_13 rfl ?_
      exact go_zret (S := []) dX10_hasText_17 rfl (by decide) ⟨_, rfl, hF⟩
theorem vX12_has (G : GP) (d : Nat) (a0 : Int32) (a1 : Int32) (m : Mem) (K : Int32 → Mem → Prop) (hF : ((¬ ((a0 >>> (a1 &&& 31)) &&& 1) = 1) → K 0 m) ∧ ((((a0 >>> (a1 &&& 31)) &&& 1) = 1) → K 1 m)) : Evi G (d) mX12_has [.int a0, .int a1] m K := by
  refine Ev.go [.int a0, .int a1] (by decide) (Nat.le_of_ble_eq_true rfl) rfl ?_
  refine go_iload_n dX12_has_0 rfl ?_
  refine go_iload_n dX12_has_1 rfl ?_
  refine go_ishr dX12_has_2 ?_
  refine go_iconst (v := 1) dX12_has_3 (by decide) ?_
  refine go_iand dX12_has_4 ?_
  refine go_iconst (v := 1) dX12_has_5 (by decide) ?_
  refine go_icmp_ne 13 dX12_has_6 rfl ⟨fun hc => ?_, fun hc => ?_⟩
  · have hF := hF.1 hc
    refine go_iconst (v := 0) dX12_has_13 (by decide) ?_
    exact go_zret (S := []) dX12_has_14 rfl (by decide) ⟨_, rfl, hF⟩
  · have hF := hF.2 hc
    refine go_iconst (v := 1) dX12_has_9 (by decide) ?_
    refine go_goto 14 dX12_has_10 rfl ?_
    exact go_zret (S := []) dX12_has_14 rfl (by decide) ⟨_, rfl, hF⟩
theorem vX0_fitsAt (G : GP) (d : Nat) (a0 : Int32) (a1 : Int32) (m : Mem) (K : Int32 → Mem → Prop) (hF : vp_in a0 25 ∧ (((((m.1 268 a0.toNatClampNeg) >>> (a1 &&& 31)) &&& 1) = 0) → K 0 m) ∧ ((¬ (((m.1 268 a0.toNatClampNeg) >>> (a1 &&& 31)) &&& 1) = 0) → K 1 m)) : Evi G (d) mX0_fitsAt [.ref (ga G 266), .int a0, .int a1] m K := by
  refine Ev.go [.ref (ga G 266), .int a0, .int a1] (by decide) (Nat.le_of_ble_eq_true rfl) rfl ?_
  refine go_aload_n dX0_fitsAt_0 rfl ?_
  refine go_getR (k := 4) (r := 268) dX0_fitsAt_1 sh_266 rfl inX0 (Nat.le_of_ble_eq_true rfl) lf_X0_15 rfl rfl ?_
  refine go_iload_n dX0_fitsAt_4 rfl ?_
  obtain ⟨hi, hF⟩ := hF
  refine go_iald dX0_fitsAt_5 sh_268 hi ?_
  refine go_iload_n dX0_fitsAt_6 rfl ?_
  refine go_ishr dX0_fitsAt_7 ?_
  refine go_iconst (v := 1) dX0_fitsAt_8 (by decide) ?_
  refine go_iand dX0_fitsAt_9 ?_
  refine go_if_eq 17 dX0_fitsAt_10 rfl ⟨fun hc => ?_, fun hc => ?_⟩
  · have hF := hF.1 hc
    refine go_iconst (v := 0) dX0_fitsAt_17 (by decide) ?_
    exact go_zret (S := []) dX0_fitsAt_18 rfl (by decide) ⟨_, rfl, hF⟩
  · have hF := hF.2 hc
    refine go_iconst (v := 1) dX0_fitsAt_13 (by decide) ?_
    refine go_goto 18 dX0_fitsAt_14 rfl ?_
    exact go_zret (S := []) dX0_fitsAt_18 rfl (by decide) ⟨_, rfl, hF⟩
theorem vX8_hasLaw (G : GP) (d : Nat) (c0 : Nat) (hc0 : TxAt c0) (a0 : Int32) (m : Mem) (K : Int32 → Mem → Prop) (hF : vp_in a0 3 ∧ vp_in a0 3 ∧ (((m.1 (c0 + 5) a0.toNatClampNeg) ≤ (m.1 (c0 + 4) a0.toNatClampNeg)) → K 0 m) ∧ ((¬ (m.1 (c0 + 5) a0.toNatClampNeg) ≤ (m.1 (c0 + 4) a0.toNatClampNeg)) → K 1 m)) : Evi G (d) mX8_hasLaw [.ref (ga G c0), .int a0] m K := by
  refine Ev.go [.ref (ga G c0), .int a0] (by decide) (Nat.le_of_ble_eq_true rfl) rfl ?_
  refine go_aload_n dX8_hasLaw_0 rfl ?_
  refine go_getR (k := 8) (r := (c0 + 5)) dX8_hasLaw_1 hc0.1 rfl inX8 (Nat.le_of_ble_eq_true rfl) lf_X8_24 rfl rfl ?_
  refine go_iload_n dX8_hasLaw_4 rfl ?_
  obtain ⟨hi, hF⟩ := hF
  refine go_iald dX8_hasLaw_5 hc0.2.2.2.2.2 hi ?_
  refine go_aload_n dX8_hasLaw_6 rfl ?_
  refine go_getR (k := 7) (r := (c0 + 4)) dX8_hasLaw_7 hc0.1 rfl inX8 (Nat.le_of_ble_eq_true rfl) lf_X8_21 rfl rfl ?_
  refine go_iload_n dX8_hasLaw_10 rfl ?_
  obtain ⟨hi, hF⟩ := hF
  refine go_iald dX8_hasLaw_11 hc0.2.2.2.2.1 hi ?_
  refine go_icmp_le 19 dX8_hasLaw_12 rfl ⟨fun hc => ?_, fun hc => ?_⟩
  · have hF := hF.1 hc
    refine go_iconst (v := 0) dX8_hasLaw_19 (by decide) ?_
    exact go_zret (S := []) dX8_hasLaw_20 rfl (by decide) ⟨_, rfl, hF⟩
  · have hF := hF.2 hc
    refine go_iconst (v := 1) dX8_hasLaw_15 (by decide) ?_
    refine go_goto 20 dX8_hasLaw_16 rfl ?_
    exact go_zret (S := []) dX8_hasLaw_20 rfl (by decide) ⟨_, rfl, hF⟩
theorem vX12_isFigure (G : GP) (d : Nat) (a0 : Int32) (m : Mem) (K : Int32 → Mem → Prop) (hF : ((a0 < 48) → K 0 m) ∧ ((¬ a0 < 48) → ((57 < a0) → K 0 m) ∧ ((¬ 57 < a0) → K 1 m))) : Evi G (d) mX12_isFigure [.int a0] m K := by
  refine Ev.go [.int a0] (by decide) (Nat.le_of_ble_eq_true rfl) rfl ?_
  refine go_iload_n dX12_isFigure_0 rfl ?_
  refine go_bipush (v := 48) dX12_isFigure_1 (by decide) ?_
  refine go_icmp_lt 16 dX12_isFigure_3 rfl ⟨fun hc => ?_, fun hc => ?_⟩
  · have hF := hF.1 hc
    refine go_iconst (v := 0) dX12_isFigure_16 (by decide) ?_
    exact go_zret (S := []) dX12_isFigure_17 rfl (by decide) ⟨_, rfl, hF⟩
  · have hF := hF.2 hc
    refine go_iload_n dX12_isFigure_6 rfl ?_
    refine go_bipush (v := 57) dX12_isFigure_7 (by decide) ?_
    refine go_icmp_gt 16 dX12_isFigure_9 rfl ⟨fun hc => ?_, fun hc => ?_⟩
    · have hF := hF.1 hc
      refine go_iconst (v := 0) dX12_isFigure_16 (by decide) ?_
      exact go_zret (S := []) dX12_isFigure_17 rfl (by decide) ⟨_, rfl, hF⟩
    · have hF := hF.2 hc
      refine go_iconst (v := 1) dX12_isFigure_12 (by decide) ?_
      refine go_goto 17 dX12_isFigure_13 rfl ?_
      exact go_zret (S := []) dX12_isFigure_17 rfl (by decide) ⟨_, rfl, hF⟩
theorem vX12_isLetterByte (G : GP) (d : Nat) (a0 : Int32) (m : Mem) (K : Int32 → Mem → Prop) (hF : ((a0 < 97) → ((a0 < 65) → K 0 m) ∧ ((¬ a0 < 65) → ((90 < a0) → K 0 m) ∧ ((¬ 90 < a0) → K 1 m))) ∧ ((¬ a0 < 97) → ((a0 ≤ 122) → K 1 m) ∧ ((¬ a0 ≤ 122) → ((a0 < 65) → K 0 m) ∧ ((¬ a0 < 65) → ((90 < a0) → K 0 m) ∧ ((¬ 90 < a0) → K 1 m))))) : Evi G (d) mX12_isLetterByte [.int a0] m K := by
  refine Ev.go [.int a0] (by decide) (Nat.le_of_ble_eq_true rfl) rfl ?_
  refine go_iload_n dX12_isLetterByte_0 rfl ?_
  refine go_bipush (v := 97) dX12_isLetterByte_1 (by decide) ?_
  refine go_icmp_lt 12 dX12_isLetterByte_3 rfl ⟨fun hc => ?_, fun hc => ?_⟩
  · have hF := hF.1 hc
    refine go_iload_n dX12_isLetterByte_12 rfl ?_
    refine go_bipush (v := 65) dX12_isLetterByte_13 (by decide) ?_
    refine go_icmp_lt 28 dX12_isLetterByte_15 rfl ⟨fun hc => ?_, fun hc => ?_⟩
    · have hF := hF.1 hc
      refine go_iconst (v := 0) dX12_isLetterByte_28 (by decide) ?_
      exact go_zret (S := []) dX12_isLetterByte_29 rfl (by decide) ⟨_, rfl, hF⟩
    · have hF := hF.2 hc
      refine go_iload_n dX12_isLetterByte_18 rfl ?_
      refine go_bipush (v := 90) dX12_isLetterByte_19 (by decide) ?_
      refine go_icmp_gt 28 dX12_isLetterByte_21 rfl ⟨fun hc => ?_, fun hc => ?_⟩
      · have hF := hF.1 hc
        refine go_iconst (v := 0) dX12_isLetterByte_28 (by decide) ?_
        exact go_zret (S := []) dX12_isLetterByte_29 rfl (by decide) ⟨_, rfl, hF⟩
      · have hF := hF.2 hc
        refine go_iconst (v := 1) dX12_isLetterByte_24 (by decide) ?_
        refine go_goto 29 dX12_isLetterByte_25 rfl ?_
        exact go_zret (S := []) dX12_isLetterByte_29 rfl (by decide) ⟨_, rfl, hF⟩
  · have hF := hF.2 hc
    refine go_iload_n dX12_isLetterByte_6 rfl ?_
    refine go_bipush (v := 122) dX12_isLetterByte_7 (by decide) ?_
    refine go_icmp_le 24 dX12_isLetterByte_9 rfl ⟨fun hc => ?_, fun hc => ?_⟩
    · have hF := hF.1 hc
      refine go_iconst (v := 1) dX12_isLetterByte_24 (by decide) ?_
      refine go_goto 29 dX12_isLetterByte_25 rfl ?_
      exact go_zret (S := []) dX12_isLetterByte_29 rfl (by decide) ⟨_, rfl, hF⟩
    · have hF := hF.2 hc
      refine go_iload_n dX12_isLetterByte_12 rfl ?_
      refine go_bipush (v := 65) dX12_isLetterByte_13 (by decide) ?_
      refine go_icmp_lt 28 dX12_isLetterByte_15 rfl ⟨fun hc => ?_, fun hc => ?_⟩
      · have hF := hF.1 hc
        refine go_iconst (v := 0) dX12_isLetterByte_28 (by decide) ?_
        exact go_zret (S := []) dX12_isLetterByte_29 rfl (by decide) ⟨_, rfl, hF⟩
      · have hF := hF.2 hc
        refine go_iload_n dX12_isLetterByte_18 rfl ?_
        refine go_bipush (v := 90) dX12_isLetterByte_19 (by decide) ?_
        refine go_icmp_gt 28 dX12_isLetterByte_21 rfl ⟨fun hc => ?_, fun hc => ?_⟩
        · have hF := hF.1 hc
          refine go_iconst (v := 0) dX12_isLetterByte_28 (by decide) ?_
          exact go_zret (S := []) dX12_isLetterByte_29 rfl (by decide) ⟨_, rfl, hF⟩
        · have hF := hF.2 hc
          refine go_iconst (v := 1) dX12_isLetterByte_24 (by decide) ?_
          refine go_goto 29 dX12_isLetterByte_25 rfl ?_
          exact go_zret (S := []) dX12_isLetterByte_29 rfl (by decide) ⟨_, rfl, hF⟩
theorem vX12_isWord (G : GP) (d : Nat) (a0 : Int64) (m : Mem) (K : Int32 → Mem → Prop) (hF : ((¬ (m.1 273 10) = 2) → K 0 m) ∧ (((m.1 273 10) = 2) → ((¬ (lg_cmp (m.2.1 273 12) a0) = 0) → K 0 m) ∧ (((lg_cmp (m.2.1 273 12) a0) = 0) → K 1 m))) : Evi G (d) mX12_isWord [.ref (ga G 273), .long a0] m K := by
  refine Ev.go [.ref (ga G 273), .long a0, uu] (by decide) (Nat.le_of_ble_eq_true rfl) rfl ?_
  refine go_aload_n dX12_isWord_0 rfl ?_
  refine go_getI (k := 10) dX12_isWord_1 sh_273 rfl inX12 (Nat.le_of_ble_eq_true rfl) lf_X12_113 rfl ?_
  refine go_iconst (v := 2) dX12_isWord_4 (by decide) ?_
  refine go_icmp_ne 21 dX12_isWord_5 rfl ⟨fun hc => ?_, fun hc => ?_⟩
  · have hF := hF.1 hc
    refine go_iconst (v := 0) dX12_isWord_21 (by decide) ?_
    exact go_zret (S := []) dX12_isWord_22 rfl (by decide) ⟨_, rfl, hF⟩
  · have hF := hF.2 hc
    refine go_aload_n dX12_isWord_8 rfl ?_
    refine go_getL (k := 12) dX12_isWord_9 sh_273 rfl inX12 (Nat.le_of_ble_eq_true rfl) lf_X12_126 rfl ?_
    refine go_lload_n dX12_isWord_12 rfl ?_
    refine go_lcmp dX12_isWord_13 ?_
    refine go_if_ne 21 dX12_isWord_14 rfl ⟨fun hc => ?_, fun hc => ?_⟩
    · have hF := hF.1 hc
      refine go_iconst (v := 0) dX12_isWord_21 (by decide) ?_
      exact go_zret (S := []) dX12_isWord_22 rfl (by decide) ⟨_, rfl, hF⟩
    · have hF := hF.2 hc
      refine go_iconst (v := 1) dX12_isWord_17 (by decide) ?_
      refine go_goto 22 dX12_isWord_18 rfl ?_
      exact go_zret (S := []) dX12_isWord_22 rfl (by decide) ⟨_, rfl, hF⟩
theorem vX1_isJoint (G : GP) (d : Nat) (a0 : Int32) (m : Mem) (K : Int32 → Mem → Prop) (hF : ((a0 = 115) → K 1 m) ∧ ((¬ a0 = 115) → ((a0 = 114) → K 1 m) ∧ ((¬ a0 = 114) → ((100 ≤ a0) → K 0 m) ∧ ((¬ 100 ≤ a0) → ((a0 = 5) → K 0 m) ∧ ((¬ a0 = 5) → K 1 m))))) : Evi G (d) mX1_isJoint [.int a0] m K := by
  refine Ev.go [.int a0] (by decide) (Nat.le_of_ble_eq_true rfl) rfl ?_
  refine go_iload_n dX1_isJoint_0 rfl ?_
  refine go_bipush (v := 115) dX1_isJoint_1 (by decide) ?_
  refine go_icmp_eq 23 dX1_isJoint_3 rfl ⟨fun hc => ?_, fun hc => ?_⟩
  · have hF := hF.1 hc
    refine go_iconst (v := 1) dX1_isJoint_23 (by decide) ?_
    refine go_goto 28 dX1_isJoint_24 rfl ?_
    exact go_zret (S := []) dX1_isJoint_28 rfl (by decide) ⟨_, rfl, hF⟩
  · have hF := hF.2 hc
    refine go_iload_n dX1_isJoint_6 rfl ?_
    refine go_bipush (v := 114) dX1_isJoint_7 (by decide) ?_
    refine go_icmp_eq 23 dX1_isJoint_9 rfl ⟨fun hc => ?_, fun hc => ?_⟩
    · have hF := hF.1 hc
      refine go_iconst (v := 1) dX1_isJoint_23 (by decide) ?_
      refine go_goto 28 dX1_isJoint_24 rfl ?_
      exact go_zret (S := []) dX1_isJoint_28 rfl (by decide) ⟨_, rfl, hF⟩
    · have hF := hF.2 hc
      refine go_iload_n dX1_isJoint_12 rfl ?_
      refine go_bipush (v := 100) dX1_isJoint_13 (by decide) ?_
      refine go_icmp_ge 27 dX1_isJoint_15 rfl ⟨fun hc => ?_, fun hc => ?_⟩
      · have hF := hF.1 hc
        refine go_iconst (v := 0) dX1_isJoint_27 (by decide) ?_
        exact go_zret (S := []) dX1_isJoint_28 rfl (by decide) ⟨_, rfl, hF⟩
      · have hF := hF.2 hc
        refine go_iload_n dX1_isJoint_18 rfl ?_
        refine go_iconst (v := 5) dX1_isJoint_19 (by decide) ?_
        refine go_icmp_eq 27 dX1_isJoint_20 rfl ⟨fun hc => ?_, fun hc => ?_⟩
        · have hF := hF.1 hc
          refine go_iconst (v := 0) dX1_isJoint_27 (by decide) ?_
          exact go_zret (S := []) dX1_isJoint_28 rfl (by decide) ⟨_, rfl, hF⟩
        · have hF := hF.2 hc
          refine go_iconst (v := 1) dX1_isJoint_23 (by decide) ?_
          refine go_goto 28 dX1_isJoint_24 rfl ?_
          exact go_zret (S := []) dX1_isJoint_28 rfl (by decide) ⟨_, rfl, hF⟩
theorem vX12_of (G : GP) (d : Nat) (a0 : Int32) (a1 : Int32) (m : Mem) (K : Int32 → Mem → Prop) (hF : vp_in (((34 : Int32) + ((9 : Int32) * a0)) + a1) 5968 ∧ K (m.1 274 (((34 : Int32) + ((9 : Int32) * a0)) + a1).toNatClampNeg) m) : Evi G (d) mX12_of [.ref (ga G 273), .int a0, .int a1] m K := by
  refine Ev.go [.ref (ga G 273), .int a0, .int a1] (by decide) (Nat.le_of_ble_eq_true rfl) rfl ?_
  refine go_aload_n dX12_of_0 rfl ?_
  refine go_getR (k := 0) (r := 274) dX12_of_1 sh_273 rfl inX12 (Nat.le_of_ble_eq_true rfl) lf_X12_7 rfl rfl ?_
  refine go_bipush (v := 34) dX12_of_4 (by decide) ?_
  refine go_bipush (v := 9) dX12_of_6 (by decide) ?_
  refine go_iload_n dX12_of_8 rfl ?_
  refine go_imul dX12_of_9 ?_
  refine go_iadd dX12_of_10 ?_
  refine go_iload_n dX12_of_11 rfl ?_
  refine go_iadd dX12_of_12 ?_
  obtain ⟨hi, hF⟩ := hF
  refine go_iald dX12_of_13 sh_274 hi ?_
  exact go_iret (S := []) dX12_of_14 rfl ⟨_, rfl, hF⟩
theorem vX12_loud (G : GP) (d : Nat) (a0 : Int32) (m : Mem) (K : Int32 → Mem → Prop) (hF : vp_in ((16 : Int32) + ((3 : Int32) * a0)) 5968 ∧ K (m.1 274 ((16 : Int32) + ((3 : Int32) * a0)).toNatClampNeg) m) : Evi G (d) mX12_loud [.ref (ga G 273), .int a0] m K := by
  refine Ev.go [.ref (ga G 273), .int a0] (by decide) (Nat.le_of_ble_eq_true rfl) rfl ?_
  refine go_aload_n dX12_loud_0 rfl ?_
  refine go_getR (k := 0) (r := 274) dX12_loud_1 sh_273 rfl inX12 (Nat.le_of_ble_eq_true rfl) lf_X12_7 rfl rfl ?_
  refine go_bipush (v := 16) dX12_loud_4 (by decide) ?_
  refine go_iconst (v := 3) dX12_loud_6 (by decide) ?_
  refine go_iload_n dX12_loud_7 rfl ?_
  refine go_imul dX12_loud_8 ?_
  refine go_iadd dX12_loud_9 ?_
  obtain ⟨hi, hF⟩ := hF
  refine go_iald dX12_loud_10 sh_274 hi ?_
  exact go_iret (S := []) dX12_loud_11 rfl ⟨_, rfl, hF⟩
theorem vX12_pitch (G : GP) (d : Nat) (a0 : Int32) (m : Mem) (K : Int32 → Mem → Prop) (hF : vp_in (((16 : Int32) + ((3 : Int32) * a0)) + 1) 5968 ∧ K (m.1 274 (((16 : Int32) + ((3 : Int32) * a0)) + 1).toNatClampNeg) m) : Evi G (d) mX12_pitch [.ref (ga G 273), .int a0] m K := by
  refine Ev.go [.ref (ga G 273), .int a0] (by decide) (Nat.le_of_ble_eq_true rfl) rfl ?_
  refine go_aload_n dX12_pitch_0 rfl ?_
  refine go_getR (k := 0) (r := 274) dX12_pitch_1 sh_273 rfl inX12 (Nat.le_of_ble_eq_true rfl) lf_X12_7 rfl rfl ?_
  refine go_bipush (v := 16) dX12_pitch_4 (by decide) ?_
  refine go_iconst (v := 3) dX12_pitch_6 (by decide) ?_
  refine go_iload_n dX12_pitch_7 rfl ?_
  refine go_imul dX12_pitch_8 ?_
  refine go_iadd dX12_pitch_9 ?_
  refine go_iconst (v := 1) dX12_pitch_10 (by decide) ?_
  refine go_iadd dX12_pitch_11 ?_
  obtain ⟨hi, hF⟩ := hF
  refine go_iald dX12_pitch_12 sh_274 hi ?_
  exact go_iret (S := []) dX12_pitch_13 rfl ⟨_, rfl, hF⟩
theorem vX12_men (G : GP) (d : Nat) (a0 : Int32) (m : Mem) (K : Int32 → Mem → Prop) (hF : vp_in (((16 : Int32) + ((3 : Int32) * a0)) + 2) 5968 ∧ K (m.1 274 (((16 : Int32) + ((3 : Int32) * a0)) + 2).toNatClampNeg) m) : Evi G (d) mX12_men [.ref (ga G 273), .int a0] m K := by
  refine Ev.go [.ref (ga G 273), .int a0] (by decide) (Nat.le_of_ble_eq_true rfl) rfl ?_
  refine go_aload_n dX12_men_0 rfl ?_
  refine go_getR (k := 0) (r := 274) dX12_men_1 sh_273 rfl inX12 (Nat.le_of_ble_eq_true rfl) lf_X12_7 rfl rfl ?_
  refine go_bipush (v := 16) dX12_men_4 (by decide) ?_
  refine go_iconst (v := 3) dX12_men_6 (by decide) ?_
  refine go_iload_n dX12_men_7 rfl ?_
  refine go_imul dX12_men_8 ?_
  refine go_iadd dX12_men_9 ?_
  refine go_iconst (v := 2) dX12_men_10 (by decide) ?_
  refine go_iadd dX12_men_11 ?_
  obtain ⟨hi, hF⟩ := hF
  refine go_iald dX12_men_12 sh_274 hi ?_
  exact go_iret (S := []) dX12_men_13 rfl ⟨_, rfl, hF⟩
theorem vX0_cell (G : GP) (d : Nat) (a0 : Int32) (a1 : Int32) (a2 : Int32) (m : Mem) (K : Int32 → Mem → Prop) (hF : K ((((a0 * 25) + a1) * 10) + a2) m) : Evi G (d) mX0_cell [.int a0, .int a1, .int a2] m K := by
  refine Ev.go [.int a0, .int a1, .int a2] (by decide) (Nat.le_of_ble_eq_true rfl) rfl ?_
  refine go_iload_n dX0_cell_0 rfl ?_
  refine go_bipush (v := 25) dX0_cell_1 (by decide) ?_
  refine go_imul dX0_cell_3 ?_
  refine go_iload_n dX0_cell_4 rfl ?_
  refine go_iadd dX0_cell_5 ?_
  refine go_bipush (v := 10) dX0_cell_6 (by decide) ?_
  refine go_imul dX0_cell_8 ?_
  refine go_iload_n dX0_cell_9 rfl ?_
  refine go_iadd dX0_cell_10 ?_
  exact go_iret (S := []) dX0_cell_11 rfl ⟨_, rfl, hF⟩
theorem vX12_wayAt (G : GP) (d : Nat) (a0 : Int32) (a1 : Int32) (a2 : Int32) (m : Mem) (K : Int32 → Mem → Prop) (hF : K ((((275 : Int32) * a0) + ((25 : Int32) * a1)) + a2) m) : Evi G (d) mX12_wayAt [.int a0, .int a1, .int a2] m K := by
  refine Ev.go [.int a0, .int a1, .int a2] (by decide) (Nat.le_of_ble_eq_true rfl) rfl ?_
  refine go_sipush (v := 275) dX12_wayAt_0 (by decide) ?_
  refine go_iload_n dX12_wayAt_3 rfl ?_
  refine go_imul dX12_wayAt_4 ?_
  refine go_bipush (v := 25) dX12_wayAt_5 (by decide) ?_
  refine go_iload_n dX12_wayAt_7 rfl ?_
  refine go_imul dX12_wayAt_8 ?_
  refine go_iadd dX12_wayAt_9 ?_
  refine go_iload_n dX12_wayAt_10 rfl ?_
  refine go_iadd dX12_wayAt_11 ?_
  exact go_iret (S := []) dX12_wayAt_12 rfl ⟨_, rfl, hF⟩
theorem vX12_byteAt (G : GP) (d : Nat) (a0 : Int32) (m : Mem) (K : Int32 → Mem → Prop) (hF : (((m.1 273 5) ≤ a0) → K (-1) m) ∧ ((¬ (m.1 273 5) ≤ a0) → vp_in a0 300 ∧ K (m.1 278 a0.toNatClampNeg) m)) : Evi G (d) mX12_byteAt [.ref (ga G 273), .int a0] m K := by
  refine Ev.go [.ref (ga G 273), .int a0] (by decide) (Nat.le_of_ble_eq_true rfl) rfl ?_
  refine go_iload_n dX12_byteAt_0 rfl ?_
  refine go_aload_n dX12_byteAt_1 rfl ?_
  refine go_getI (k := 5) dX12_byteAt_2 sh_273 rfl inX12 (Nat.le_of_ble_eq_true rfl) lf_X12_96 rfl ?_
  refine go_icmp_ge 17 dX12_byteAt_5 rfl ⟨fun hc => ?_, fun hc => ?_⟩
  · have hF := hF.1 hc
    refine go_iconst (v := -1) dX12_byteAt_17 (by decide) ?_
    exact go_iret (S := []) dX12_byteAt_18 rfl ⟨_, rfl, hF⟩
  · have hF := hF.2 hc
    refine go_aload_n dX12_byteAt_8 rfl ?_
    refine go_getR (k := 4) (r := 278) dX12_byteAt_9 sh_273 rfl inX12 (Nat.le_of_ble_eq_true rfl) lf_X12_22 rfl rfl ?_
    refine go_iload_n dX12_byteAt_12 rfl ?_
    obtain ⟨hi, hF⟩ := hF
    refine go_iald dX12_byteAt_13 sh_278 hi ?_
    refine go_goto 18 dX12_byteAt_14 rfl ?_
    exact go_iret (S := []) dX12_byteAt_18 rfl ⟨_, rfl, hF⟩
theorem vX1_held (G : GP) (d : Nat) (a0 : Int64) (m : Mem) (K : Int32 → Mem → Prop) (hF : (((lg_cmp a0 1000000) ≤ 0) → ((0 ≤ (lg_cmp a0 (-1000000))) → K a0.toInt32 m) ∧ ((¬ 0 ≤ (lg_cmp a0 (-1000000))) → K (-1000000) m)) ∧ ((¬ (lg_cmp a0 1000000) ≤ 0) → K 1000000 m)) : Evi G (d) mX1_held [.long a0] m K := by
  refine Ev.go [.long a0, uu] (by decide) (Nat.le_of_ble_eq_true rfl) rfl ?_
  refine go_lload_n dX1_held_0 rfl ?_
  refine go_ldc2 (v := 1000000) dX1_held_1 lc_X1_138 ?_
  refine go_lcmp dX1_held_4 ?_
  refine go_if_le 11 dX1_held_5 rfl ⟨fun hc => ?_, fun hc => ?_⟩
  · have hF := hF.1 hc
    refine go_lload_n dX1_held_11 rfl ?_
    refine go_ldc2 (v := -1000000) dX1_held_12 lc_X1_141 ?_
    refine go_lcmp dX1_held_15 ?_
    refine go_if_ge 24 dX1_held_16 rfl ⟨fun hc => ?_, fun hc => ?_⟩
    · have hF := hF.1 hc
      refine go_lload_n dX1_held_24 rfl ?_
      refine go_l2i dX1_held_25 ?_
      exact go_iret (S := []) dX1_held_26 rfl ⟨_, rfl, hF⟩
    · have hF := hF.2 hc
      refine go_ldc (v := -1000000) dX1_held_19 lc_X1_143 ?_
      refine go_goto 26 dX1_held_21 rfl ?_
      exact go_iret (S := []) dX1_held_26 rfl ⟨_, rfl, hF⟩
  · have hF := hF.2 hc
    refine go_ldc (v := 1000000) dX1_held_8 lc_X1_140 ?_
    exact go_iret (S := []) dX1_held_10 rfl ⟨_, rfl, hF⟩
theorem vX12_clip (G : GP) (d : Nat) (a0 : Int64) (m : Mem) (K : Int64 → Mem → Prop) (hF : (((lg_cmp a0 1000000) ≤ 0) → ((0 ≤ (lg_cmp a0 (-1000000))) → K a0 m) ∧ ((¬ 0 ≤ (lg_cmp a0 (-1000000))) → K (-1000000) m)) ∧ ((¬ (lg_cmp a0 1000000) ≤ 0) → K 1000000 m)) : Evl G (d) mX12_clip [.long a0] m K := by
  refine Ev.go [.long a0, uu] (by decide) (Nat.le_of_ble_eq_true rfl) rfl ?_
  refine go_lload_n dX12_clip_0 rfl ?_
  refine go_ldc2 (v := 1000000) dX12_clip_1 lc_X12_274 ?_
  refine go_lcmp dX12_clip_4 ?_
  refine go_if_le 14 dX12_clip_5 rfl ⟨fun hc => ?_, fun hc => ?_⟩
  · have hF := hF.1 hc
    refine go_lload_n dX12_clip_14 rfl ?_
    refine go_ldc2 (v := -1000000) dX12_clip_15 lc_X12_276 ?_
    refine go_lcmp dX12_clip_18 ?_
    refine go_if_ge 28 dX12_clip_19 rfl ⟨fun hc => ?_, fun hc => ?_⟩
    · have hF := hF.1 hc
      refine go_lload_n dX12_clip_28 rfl ?_
      exact go_lret (S := []) dX12_clip_29 rfl ⟨_, rfl, hF⟩
    · have hF := hF.2 hc
      refine go_ldc2 (v := -1000000) dX12_clip_22 lc_X12_276 ?_
      refine go_goto 29 dX12_clip_25 rfl ?_
      exact go_lret (S := []) dX12_clip_29 rfl ⟨_, rfl, hF⟩
  · have hF := hF.2 hc
    refine go_ldc2 (v := 1000000) dX12_clip_8 lc_X12_274 ?_
    refine go_goto 29 dX12_clip_11 rfl ?_
    exact go_lret (S := []) dX12_clip_29 rfl ⟨_, rfl, hF⟩
theorem vX3_holdOf (G : GP) (d : Nat) (a0 : Int32) (m : Mem) (K : Int32 → Mem → Prop) (hF : (a0 = 3 → K 4 m) ∧ (a0 = 4 → K 4 m) ∧ (a0 = 5 → K 8 m) ∧ (a0 = 35 → K 4 m) ∧ (a0 = 42 → K 6 m) ∧ (a0 = 43 → K 5 m) ∧ (a0 = 45 → K 5 m) ∧ (a0 = 47 → K 6 m) ∧ (a0 = 60 → K 4 m) ∧ (a0 = 61 → K 4 m) ∧ (a0 = 62 → K 4 m) ∧ (a0 = 94 → K 7 m) ∧ (a0 = 114 → K 1 m) ∧ (a0 = 115 → K 2 m) ∧ (a0 = 116 → K 3 m) ∧ (¬ a0 = 3 ∧ ¬ a0 = 4 ∧ ¬ a0 = 5 ∧ ¬ a0 = 35 ∧ ¬ a0 = 42 ∧ ¬ a0 = 43 ∧ ¬ a0 = 45 ∧ ¬ a0 = 47 ∧ ¬ a0 = 60 ∧ ¬ a0 = 61 ∧ ¬ a0 = 62 ∧ ¬ a0 = 94 ∧ ¬ a0 = 114 ∧ ¬ a0 = 115 ∧ ¬ a0 = 116 → K 0 m)) : Evi G (d) mX3_holdOf [.int a0] m K := by
  refine Ev.go [.int a0] (by decide) (Nat.le_of_ble_eq_true rfl) rfl ?_
  refine go_iload_n dX3_holdOf_0 rfl ?_
  rcases Decidable.em (a0 = 3) with hc0 | hc0
  · have hF := hF.1 hc0
    refine go_lookup (off := 137) 138 dX3_holdOf_1 (by decide) (by rw [hc0]; rfl) rfl ?_
    refine go_iconst (v := 4) dX3_holdOf_138 (by decide) ?_
    exact go_iret (S := []) dX3_holdOf_139 rfl ⟨_, rfl, hF⟩
  rcases Decidable.em (a0 = 4) with hc1 | hc1
  · have hF := hF.2.1 hc1
    refine go_lookup (off := 137) 138 dX3_holdOf_1 (by decide) (by rw [hc1]; rfl) rfl ?_
    refine go_iconst (v := 4) dX3_holdOf_138 (by decide) ?_
    exact go_iret (S := []) dX3_holdOf_139 rfl ⟨_, rfl, hF⟩
  rcases Decidable.em (a0 = 5) with hc2 | hc2
  · have hF := hF.2.2.1 hc2
    refine go_lookup (off := 147) 148 dX3_holdOf_1 (by decide) (by rw [hc2]; rfl) rfl ?_
    refine go_bipush (v := 8) dX3_holdOf_148 (by decide) ?_
    exact go_iret (S := []) dX3_holdOf_150 rfl ⟨_, rfl, hF⟩
  rcases Decidable.em (a0 = 35) with hc3 | hc3
  · have hF := hF.2.2.2.1 hc3
    refine go_lookup (off := 137) 138 dX3_holdOf_1 (by decide) (by rw [hc3]; rfl) rfl ?_
    refine go_iconst (v := 4) dX3_holdOf_138 (by decide) ?_
    exact go_iret (S := []) dX3_holdOf_139 rfl ⟨_, rfl, hF⟩
  rcases Decidable.em (a0 = 42) with hc4 | hc4
  · have hF := hF.2.2.2.2.1 hc4
    refine go_lookup (off := 141) 142 dX3_holdOf_1 (by decide) (by rw [hc4]; rfl) rfl ?_
    refine go_bipush (v := 6) dX3_holdOf_142 (by decide) ?_
    exact go_iret (S := []) dX3_holdOf_144 rfl ⟨_, rfl, hF⟩
  rcases Decidable.em (a0 = 43) with hc5 | hc5
  · have hF := hF.2.2.2.2.2.1 hc5
    refine go_lookup (off := 139) 140 dX3_holdOf_1 (by decide) (by rw [hc5]; rfl) rfl ?_
    refine go_iconst (v := 5) dX3_holdOf_140 (by decide) ?_
    exact go_iret (S := []) dX3_holdOf_141 rfl ⟨_, rfl, hF⟩
  rcases Decidable.em (a0 = 45) with hc6 | hc6
  · have hF := hF.2.2.2.2.2.2.1 hc6
    refine go_lookup (off := 139) 140 dX3_holdOf_1 (by decide) (by rw [hc6]; rfl) rfl ?_
    refine go_iconst (v := 5) dX3_holdOf_140 (by decide) ?_
    exact go_iret (S := []) dX3_holdOf_141 rfl ⟨_, rfl, hF⟩
  rcases Decidable.em (a0 = 47) with hc7 | hc7
  · have hF := hF.2.2.2.2.2.2.2.1 hc7
    refine go_lookup (off := 141) 142 dX3_holdOf_1 (by decide) (by rw [hc7]; rfl) rfl ?_
    refine go_bipush (v := 6) dX3_holdOf_142 (by decide) ?_
    exact go_iret (S := []) dX3_holdOf_144 rfl ⟨_, rfl, hF⟩
  rcases Decidable.em (a0 = 60) with hc8 | hc8
  · have hF := hF.2.2.2.2.2.2.2.2.1 hc8
    refine go_lookup (off := 137) 138 dX3_holdOf_1 (by decide) (by rw [hc8]; rfl) rfl ?_
    refine go_iconst (v := 4) dX3_holdOf_138 (by decide) ?_
    exact go_iret (S := []) dX3_holdOf_139 rfl ⟨_, rfl, hF⟩
  rcases Decidable.em (a0 = 61) with hc9 | hc9
  · have hF := hF.2.2.2.2.2.2.2.2.2.1 hc9
    refine go_lookup (off := 137) 138 dX3_holdOf_1 (by decide) (by rw [hc9]; rfl) rfl ?_
    refine go_iconst (v := 4) dX3_holdOf_138 (by decide) ?_
    exact go_iret (S := []) dX3_holdOf_139 rfl ⟨_, rfl, hF⟩
  rcases Decidable.em (a0 = 62) with hc10 | hc10
  · have hF := hF.2.2.2.2.2.2.2.2.2.2.1 hc10
    refine go_lookup (off := 137) 138 dX3_holdOf_1 (by decide) (by rw [hc10]; rfl) rfl ?_
    refine go_iconst (v := 4) dX3_holdOf_138 (by decide) ?_
    exact go_iret (S := []) dX3_holdOf_139 rfl ⟨_, rfl, hF⟩
  rcases Decidable.em (a0 = 94) with hc11 | hc11
  · have hF := hF.2.2.2.2.2.2.2.2.2.2.2.1 hc11
    refine go_lookup (off := 144) 145 dX3_holdOf_1 (by decide) (by rw [hc11]; rfl) rfl ?_
    refine go_bipush (v := 7) dX3_holdOf_145 (by decide) ?_
    exact go_iret (S := []) dX3_holdOf_147 rfl ⟨_, rfl, hF⟩
  rcases Decidable.em (a0 = 114) with hc12 | hc12
  · have hF := hF.2.2.2.2.2.2.2.2.2.2.2.2.1 hc12
    refine go_lookup (off := 131) 132 dX3_holdOf_1 (by decide) (by rw [hc12]; rfl) rfl ?_
    refine go_iconst (v := 1) dX3_holdOf_132 (by decide) ?_
    exact go_iret (S := []) dX3_holdOf_133 rfl ⟨_, rfl, hF⟩
  rcases Decidable.em (a0 = 115) with hc13 | hc13
  · have hF := hF.2.2.2.2.2.2.2.2.2.2.2.2.2.1 hc13
    refine go_lookup (off := 133) 134 dX3_holdOf_1 (by decide) (by rw [hc13]; rfl) rfl ?_
    refine go_iconst (v := 2) dX3_holdOf_134 (by decide) ?_
    exact go_iret (S := []) dX3_holdOf_135 rfl ⟨_, rfl, hF⟩
  rcases Decidable.em (a0 = 116) with hc14 | hc14
  · have hF := hF.2.2.2.2.2.2.2.2.2.2.2.2.2.2.1 hc14
    refine go_lookup (off := 135) 136 dX3_holdOf_1 (by decide) (by rw [hc14]; rfl) rfl ?_
    refine go_iconst (v := 3) dX3_holdOf_136 (by decide) ?_
    exact go_iret (S := []) dX3_holdOf_137 rfl ⟨_, rfl, hF⟩
  have hF := hF.2.2.2.2.2.2.2.2.2.2.2.2.2.2.2 ⟨hc0, hc1, hc2, hc3, hc4, hc5, hc6, hc7, hc8, hc9, hc10, hc11, hc12, hc13, hc14⟩
  refine go_lookup 151 dX3_holdOf_1 (by decide) (look_out a0 _ _ (by simp only [List.forall_mem_cons, List.not_mem_nil, false_implies, implies_true, and_true]; exact ⟨ne_toInt (by decide) hc0, ne_toInt (by decide) hc1, ne_toInt (by decide) hc2, ne_toInt (by decide) hc3, ne_toInt (by decide) hc4, ne_toInt (by decide) hc5, ne_toInt (by decide) hc6, ne_toInt (by decide) hc7, ne_toInt (by decide) hc8, ne_toInt (by decide) hc9, ne_toInt (by decide) hc10, ne_toInt (by decide) hc11, ne_toInt (by decide) hc12, ne_toInt (by decide) hc13, ne_toInt (by decide) hc14⟩)) rfl ?_
  refine go_iconst (v := 0) dX3_holdOf_151 (by decide) ?_
  exact go_iret (S := []) dX3_holdOf_152 rfl ⟨_, rfl, hF⟩
theorem vX12_rank (G : GP) (d : Nat) (a0 : Int32) (m : Mem) (K : Int32 → Mem → Prop) (hF : ((a0 < 40) → ((¬ a0 = 22) → ((¬ a0 = 21) → ((¬ a0 = 20) → ((a0 < 10) → ((¬ a0 = 2) → ((¬ a0 = 7) → ((a0 < 5) → K 5 m) ∧ ((¬ a0 < 5) → K 6 m)) ∧ ((a0 = 7) → K 7 m)) ∧ ((a0 = 2) → K 8 m)) ∧ ((¬ a0 < 10) → K 4 m)) ∧ ((a0 = 20) → K 3 m)) ∧ ((a0 = 21) → K 2 m)) ∧ ((a0 = 22) → K 1 m)) ∧ ((¬ a0 < 40) → K 0 m)) : Evi G (d) mX12_rank [.int a0] m K := by
  refine Ev.go [.int a0] (by decide) (Nat.le_of_ble_eq_true rfl) rfl ?_
  refine go_iload_n dX12_rank_0 rfl ?_
  refine go_bipush (v := 40) dX12_rank_1 (by decide) ?_
  refine go_icmp_lt 10 dX12_rank_3 rfl ⟨fun hc => ?_, fun hc => ?_⟩
  · have hF := hF.1 hc
    refine go_iload_n dX12_rank_10 rfl ?_
    refine go_bipush (v := 22) dX12_rank_11 (by decide) ?_
    refine go_icmp_ne 20 dX12_rank_13 rfl ⟨fun hc => ?_, fun hc => ?_⟩
    · have hF := hF.1 hc
      refine go_iload_n dX12_rank_20 rfl ?_
      refine go_bipush (v := 21) dX12_rank_21 (by decide) ?_
      refine go_icmp_ne 30 dX12_rank_23 rfl ⟨fun hc => ?_, fun hc => ?_⟩
      · have hF := hF.1 hc
        refine go_iload_n dX12_rank_30 rfl ?_
        refine go_bipush (v := 20) dX12_rank_31 (by decide) ?_
        refine go_icmp_ne 40 dX12_rank_33 rfl ⟨fun hc => ?_, fun hc => ?_⟩
        · have hF := hF.1 hc
          refine go_iload_n dX12_rank_40 rfl ?_
          refine go_bipush (v := 10) dX12_rank_41 (by decide) ?_
          refine go_icmp_lt 50 dX12_rank_43 rfl ⟨fun hc => ?_, fun hc => ?_⟩
          · have hF := hF.1 hc
            refine go_iload_n dX12_rank_50 rfl ?_
            refine go_iconst (v := 2) dX12_rank_51 (by decide) ?_
            refine go_icmp_ne 60 dX12_rank_52 rfl ⟨fun hc => ?_, fun hc => ?_⟩
            · have hF := hF.1 hc
              refine go_iload_n dX12_rank_60 rfl ?_
              refine go_bipush (v := 7) dX12_rank_61 (by decide) ?_
              refine go_icmp_ne 71 dX12_rank_63 rfl ⟨fun hc => ?_, fun hc => ?_⟩
              · have hF := hF.1 hc
                refine go_iload_n dX12_rank_71 rfl ?_
                refine go_iconst (v := 5) dX12_rank_72 (by decide) ?_
                refine go_icmp_lt 81 dX12_rank_73 rfl ⟨fun hc => ?_, fun hc => ?_⟩
                · have hF := hF.1 hc
                  refine go_iconst (v := 5) dX12_rank_81 (by decide) ?_
                  exact go_iret (S := []) dX12_rank_82 rfl ⟨_, rfl, hF⟩
                · have hF := hF.2 hc
                  refine go_bipush (v := 6) dX12_rank_76 (by decide) ?_
                  refine go_goto 82 dX12_rank_78 rfl ?_
                  exact go_iret (S := []) dX12_rank_82 rfl ⟨_, rfl, hF⟩
              · have hF := hF.2 hc
                refine go_bipush (v := 7) dX12_rank_66 (by decide) ?_
                refine go_goto 82 dX12_rank_68 rfl ?_
                exact go_iret (S := []) dX12_rank_82 rfl ⟨_, rfl, hF⟩
            · have hF := hF.2 hc
              refine go_bipush (v := 8) dX12_rank_55 (by decide) ?_
              refine go_goto 82 dX12_rank_57 rfl ?_
              exact go_iret (S := []) dX12_rank_82 rfl ⟨_, rfl, hF⟩
          · have hF := hF.2 hc
            refine go_iconst (v := 4) dX12_rank_46 (by decide) ?_
            refine go_goto 82 dX12_rank_47 rfl ?_
            exact go_iret (S := []) dX12_rank_82 rfl ⟨_, rfl, hF⟩
        · have hF := hF.2 hc
          refine go_iconst (v := 3) dX12_rank_36 (by decide) ?_
          refine go_goto 82 dX12_rank_37 rfl ?_
          exact go_iret (S := []) dX12_rank_82 rfl ⟨_, rfl, hF⟩
      · have hF := hF.2 hc
        refine go_iconst (v := 2) dX12_rank_26 (by decide) ?_
        refine go_goto 82 dX12_rank_27 rfl ?_
        exact go_iret (S := []) dX12_rank_82 rfl ⟨_, rfl, hF⟩
    · have hF := hF.2 hc
      refine go_iconst (v := 1) dX12_rank_16 (by decide) ?_
      refine go_goto 82 dX12_rank_17 rfl ?_
      exact go_iret (S := []) dX12_rank_82 rfl ⟨_, rfl, hF⟩
  · have hF := hF.2 hc
    refine go_iconst (v := 0) dX12_rank_6 (by decide) ?_
    refine go_goto 82 dX12_rank_7 rfl ?_
    exact go_iret (S := []) dX12_rank_82 rfl ⟨_, rfl, hF⟩
theorem vX12_w2 (G : GP) (d : Nat) (a0 : Int32) (a1 : Int32) (m : Mem) (K : Int64 → Mem → Prop) (hF : K ((a0.toInt64 <<< ((8 : Int32).toInt64 &&& 63)) ||| a1.toInt64) m) : Evl G (d) mX12_w2 [.int a0, .int a1] m K := by
  refine Ev.go [.int a0, .int a1] (by decide) (Nat.le_of_ble_eq_true rfl) rfl ?_
  refine go_iload_n dX12_w2_0 rfl ?_
  refine go_i2l dX12_w2_1 ?_
  refine go_bipush (v := 8) dX12_w2_2 (by decide) ?_
  refine go_lshl dX12_w2_4 ?_
  refine go_iload_n dX12_w2_5 rfl ?_
  refine go_i2l dX12_w2_6 ?_
  refine go_lor dX12_w2_7 ?_
  exact go_lret (S := []) dX12_w2_8 rfl ⟨_, rfl, hF⟩
theorem vX12_shown (G : GP) (d : Nat)  (m : Mem) (K : Int32 → Mem → Prop) (hF : ((20 ≤ (m.1 274 13)) → K 20 m) ∧ ((¬ 20 ≤ (m.1 274 13)) → K (m.1 274 13) m)) : Evi G (d) mX12_shown [.ref (ga G 273)] m K := by
  refine Ev.go [.ref (ga G 273)] (by decide) (Nat.le_of_ble_eq_true rfl) rfl ?_
  refine go_aload_n dX12_shown_0 rfl ?_
  refine go_getR (k := 0) (r := 274) dX12_shown_1 sh_273 rfl inX12 (Nat.le_of_ble_eq_true rfl) lf_X12_7 rfl rfl ?_
  refine go_bipush (v := 13) dX12_shown_4 (by decide) ?_
  refine go_ialdK (k := 13) dX12_shown_6 sh_274 (vp_in_dec (by decide)) (by decide) ?_
  refine go_bipush (v := 20) dX12_shown_7 (by decide) ?_
  refine go_icmp_ge 22 dX12_shown_9 rfl ⟨fun hc => ?_, fun hc => ?_⟩
  · have hF := hF.1 hc
    refine go_bipush (v := 20) dX12_shown_22 (by decide) ?_
    exact go_iret (S := []) dX12_shown_24 rfl ⟨_, rfl, hF⟩
  · have hF := hF.2 hc
    refine go_aload_n dX12_shown_12 rfl ?_
    refine go_getR (k := 0) (r := 274) dX12_shown_13 sh_273 rfl inX12 (Nat.le_of_ble_eq_true rfl) lf_X12_7 rfl rfl ?_
    refine go_bipush (v := 13) dX12_shown_16 (by decide) ?_
    refine go_ialdK (k := 13) dX12_shown_18 sh_274 (vp_in_dec (by decide)) (by decide) ?_
    refine go_goto 24 dX12_shown_19 rfl ?_
    exact go_iret (S := []) dX12_shown_24 rfl ⟨_, rfl, hF⟩
theorem vJ6_bitCount_0f7a4 (G : GP) (d : Nat) (a0 : Int32) (m : Mem) (K : Int32 → Mem → Prop) (hF : ∀ x1 : Int32, x1 = a0 - (((a0.toUInt32 >>> ((1 : Int32).toUInt32 &&& Int32.toUInt32 31)).toInt32) &&& 1431655765) → ∀ x2 : Int32, x2 = (x1 &&& 858993459) + (((x1.toUInt32 >>> ((2 : Int32).toUInt32 &&& Int32.toUInt32 31)).toInt32) &&& 858993459) → ∀ x3 : Int32, x3 = (x2 + ((x2.toUInt32 >>> ((4 : Int32).toUInt32 &&& Int32.toUInt32 31)).toInt32)) &&& 252645135 → ∀ x4 : Int32, x4 = x3 + ((x3.toUInt32 >>> ((8 : Int32).toUInt32 &&& Int32.toUInt32 31)).toInt32) → ∀ x5 : Int32, x5 = x4 + ((x4.toUInt32 >>> ((16 : Int32).toUInt32 &&& Int32.toUInt32 31)).toInt32) → K (x5 &&& 63) m) : Evi G (d) mJ6_bitCount_0f7a4 [.int a0] m K := by
  refine Ev.go [.int a0] (by decide) (Nat.le_of_ble_eq_true rfl) rfl ?_
  refine go_iload_n dJ6_bitCount_0f7a4_0 rfl ?_
  refine go_iload_n dJ6_bitCount_0f7a4_1 rfl ?_
  refine go_iconst (v := 1) dJ6_bitCount_0f7a4_2 (by decide) ?_
  refine go_iushr dJ6_bitCount_0f7a4_3 ?_
  refine go_ldcw (v := 1431655765) dJ6_bitCount_0f7a4_4 lc_J6_265 ?_
  refine go_iand dJ6_bitCount_0f7a4_7 ?_
  refine go_isub dJ6_bitCount_0f7a4_8 ?_
  refine Gw.namei (fun x1 ex1 => ?_)
  have hF := hF x1 ex1
  refine go_istore_n (L' := [.int x1]) dJ6_bitCount_0f7a4_9 (Nat.le_of_ble_eq_true rfl) rfl ?_
  refine go_iload_n dJ6_bitCount_0f7a4_10 rfl ?_
  refine go_ldcw (v := 858993459) dJ6_bitCount_0f7a4_11 lc_J6_266 ?_
  refine go_iand dJ6_bitCount_0f7a4_14 ?_
  refine go_iload_n dJ6_bitCount_0f7a4_15 rfl ?_
  refine go_iconst (v := 2) dJ6_bitCount_0f7a4_16 (by decide) ?_
  refine go_iushr dJ6_bitCount_0f7a4_17 ?_
  refine go_ldcw (v := 858993459) dJ6_bitCount_0f7a4_18 lc_J6_266 ?_
  refine go_iand dJ6_bitCount_0f7a4_21 ?_
  refine go_iadd dJ6_bitCount_0f7a4_22 ?_
  refine Gw.namei (fun x2 ex2 => ?_)
  have hF := hF x2 ex2
  refine go_istore_n (L' := [.int x2]) dJ6_bitCount_0f7a4_23 (Nat.le_of_ble_eq_true rfl) rfl ?_
  refine go_iload_n dJ6_bitCount_0f7a4_24 rfl ?_
  refine go_iload_n dJ6_bitCount_0f7a4_25 rfl ?_
  refine go_iconst (v := 4) dJ6_bitCount_0f7a4_26 (by decide) ?_
  refine go_iushr dJ6_bitCount_0f7a4_27 ?_
  refine go_iadd dJ6_bitCount_0f7a4_28 ?_
  refine go_ldcw (v := 252645135) dJ6_bitCount_0f7a4_29 lc_J6_267 ?_
  refine go_iand dJ6_bitCount_0f7a4_32 ?_
  refine Gw.namei (fun x3 ex3 => ?_)
  have hF := hF x3 ex3
  refine go_istore_n (L' := [.int x3]) dJ6_bitCount_0f7a4_33 (Nat.le_of_ble_eq_true rfl) rfl ?_
  refine go_iload_n dJ6_bitCount_0f7a4_34 rfl ?_
  refine go_iload_n dJ6_bitCount_0f7a4_35 rfl ?_
  refine go_bipush (v := 8) dJ6_bitCount_0f7a4_36 (by decide) ?_
  refine go_iushr dJ6_bitCount_0f7a4_38 ?_
  refine go_iadd dJ6_bitCount_0f7a4_39 ?_
  refine Gw.namei (fun x4 ex4 => ?_)
  have hF := hF x4 ex4
  refine go_istore_n (L' := [.int x4]) dJ6_bitCount_0f7a4_40 (Nat.le_of_ble_eq_true rfl) rfl ?_
  refine go_iload_n dJ6_bitCount_0f7a4_41 rfl ?_
  refine go_iload_n dJ6_bitCount_0f7a4_42 rfl ?_
  refine go_bipush (v := 16) dJ6_bitCount_0f7a4_43 (by decide) ?_
  refine go_iushr dJ6_bitCount_0f7a4_45 ?_
  refine go_iadd dJ6_bitCount_0f7a4_46 ?_
  refine Gw.namei (fun x5 ex5 => ?_)
  have hF := hF x5 ex5
  refine go_istore_n (L' := [.int x5]) dJ6_bitCount_0f7a4_47 (Nat.le_of_ble_eq_true rfl) rfl ?_
  refine go_iload_n dJ6_bitCount_0f7a4_48 rfl ?_
  refine go_bipush (v := 63) dJ6_bitCount_0f7a4_49 (by decide) ?_
  refine go_iand dJ6_bitCount_0f7a4_51 ?_
  exact go_iret (S := []) dJ6_bitCount_0f7a4_52 rfl ⟨_, rfl, hF⟩
theorem vX12_isBell (G : GP) (d : Nat) (a0 : Int32) (m : Mem) (K : Int32 → Mem → Prop) (hF : Evi G (d) mX12_isIn [.int a0, .int 0, .int ((m.1 274 0) - 1)] m (fun r2 m1 => (r2 = 0 ∨ r2 = 1) ∧ K r2 m1)) : Evi G (d + 1) mX12_isBell [.ref (ga G 273), .int a0] m K := by
  refine Ev.go [.ref (ga G 273), .int a0] (by decide) (Nat.le_of_ble_eq_true rfl) rfl ?_
  refine go_iload_n dX12_isBell_0 rfl ?_
  refine go_iconst (v := 0) dX12_isBell_1 (by decide) ?_
  refine go_aload_n dX12_isBell_2 rfl ?_
  refine go_getR (k := 0) (r := 274) dX12_isBell_3 sh_273 rfl inX12 (Nat.le_of_ble_eq_true rfl) lf_X12_7 rfl rfl ?_
  refine go_iconst (v := 0) dX12_isBell_6 (by decide) ?_
  refine go_ialdK (k := 0) dX12_isBell_7 sh_274 (vp_in_dec (by decide)) (by decide) ?_
  refine go_iconst (v := 1) dX12_isBell_8 (by decide) ?_
  refine go_isub dX12_isBell_9 ?_
  refine go_callS mX12_isIn dX12_isBell_10 lm_X12_80 okX12_isIn isX12_isIn (As := [.int a0, .int 0, .int ((m.1 274 0) - 1)]) (S := []) rfl rfl (Nat.le_of_ble_eq_true rfl) hF (k_i (fun r2 m1 hF => ?_))
  exact go_zret (S := []) dX12_isBell_13 rfl hF.1 ⟨_, rfl, hF.2⟩
theorem vX12_isWord0 (G : GP) (d : Nat) (a0 : Int32) (m : Mem) (K : Int32 → Mem → Prop) (hF : Evi G (d) mX12_isIn [.int a0, .int 0, .int ((m.1 274 1) - 1)] m (fun r2 m1 => (r2 = 0 ∨ r2 = 1) ∧ K r2 m1)) : Evi G (d + 1) mX12_isWord0 [.ref (ga G 273), .int a0] m K := by
  refine Ev.go [.ref (ga G 273), .int a0] (by decide) (Nat.le_of_ble_eq_true rfl) rfl ?_
  refine go_iload_n dX12_isWord0_0 rfl ?_
  refine go_iconst (v := 0) dX12_isWord0_1 (by decide) ?_
  refine go_aload_n dX12_isWord0_2 rfl ?_
  refine go_getR (k := 0) (r := 274) dX12_isWord0_3 sh_273 rfl inX12 (Nat.le_of_ble_eq_true rfl) lf_X12_7 rfl rfl ?_
  refine go_iconst (v := 1) dX12_isWord0_6 (by decide) ?_
  refine go_ialdK (k := 1) dX12_isWord0_7 sh_274 (vp_in_dec (by decide)) (by decide) ?_
  refine go_iconst (v := 1) dX12_isWord0_8 (by decide) ?_
  refine go_isub dX12_isWord0_9 ?_
  refine go_callS mX12_isIn dX12_isWord0_10 lm_X12_80 okX12_isIn isX12_isIn (As := [.int a0, .int 0, .int ((m.1 274 1) - 1)]) (S := []) rfl rfl (Nat.le_of_ble_eq_true rfl) hF (k_i (fun r2 m1 hF => ?_))
  exact go_zret (S := []) dX12_isWord0_13 rfl hF.1 ⟨_, rfl, hF.2⟩
theorem vX12_strokeOf (G : GP) (d : Nat) (a0 : Int32) (a1 : Int32) (m : Mem) (K : Int32 → Mem → Prop) (hF : Evi G (d) mX12_of [.ref (ga G 273), .int a0, .int ((3 : Int32) + a1)] m (fun r2 m1 => K r2 m1)) : Evi G (d + 1) mX12_strokeOf [.ref (ga G 273), .int a0, .int a1] m K := by
  refine Ev.go [.ref (ga G 273), .int a0, .int a1] (by decide) (Nat.le_of_ble_eq_true rfl) rfl ?_
  refine go_aload_n dX12_strokeOf_0 rfl ?_
  refine go_iload_n dX12_strokeOf_1 rfl ?_
  refine go_iconst (v := 3) dX12_strokeOf_2 (by decide) ?_
  refine go_iload_n dX12_strokeOf_3 rfl ?_
  refine go_iadd dX12_strokeOf_4 ?_
  refine go_callV mX12_of dX12_strokeOf_5 lm_X12_84 okX12_of isX12_of sh_273 rfl (As := [.int a0, .int ((3 : Int32) + a1)]) (S := []) rfl rfl (Nat.le_of_ble_eq_true rfl) hF (k_i (fun r2 m1 hF => ?_))
  exact go_iret (S := []) dX12_strokeOf_8 rfl ⟨_, rfl, hF⟩
theorem vX2_strokeOf (G : GP) (d : Nat) (a0 : Int32) (a1 : Int32) (m : Mem) (K : Int32 → Mem → Prop) (hF : Evi G (d) mX2_hasWord [.ref (ga G 2), .int a0] m (fun r2 m1 => ((r2 = 0) → K (-1) m1) ∧ ((¬ r2 = 0) → Evi G (d) mX11_within [.int a1, .int 0, .int 3] m1 (fun r4 m3 => ((r4 = 0) → K (-1) m3) ∧ ((¬ r4 = 0) → vp_in ((a0 * 4) + a1) 40 ∧ K (m3.1 6 ((a0 * 4) + a1).toNatClampNeg) m3))))) : Evi G (d + 1) mX2_strokeOf [.ref (ga G 2), .int a0, .int a1] m K := by
  refine Ev.go [.ref (ga G 2), .int a0, .int a1] (by decide) (Nat.le_of_ble_eq_true rfl) rfl ?_
  refine go_aload_n dX2_strokeOf_0 rfl ?_
  refine go_iload_n dX2_strokeOf_1 rfl ?_
  refine go_callV mX2_hasWord dX2_strokeOf_2 lm_X2_54 okX2_hasWord isX2_hasWord sh_2 rfl (As := [.int a0]) (S := []) rfl rfl (Nat.le_of_ble_eq_true rfl) hF (k_i (fun r2 m1 hF => ?_))
  refine go_if_eq 30 dX2_strokeOf_5 rfl ⟨fun hc => ?_, fun hc => ?_⟩
  · have hF := hF.1 hc
    refine go_iconst (v := -1) dX2_strokeOf_30 (by decide) ?_
    exact go_iret (S := []) dX2_strokeOf_31 rfl ⟨_, rfl, hF⟩
  · have hF := hF.2 hc
    refine go_iload_n dX2_strokeOf_8 rfl ?_
    refine go_iconst (v := 0) dX2_strokeOf_9 (by decide) ?_
    refine go_iconst (v := 3) dX2_strokeOf_10 (by decide) ?_
    refine go_callN mX11_within "BellTongue" dX2_strokeOf_11 ln_X2_46 okX11_within isX11_within (As := [.int a1, .int 0, .int 3]) (S := []) rfl rfl (Nat.le_of_ble_eq_true rfl) hF (k_i (fun r4 m3 hF => ?_))
    refine go_if_eq 30 dX2_strokeOf_14 rfl ⟨fun hc => ?_, fun hc => ?_⟩
    · have hF := hF.1 hc
      refine go_iconst (v := -1) dX2_strokeOf_30 (by decide) ?_
      exact go_iret (S := []) dX2_strokeOf_31 rfl ⟨_, rfl, hF⟩
    · have hF := hF.2 hc
      refine go_aload_n dX2_strokeOf_17 rfl ?_
      refine go_getR (k := 5) (r := 6) dX2_strokeOf_18 sh_2 rfl inX2 (Nat.le_of_ble_eq_true rfl) lf_X2_21 rfl rfl ?_
      refine go_iload_n dX2_strokeOf_21 rfl ?_
      refine go_iconst (v := 4) dX2_strokeOf_22 (by decide) ?_
      refine go_imul dX2_strokeOf_23 ?_
      refine go_iload_n dX2_strokeOf_24 rfl ?_
      refine go_iadd dX2_strokeOf_25 ?_
      obtain ⟨hi, hF⟩ := hF
      refine go_iald dX2_strokeOf_26 sh_6 hi ?_
      refine go_goto 31 dX2_strokeOf_27 rfl ?_
      exact go_iret (S := []) dX2_strokeOf_31 rfl ⟨_, rfl, hF⟩
theorem vX12_w3 (G : GP) (d : Nat) (a0 : Int32) (a1 : Int32) (a2 : Int32) (m : Mem) (K : Int64 → Mem → Prop) (hF : Evl G (d) mX12_w2 [.int a0, .int a1] m (fun r2 m1 => K ((r2 <<< ((8 : Int32).toInt64 &&& 63)) ||| a2.toInt64) m1)) : Evl G (d + 1) mX12_w3 [.int a0, .int a1, .int a2] m K := by
  refine Ev.go [.int a0, .int a1, .int a2] (by decide) (Nat.le_of_ble_eq_true rfl) rfl ?_
  refine go_iload_n dX12_w3_0 rfl ?_
  refine go_iload_n dX12_w3_1 rfl ?_
  refine go_callS mX12_w2 dX12_w3_2 lm_X12_135 okX12_w2 isX12_w2 (As := [.int a0, .int a1]) (S := []) rfl rfl (Nat.le_of_ble_eq_true rfl) hF (k_l (fun r2 m1 hF => ?_))
  refine go_bipush (v := 8) dX12_w3_5 (by decide) ?_
  refine go_lshl dX12_w3_7 ?_
  refine go_iload_n dX12_w3_8 rfl ?_
  refine go_i2l dX12_w3_9 ?_
  refine go_lor dX12_w3_10 ?_
  exact go_lret (S := []) dX12_w3_11 rfl ⟨_, rfl, hF⟩
theorem vX11_lowestOf (G : GP) (d : Nat) (a0 : Int32) (m : Mem) (K : Int32 → Mem → Prop) (hF : Evi G (d) mJ6_bitCount_0f7a4 [.int ((a0 &&& (-a0)) - 1)] m (fun r2 m1 => K r2 m1)) : Evi G (d + 1) mX11_lowestOf [.int a0] m K := by
  refine Ev.go [.int a0] (by decide) (Nat.le_of_ble_eq_true rfl) rfl ?_
  refine go_iload_n dX11_lowestOf_0 rfl ?_
  refine go_iload_n dX11_lowestOf_1 rfl ?_
  refine go_ineg dX11_lowestOf_2 ?_
  refine go_iand dX11_lowestOf_3 ?_
  refine go_iconst (v := 1) dX11_lowestOf_4 (by decide) ?_
  refine go_isub dX11_lowestOf_5 ?_
  refine go_callS mJ6_bitCount_0f7a4 dX11_lowestOf_6 lm_X11_312 okJ6_bitCount_0f7a4 isJ6_bitCount_0f7a4 (As := [.int ((a0 &&& (-a0)) - 1)]) (S := []) rfl rfl (Nat.le_of_ble_eq_true rfl) hF (k_i (fun r2 m1 hF => ?_))
  exact go_iret (S := []) dX11_lowestOf_9 rfl ⟨_, rfl, hF⟩
theorem vX12_w4 (G : GP) (d : Nat) (a0 : Int32) (a1 : Int32) (a2 : Int32) (a3 : Int32) (m : Mem) (K : Int64 → Mem → Prop) (hF : Evl G (d + 1) mX12_w3 [.int a0, .int a1, .int a2] m (fun r2 m1 => K ((r2 <<< ((8 : Int32).toInt64 &&& 63)) ||| a3.toInt64) m1)) : Evl G (d + 2) mX12_w4 [.int a0, .int a1, .int a2, .int a3] m K := by
  refine Ev.go [.int a0, .int a1, .int a2, .int a3] (by decide) (Nat.le_of_ble_eq_true rfl) rfl ?_
  refine go_iload_n dX12_w4_0 rfl ?_
  refine go_iload_n dX12_w4_1 rfl ?_
  refine go_iload_n dX12_w4_2 rfl ?_
  refine go_callS mX12_w3 dX12_w4_3 lm_X12_139 okX12_w3 isX12_w3 (As := [.int a0, .int a1, .int a2]) (S := []) rfl rfl (Nat.le_of_ble_eq_true rfl) hF (k_l (fun r2 m1 hF => ?_))
  refine go_bipush (v := 8) dX12_w4_6 (by decide) ?_
  refine go_lshl dX12_w4_8 ?_
  refine go_iload_n dX12_w4_9 rfl ?_
  refine go_i2l dX12_w4_10 ?_
  refine go_lor dX12_w4_11 ?_
  exact go_lret (S := []) dX12_w4_12 rfl ⟨_, rfl, hF⟩
theorem vX12_w5 (G : GP) (d : Nat) (a0 : Int32) (a1 : Int32) (a2 : Int32) (a3 : Int32) (a4 : Int32) (m : Mem) (K : Int64 → Mem → Prop) (hF : Evl G (d + 2) mX12_w4 [.int a0, .int a1, .int a2, .int a3] m (fun r2 m1 => K ((r2 <<< ((8 : Int32).toInt64 &&& 63)) ||| a4.toInt64) m1)) : Evl G (d + 3) mX12_w5 [.int a0, .int a1, .int a2, .int a3, .int a4] m K := by
  refine Ev.go [.int a0, .int a1, .int a2, .int a3, .int a4] (by decide) (Nat.le_of_ble_eq_true rfl) rfl ?_
  refine go_iload_n dX12_w5_0 rfl ?_
  refine go_iload_n dX12_w5_1 rfl ?_
  refine go_iload_n dX12_w5_2 rfl ?_
  refine go_iload_n dX12_w5_3 rfl ?_
  refine go_callS mX12_w4 dX12_w5_4 lm_X12_143 okX12_w4 isX12_w4 (As := [.int a0, .int a1, .int a2, .int a3]) (S := []) rfl rfl (Nat.le_of_ble_eq_true rfl) hF (k_l (fun r2 m1 hF => ?_))
  refine go_bipush (v := 8) dX12_w5_7 (by decide) ?_
  refine go_lshl dX12_w5_9 ?_
  refine go_iload dX12_w5_10 rfl ?_
  refine go_i2l dX12_w5_12 ?_
  refine go_lor dX12_w5_13 ?_
  exact go_lret (S := []) dX12_w5_14 rfl ⟨_, rfl, hF⟩
theorem vX12_w6 (G : GP) (d : Nat) (a0 : Int32) (a1 : Int32) (a2 : Int32) (a3 : Int32) (a4 : Int32) (a5 : Int32) (m : Mem) (K : Int64 → Mem → Prop) (hF : Evl G (d + 3) mX12_w5 [.int a0, .int a1, .int a2, .int a3, .int a4] m (fun r2 m1 => K ((r2 <<< ((8 : Int32).toInt64 &&& 63)) ||| a5.toInt64) m1)) : Evl G (d + 4) mX12_w6 [.int a0, .int a1, .int a2, .int a3, .int a4, .int a5] m K := by
  refine Ev.go [.int a0, .int a1, .int a2, .int a3, .int a4, .int a5] (by decide) (Nat.le_of_ble_eq_true rfl) rfl ?_
  refine go_iload_n dX12_w6_0 rfl ?_
  refine go_iload_n dX12_w6_1 rfl ?_
  refine go_iload_n dX12_w6_2 rfl ?_
  refine go_iload_n dX12_w6_3 rfl ?_
  refine go_iload dX12_w6_4 rfl ?_
  refine go_callS mX12_w5 dX12_w6_6 lm_X12_147 okX12_w5 isX12_w5 (As := [.int a0, .int a1, .int a2, .int a3, .int a4]) (S := []) rfl rfl (Nat.le_of_ble_eq_true rfl) hF (k_l (fun r2 m1 hF => ?_))
  refine go_bipush (v := 8) dX12_w6_9 (by decide) ?_
  refine go_lshl dX12_w6_11 ?_
  refine go_iload dX12_w6_12 rfl ?_
  refine go_i2l dX12_w6_14 ?_
  refine go_lor dX12_w6_15 ?_
  exact go_lret (S := []) dX12_w6_16 rfl ⟨_, rfl, hF⟩
