theorem vX12_undo (G : GP) (d : Nat)  (m : Mem) (K : Int32 → Mem → Prop) (hF : ((¬ (m.1 274 4) = 0) → ∀ m1 : Mem, m1 = wI m 274 4 ((m.1 274 4) - 1) → ∀ x2 : Int32, x2 = (188 : Int32) + ((30 : Int32) * (m1.1 274 4)) → Gw G (d) mX12_undo 37 [.ref (ga G 273), .int x2, .int 0] [] m1 (Qi K)) ∧ (((m.1 274 4) = 0) → K (-1) m)) : Evi G (d) mX12_undo [.ref (ga G 273)] m K := by
  refine Ev.go [.ref (ga G 273), uu, uu] (by decide) (Nat.le_of_ble_eq_true rfl) rfl ?_
  refine go_aload_n dX12_undo_0 rfl ?_
  refine go_getR (k := 0) (r := 274) dX12_undo_1 sh_273 rfl inX12 (Nat.le_of_ble_eq_true rfl) lf_X12_7 rfl rfl ?_
  refine go_iconst (v := 4) dX12_undo_4 (by decide) ?_
  refine go_ialdK (k := 4) dX12_undo_5 sh_274 (vp_in_dec (by decide)) (by decide) ?_
  refine go_if_ne 11 dX12_undo_6 rfl ⟨fun hc => ?_, fun hc => ?_⟩
  · have hF := hF.1 hc
    refine go_aload_n dX12_undo_11 rfl ?_
    refine go_getR (k := 0) (r := 274) dX12_undo_12 sh_273 rfl inX12 (Nat.le_of_ble_eq_true rfl) lf_X12_7 rfl rfl ?_
    refine go_iconst (v := 4) dX12_undo_15 (by decide) ?_
    refine go_dup2 dX12_undo_16 rfl rfl ?_
    refine go_ialdK (k := 4) dX12_undo_17 sh_274 (vp_in_dec (by decide)) (by decide) ?_
    refine go_iconst (v := 1) dX12_undo_18 (by decide) ?_
    refine go_isub dX12_undo_19 ?_
    refine go_iastK (k := 4) dX12_undo_20 sh_274 (vp_in_dec (by decide)) (by decide) ?_
    obtain ⟨m1, em1⟩ : ∃ z : Mem, z = wI m 274 4 ((m.1 274 4) - 1) := ⟨_, rfl⟩
    rw [← em1]
    have hF := hF m1 em1
    refine go_sipush (v := 188) dX12_undo_21 (by decide) ?_
    refine go_bipush (v := 30) dX12_undo_24 (by decide) ?_
    refine go_aload_n dX12_undo_26 rfl ?_
    refine go_getR (k := 0) (r := 274) dX12_undo_27 sh_273 rfl inX12 (Nat.le_of_ble_eq_true rfl) lf_X12_7 rfl rfl ?_
    refine go_iconst (v := 4) dX12_undo_30 (by decide) ?_
    refine go_ialdK (k := 4) dX12_undo_31 sh_274 (vp_in_dec (by decide)) (by decide) ?_
    refine go_imul dX12_undo_32 ?_
    refine go_iadd dX12_undo_33 ?_
    refine Gw.namei (fun x2 ex2 => ?_)
    have hF := hF x2 ex2
    refine go_istore_n (L' := [.ref (ga G 273), .int x2, uu]) dX12_undo_34 (Nat.le_of_ble_eq_true rfl) rfl ?_
    refine go_iconst (v := 0) dX12_undo_35 (by decide) ?_
    refine go_istore_n (L' := [.ref (ga G 273), .int x2, .int 0]) dX12_undo_36 (Nat.le_of_ble_eq_true rfl) rfl ?_
    exact hF
  · have hF := hF.2 hc
    refine go_iconst (v := -1) dX12_undo_9 (by decide) ?_
    exact go_iret (S := []) dX12_undo_10 rfl ⟨_, rfl, hF⟩
theorem vX12_undo_37 (G : GP) (d : Nat) (l1 : Int32) (l2 : Int32) (m : Mem) (K : Int32 → Mem → Prop) (hF : ((3 ≤ l2) → Gw G (d) mX12_undo 86 [.ref (ga G 273), .int l1, .int 0] [] m (Qi K)) ∧ ((¬ 3 ≤ l2) → vp_in (l1 + l2) 5968 ∧ vp_in ((8 : Int32) + l2) 5968 ∧ ∀ m3 : Mem, m3 = wI m 274 ((8 : Int32) + l2).toNatClampNeg (m.1 274 (l1 + l2).toNatClampNeg) → vp_in ((l1 + 3) + l2) 5968 ∧ vp_in ((12 : Int32) + l2) 5968 ∧ ∀ m4 : Mem, m4 = wI m3 274 ((12 : Int32) + l2).toNatClampNeg (m3.1 274 ((l1 + 3) + l2).toNatClampNeg) → ∀ x5 : Int32, x5 = l2 + 1 → Gw G (d) mX12_undo 37 [.ref (ga G 273), .int l1, .int x5] [] m4 (Qi K))) : Gw G (d) mX12_undo 37 [.ref (ga G 273), .int l1, .int l2] [] m (Qi K) := by
  refine go_iload_n dX12_undo_37 rfl ?_
  refine go_iconst (v := 3) dX12_undo_38 (by decide) ?_
  refine go_icmp_ge 84 dX12_undo_39 rfl ⟨fun hc => ?_, fun hc => ?_⟩
  · have hF := hF.1 hc
    refine go_iconst (v := 0) dX12_undo_84 (by decide) ?_
    refine go_istore_n (L' := [.ref (ga G 273), .int l1, .int 0]) dX12_undo_85 (Nat.le_of_ble_eq_true rfl) rfl ?_
    exact hF
  · have hF := hF.2 hc
    refine go_aload_n dX12_undo_42 rfl ?_
    refine go_getR (k := 0) (r := 274) dX12_undo_43 sh_273 rfl inX12 (Nat.le_of_ble_eq_true rfl) lf_X12_7 rfl rfl ?_
    refine go_bipush (v := 8) dX12_undo_46 (by decide) ?_
    refine go_iload_n dX12_undo_48 rfl ?_
    refine go_iadd dX12_undo_49 ?_
    refine go_aload_n dX12_undo_50 rfl ?_
    refine go_getR (k := 0) (r := 274) dX12_undo_51 sh_273 rfl inX12 (Nat.le_of_ble_eq_true rfl) lf_X12_7 rfl rfl ?_
    refine go_iload_n dX12_undo_54 rfl ?_
    refine go_iload_n dX12_undo_55 rfl ?_
    refine go_iadd dX12_undo_56 ?_
    obtain ⟨hi, hF⟩ := hF
    refine go_iald dX12_undo_57 sh_274 hi ?_
    obtain ⟨hi, hF⟩ := hF
    refine go_iast dX12_undo_58 sh_274 hi ?_
    obtain ⟨m3, em3⟩ : ∃ z : Mem, z = wI m 274 ((8 : Int32) + l2).toNatClampNeg (m.1 274 (l1 + l2).toNatClampNeg) := ⟨_, rfl⟩
    rw [← em3]
    have hF := hF m3 em3
    refine go_aload_n dX12_undo_59 rfl ?_
    refine go_getR (k := 0) (r := 274) dX12_undo_60 sh_273 rfl inX12 (Nat.le_of_ble_eq_true rfl) lf_X12_7 rfl rfl ?_
    refine go_bipush (v := 12) dX12_undo_63 (by decide) ?_
    refine go_iload_n dX12_undo_65 rfl ?_
    refine go_iadd dX12_undo_66 ?_
    refine go_aload_n dX12_undo_67 rfl ?_
    refine go_getR (k := 0) (r := 274) dX12_undo_68 sh_273 rfl inX12 (Nat.le_of_ble_eq_true rfl) lf_X12_7 rfl rfl ?_
    refine go_iload_n dX12_undo_71 rfl ?_
    refine go_iconst (v := 3) dX12_undo_72 (by decide) ?_
    refine go_iadd dX12_undo_73 ?_
    refine go_iload_n dX12_undo_74 rfl ?_
    refine go_iadd dX12_undo_75 ?_
    obtain ⟨hi, hF⟩ := hF
    refine go_iald dX12_undo_76 sh_274 hi ?_
    obtain ⟨hi, hF⟩ := hF
    refine go_iast dX12_undo_77 sh_274 hi ?_
    obtain ⟨m4, em4⟩ : ∃ z : Mem, z = wI m3 274 ((12 : Int32) + l2).toNatClampNeg (m3.1 274 ((l1 + 3) + l2).toNatClampNeg) := ⟨_, rfl⟩
    rw [← em4]
    have hF := hF m4 em4
    obtain ⟨x5, ex5⟩ : ∃ z : Int32, z = l2 + 1 := ⟨_, rfl⟩
    have hF := hF x5 ex5
    refine go_iinc (v := x5) (L' := [.ref (ga G 273), .int l1, .int x5]) dX12_undo_78 rfl (by rw [ex5]; rfl) (Nat.le_of_ble_eq_true rfl) rfl ?_
    refine go_goto 37 dX12_undo_81 rfl ?_
    exact hF
theorem vX12_undo_86 (G : GP) (d : Nat) (l1 : Int32) (l2 : Int32) (m : Mem) (K : Int32 → Mem → Prop) (hF : ((24 ≤ l2) → K (m.1 274 4) m) ∧ ((¬ 24 ≤ l2) → vp_in ((l1 + 6) + l2) 5968 ∧ vp_in ((164 : Int32) + l2) 5968 ∧ ∀ m6 : Mem, m6 = wI m 274 ((164 : Int32) + l2).toNatClampNeg (m.1 274 ((l1 + 6) + l2).toNatClampNeg) → ∀ x7 : Int32, x7 = l2 + 1 → Gw G (d) mX12_undo 86 [.ref (ga G 273), .int l1, .int x7] [] m6 (Qi K))) : Gw G (d) mX12_undo 86 [.ref (ga G 273), .int l1, .int l2] [] m (Qi K) := by
  refine go_iload_n dX12_undo_86 rfl ?_
  refine go_bipush (v := 24) dX12_undo_87 (by decide) ?_
  refine go_icmp_ge 119 dX12_undo_89 rfl ⟨fun hc => ?_, fun hc => ?_⟩
  · have hF := hF.1 hc
    refine go_aload_n dX12_undo_119 rfl ?_
    refine go_getR (k := 0) (r := 274) dX12_undo_120 sh_273 rfl inX12 (Nat.le_of_ble_eq_true rfl) lf_X12_7 rfl rfl ?_
    refine go_iconst (v := 4) dX12_undo_123 (by decide) ?_
    refine go_ialdK (k := 4) dX12_undo_124 sh_274 (vp_in_dec (by decide)) (by decide) ?_
    exact go_iret (S := []) dX12_undo_125 rfl ⟨_, rfl, hF⟩
  · have hF := hF.2 hc
    refine go_aload_n dX12_undo_92 rfl ?_
    refine go_getR (k := 0) (r := 274) dX12_undo_93 sh_273 rfl inX12 (Nat.le_of_ble_eq_true rfl) lf_X12_7 rfl rfl ?_
    refine go_sipush (v := 164) dX12_undo_96 (by decide) ?_
    refine go_iload_n dX12_undo_99 rfl ?_
    refine go_iadd dX12_undo_100 ?_
    refine go_aload_n dX12_undo_101 rfl ?_
    refine go_getR (k := 0) (r := 274) dX12_undo_102 sh_273 rfl inX12 (Nat.le_of_ble_eq_true rfl) lf_X12_7 rfl rfl ?_
    refine go_iload_n dX12_undo_105 rfl ?_
    refine go_bipush (v := 6) dX12_undo_106 (by decide) ?_
    refine go_iadd dX12_undo_108 ?_
    refine go_iload_n dX12_undo_109 rfl ?_
    refine go_iadd dX12_undo_110 ?_
    obtain ⟨hi, hF⟩ := hF
    refine go_iald dX12_undo_111 sh_274 hi ?_
    obtain ⟨hi, hF⟩ := hF
    refine go_iast dX12_undo_112 sh_274 hi ?_
    obtain ⟨m6, em6⟩ : ∃ z : Mem, z = wI m 274 ((164 : Int32) + l2).toNatClampNeg (m.1 274 ((l1 + 6) + l2).toNatClampNeg) := ⟨_, rfl⟩
    rw [← em6]
    have hF := hF m6 em6
    obtain ⟨x7, ex7⟩ : ∃ z : Int32, z = l2 + 1 := ⟨_, rfl⟩
    have hF := hF x7 ex7
    refine go_iinc (v := x7) (L' := [.ref (ga G 273), .int l1, .int x7]) dX12_undo_113 rfl (by rw [ex7]; rfl) (Nat.le_of_ble_eq_true rfl) rfl ?_
    refine go_goto 86 dX12_undo_116 rfl ?_
    exact hF
theorem vX12_canRing (G : GP) (d : Nat) (a0 : Int32) (m : Mem) (K : Int32 → Mem → Prop) (hF : vp_in (((16 : Int32) + (3 : Int32) * a0) + 2) 5968 ∧ (((m.1 274 11) < (m.1 274 (((16 : Int32) + (3 : Int32) * a0) + 2).toNatClampNeg)) → K 0 m) ∧ ((¬ (m.1 274 11) < (m.1 274 (((16 : Int32) + (3 : Int32) * a0) + 2).toNatClampNeg)) → ((24 ≤ (m.1 274 14)) → K 0 m) ∧ ((¬ 24 ≤ (m.1 274 14)) → K 1 m))) : Evi G (d + 1) mX12_canRing [.ref (ga G 273), .int a0] m K := by
  refine Ev.go [.ref (ga G 273), .int a0] (by decide) (Nat.le_of_ble_eq_true rfl) rfl ?_
  refine go_aload_n dX12_canRing_0 rfl ?_
  refine go_iload_n dX12_canRing_1 rfl ?_
  obtain ⟨ho, hF⟩ := hF
  refine go_callV mX12_men dX12_canRing_2 lm_X12_302 okX12_men isX12_men sh_273 rfl (As := [.int a0]) (S := []) rfl rfl (Nat.le_of_ble_eq_true rfl) (eX12_men G _ a0 m (fun r m' => r = m.1 274 (((16 : Int32) + (3 : Int32) * a0) + 2).toNatClampNeg ∧ m = m') ho ⟨rfl, rfl⟩) (k_i (fun r m' hr => ?_))
  obtain ⟨hr1, hr2⟩ := hr
  subst hr1
  subst hr2
  refine go_aload_n dX12_canRing_5 rfl ?_
  refine go_getR (k := 0) (r := 274) dX12_canRing_6 sh_273 rfl inX12 (Nat.le_of_ble_eq_true rfl) lf_X12_7 rfl rfl ?_
  refine go_bipush (v := 11) dX12_canRing_9 (by decide) ?_
  refine go_ialdK (k := 11) dX12_canRing_11 sh_274 (vp_in_dec (by decide)) (by decide) ?_
  refine go_icmp_gt 31 dX12_canRing_12 rfl ⟨fun hc => ?_, fun hc => ?_⟩
  · have hF := hF.1 hc
    refine go_iconst (v := 0) dX12_canRing_31 (by decide) ?_
    exact go_zret (S := []) dX12_canRing_32 rfl (by decide) ⟨_, rfl, hF⟩
  · have hF := hF.2 hc
    refine go_aload_n dX12_canRing_15 rfl ?_
    refine go_getR (k := 0) (r := 274) dX12_canRing_16 sh_273 rfl inX12 (Nat.le_of_ble_eq_true rfl) lf_X12_7 rfl rfl ?_
    refine go_bipush (v := 14) dX12_canRing_19 (by decide) ?_
    refine go_ialdK (k := 14) dX12_canRing_21 sh_274 (vp_in_dec (by decide)) (by decide) ?_
    refine go_bipush (v := 24) dX12_canRing_22 (by decide) ?_
    refine go_icmp_ge 31 dX12_canRing_24 rfl ⟨fun hc => ?_, fun hc => ?_⟩
    · have hF := hF.1 hc
      refine go_iconst (v := 0) dX12_canRing_31 (by decide) ?_
      exact go_zret (S := []) dX12_canRing_32 rfl (by decide) ⟨_, rfl, hF⟩
    · have hF := hF.2 hc
      refine go_iconst (v := 1) dX12_canRing_27 (by decide) ?_
      refine go_goto 32 dX12_canRing_28 rfl ?_
      exact go_zret (S := []) dX12_canRing_32 rfl (by decide) ⟨_, rfl, hF⟩
theorem vX12_ringNow (G : GP) (d : Nat) (a0 : Int32) (m : Mem) (K : Int32 → Mem → Prop) (hF : Evi G (d + 4) mX12_isOver [.ref (ga G 273), .int a0, .int (m.1 274 8), .int (m.1 274 14)] m (fun r2 m1 => ((r2 = 0) → vp_in ((164 : Int32) + (m1.1 274 14)) 5968 ∧ ∀ m3 : Mem, m3 = wI m1 274 ((164 : Int32) + (m1.1 274 14)).toNatClampNeg (a0 + ((10 : Int32) * 0)) → ∀ m4 : Mem, m4 = wI m3 274 14 ((m3.1 274 14) + 1) → K 0 m4) ∧ ((¬ r2 = 0) → vp_in ((164 : Int32) + (m1.1 274 14)) 5968 ∧ ∀ m5 : Mem, m5 = wI m1 274 ((164 : Int32) + (m1.1 274 14)).toNatClampNeg (a0 + ((10 : Int32) * 1)) → ∀ m6 : Mem, m6 = wI m5 274 14 ((m5.1 274 14) + 1) → K 1 m6))) : Evi G (d + 5) mX12_ringNow [.ref (ga G 273), .int a0] m K := by
  refine Ev.go [.ref (ga G 273), .int a0, uu] (by decide) (Nat.le_of_ble_eq_true rfl) rfl ?_
  refine go_aload_n dX12_ringNow_0 rfl ?_
  refine go_iload_n dX12_ringNow_1 rfl ?_
  refine go_aload_n dX12_ringNow_2 rfl ?_
  refine go_getR (k := 0) (r := 274) dX12_ringNow_3 sh_273 rfl inX12 (Nat.le_of_ble_eq_true rfl) lf_X12_7 rfl rfl ?_
  refine go_bipush (v := 8) dX12_ringNow_6 (by decide) ?_
  refine go_ialdK (k := 8) dX12_ringNow_8 sh_274 (vp_in_dec (by decide)) (by decide) ?_
  refine go_aload_n dX12_ringNow_9 rfl ?_
  refine go_getR (k := 0) (r := 274) dX12_ringNow_10 sh_273 rfl inX12 (Nat.le_of_ble_eq_true rfl) lf_X12_7 rfl rfl ?_
  refine go_bipush (v := 14) dX12_ringNow_13 (by decide) ?_
  refine go_ialdK (k := 14) dX12_ringNow_15 sh_274 (vp_in_dec (by decide)) (by decide) ?_
  refine go_callV mX12_isOver dX12_ringNow_16 lm_X12_308 okX12_isOver isX12_isOver sh_273 rfl (As := [.int a0, .int (m.1 274 8), .int (m.1 274 14)]) (S := []) rfl rfl (Nat.le_of_ble_eq_true rfl) hF (k_i (fun r2 m1 hF => ?_))
  refine go_if_eq 26 dX12_ringNow_19 rfl ⟨fun hc => ?_, fun hc => ?_⟩
  · have hF := hF.1 hc
    refine go_iconst (v := 0) dX12_ringNow_26 (by decide) ?_
    refine go_istore_n (L' := [.ref (ga G 273), .int a0, .int 0]) dX12_ringNow_27 (Nat.le_of_ble_eq_true rfl) rfl ?_
    refine go_aload_n dX12_ringNow_28 rfl ?_
    refine go_getR (k := 0) (r := 274) dX12_ringNow_29 sh_273 rfl inX12 (Nat.le_of_ble_eq_true rfl) lf_X12_7 rfl rfl ?_
    refine go_sipush (v := 164) dX12_ringNow_32 (by decide) ?_
    refine go_aload_n dX12_ringNow_35 rfl ?_
    refine go_getR (k := 0) (r := 274) dX12_ringNow_36 sh_273 rfl inX12 (Nat.le_of_ble_eq_true rfl) lf_X12_7 rfl rfl ?_
    refine go_bipush (v := 14) dX12_ringNow_39 (by decide) ?_
    refine go_ialdK (k := 14) dX12_ringNow_41 sh_274 (vp_in_dec (by decide)) (by decide) ?_
    refine go_iadd dX12_ringNow_42 ?_
    refine go_iload_n dX12_ringNow_43 rfl ?_
    refine go_bipush (v := 10) dX12_ringNow_44 (by decide) ?_
    refine go_iload_n dX12_ringNow_46 rfl ?_
    refine go_imul dX12_ringNow_47 ?_
    refine go_iadd dX12_ringNow_48 ?_
    obtain ⟨hi, hF⟩ := hF
    refine go_iast dX12_ringNow_49 sh_274 hi ?_
    obtain ⟨m3, em3⟩ : ∃ z : Mem, z = wI m1 274 ((164 : Int32) + (m1.1 274 14)).toNatClampNeg (a0 + ((10 : Int32) * 0)) := ⟨_, rfl⟩
    rw [← em3]
    have hF := hF m3 em3
    refine go_aload_n dX12_ringNow_50 rfl ?_
    refine go_getR (k := 0) (r := 274) dX12_ringNow_51 sh_273 rfl inX12 (Nat.le_of_ble_eq_true rfl) lf_X12_7 rfl rfl ?_
    refine go_bipush (v := 14) dX12_ringNow_54 (by decide) ?_
    refine go_dup2 dX12_ringNow_56 rfl rfl ?_
    refine go_ialdK (k := 14) dX12_ringNow_57 sh_274 (vp_in_dec (by decide)) (by decide) ?_
    refine go_iconst (v := 1) dX12_ringNow_58 (by decide) ?_
    refine go_iadd dX12_ringNow_59 ?_
    refine go_iastK (k := 14) dX12_ringNow_60 sh_274 (vp_in_dec (by decide)) (by decide) ?_
    obtain ⟨m4, em4⟩ : ∃ z : Mem, z = wI m3 274 14 ((m3.1 274 14) + 1) := ⟨_, rfl⟩
    rw [← em4]
    have hF := hF m4 em4
    refine go_iload_n dX12_ringNow_61 rfl ?_
    exact go_iret (S := []) dX12_ringNow_62 rfl ⟨_, rfl, hF⟩
  · have hF := hF.2 hc
    refine go_iconst (v := 1) dX12_ringNow_22 (by decide) ?_
    refine go_goto 27 dX12_ringNow_23 rfl ?_
    refine go_istore_n (L' := [.ref (ga G 273), .int a0, .int 1]) dX12_ringNow_27 (Nat.le_of_ble_eq_true rfl) rfl ?_
    refine go_aload_n dX12_ringNow_28 rfl ?_
    refine go_getR (k := 0) (r := 274) dX12_ringNow_29 sh_273 rfl inX12 (Nat.le_of_ble_eq_true rfl) lf_X12_7 rfl rfl ?_
    refine go_sipush (v := 164) dX12_ringNow_32 (by decide) ?_
    refine go_aload_n dX12_ringNow_35 rfl ?_
    refine go_getR (k := 0) (r := 274) dX12_ringNow_36 sh_273 rfl inX12 (Nat.le_of_ble_eq_true rfl) lf_X12_7 rfl rfl ?_
    refine go_bipush (v := 14) dX12_ringNow_39 (by decide) ?_
    refine go_ialdK (k := 14) dX12_ringNow_41 sh_274 (vp_in_dec (by decide)) (by decide) ?_
    refine go_iadd dX12_ringNow_42 ?_
    refine go_iload_n dX12_ringNow_43 rfl ?_
    refine go_bipush (v := 10) dX12_ringNow_44 (by decide) ?_
    refine go_iload_n dX12_ringNow_46 rfl ?_
    refine go_imul dX12_ringNow_47 ?_
    refine go_iadd dX12_ringNow_48 ?_
    obtain ⟨hi, hF⟩ := hF
    refine go_iast dX12_ringNow_49 sh_274 hi ?_
    obtain ⟨m5, em5⟩ : ∃ z : Mem, z = wI m1 274 ((164 : Int32) + (m1.1 274 14)).toNatClampNeg (a0 + ((10 : Int32) * 1)) := ⟨_, rfl⟩
    rw [← em5]
    have hF := hF m5 em5
    refine go_aload_n dX12_ringNow_50 rfl ?_
    refine go_getR (k := 0) (r := 274) dX12_ringNow_51 sh_273 rfl inX12 (Nat.le_of_ble_eq_true rfl) lf_X12_7 rfl rfl ?_
    refine go_bipush (v := 14) dX12_ringNow_54 (by decide) ?_
    refine go_dup2 dX12_ringNow_56 rfl rfl ?_
    refine go_ialdK (k := 14) dX12_ringNow_57 sh_274 (vp_in_dec (by decide)) (by decide) ?_
    refine go_iconst (v := 1) dX12_ringNow_58 (by decide) ?_
    refine go_iadd dX12_ringNow_59 ?_
    refine go_iastK (k := 14) dX12_ringNow_60 sh_274 (vp_in_dec (by decide)) (by decide) ?_
    obtain ⟨m6, em6⟩ : ∃ z : Mem, z = wI m5 274 14 ((m5.1 274 14) + 1) := ⟨_, rfl⟩
    rw [← em6]
    have hF := hF m6 em6
    refine go_iload_n dX12_ringNow_61 rfl ?_
    exact go_iret (S := []) dX12_ringNow_62 rfl ⟨_, rfl, hF⟩
theorem vX12_ring (G : GP) (d : Nat) (a0 : Int32) (m : Mem) (K : Int32 → Mem → Prop) (hF : ((0 ≤ a0 ∧ a0 ≤ m.1 274 0 - 1) → Evi G (d + 5) mX12_canRing [.ref (ga G 273), .int a0] m (fun r2 m1 => ((¬ r2 = 0) → Evv G (d + 5) mX12_keep [.ref (ga G 273)] m1 (fun m3 => Evi G (d + 5) mX12_ringNow [.ref (ga G 273), .int a0] m3 (fun r5 m4 => K r5 m4))) ∧ ((r2 = 0) → K (-1) m1))) ∧ (¬ (0 ≤ a0 ∧ a0 ≤ m.1 274 0 - 1) → K (-1) m)) : Evi G (d + 6) mX12_ring [.ref (ga G 273), .int a0] m K := by
  refine Ev.go [.ref (ga G 273), .int a0] (by decide) (Nat.le_of_ble_eq_true rfl) rfl ?_
  refine go_aload_n dX12_ring_0 rfl ?_
  refine go_iload_n dX12_ring_1 rfl ?_
  rcases Classical.em (0 ≤ a0 ∧ a0 ≤ m.1 274 0 - 1) with hp | hp
  · have hF := hF.1 hp
    refine go_callV mX12_isBell dX12_ring_2 lm_X12_88 okX12_isBell isX12_isBell sh_273 rfl (As := [.int a0]) (S := []) rfl rfl (Nat.le_of_ble_eq_true rfl) (eX12_isBell G _ a0 m (fun r m' => r = 1 ∧ m = m') ⟨fun _ => ⟨rfl, rfl⟩, fun q => absurd hp q⟩) (k_i (fun r m' hr => ?_))
    obtain ⟨hr1, hr2⟩ := hr
    subst hr1
    subst hr2
    refine go_if_eq 16 dX12_ring_5 rfl ⟨fun hc => absurd hc (by decide), fun _ => ?_⟩
    refine go_aload_n dX12_ring_8 rfl ?_
    refine go_iload_n dX12_ring_9 rfl ?_
    refine go_callV mX12_canRing dX12_ring_10 lm_X12_311 okX12_canRing isX12_canRing sh_273 rfl (As := [.int a0]) (S := []) rfl rfl (Nat.le_of_ble_eq_true rfl) hF (k_i (fun r2 m1 hF => ?_))
    refine go_if_ne 18 dX12_ring_13 rfl ⟨fun hc => ?_, fun hc => ?_⟩
    · have hF := hF.1 hc
      refine go_aload_n dX12_ring_18 rfl ?_
      refine go_callV mX12_keep dX12_ring_19 lm_X12_314 okX12_keep isX12_keep sh_273 rfl (As := []) (S := []) rfl rfl (Nat.le_of_ble_eq_true rfl) hF (k_v (fun m3 hF => ?_))
      refine go_aload_n dX12_ring_22 rfl ?_
      refine go_iload_n dX12_ring_23 rfl ?_
      refine go_callV mX12_ringNow dX12_ring_24 lm_X12_317 okX12_ringNow isX12_ringNow sh_273 rfl (As := [.int a0]) (S := []) rfl rfl (Nat.le_of_ble_eq_true rfl) hF (k_i (fun r5 m4 hF => ?_))
      exact go_iret (S := []) dX12_ring_27 rfl ⟨_, rfl, hF⟩
    · have hF := hF.2 hc
      refine go_iconst (v := -1) dX12_ring_16 (by decide) ?_
      exact go_iret (S := []) dX12_ring_17 rfl ⟨_, rfl, hF⟩
  · have hF := hF.2 hp
    refine go_callV mX12_isBell dX12_ring_2 lm_X12_88 okX12_isBell isX12_isBell sh_273 rfl (As := [.int a0]) (S := []) rfl rfl (Nat.le_of_ble_eq_true rfl) (eX12_isBell G _ a0 m (fun r m' => r = 0 ∧ m = m') ⟨fun q => absurd q hp, fun _ => ⟨rfl, rfl⟩⟩) (k_i (fun r m' hr => ?_))
    obtain ⟨hr1, hr2⟩ := hr
    subst hr1
    subst hr2
    refine go_if_eq 16 dX12_ring_5 rfl ⟨fun _ => ?_, fun hc => absurd hc (by decide)⟩
    refine go_iconst (v := -1) dX12_ring_16 (by decide) ?_
    exact go_iret (S := []) dX12_ring_17 rfl ⟨_, rfl, hF⟩
theorem vX12_needed (G : GP) (d : Nat) (a0 : Int32) (m : Mem) (K : Int32 → Mem → Prop) (hF : Gw G (d + 2) mX12_needed 4 [.ref (ga G 273), .int a0, .int 0, .int 0] [] m (Qi K)) : Evi G (d + 2) mX12_needed [.ref (ga G 273), .int a0] m K := by
  refine Ev.go [.ref (ga G 273), .int a0, uu, uu] (by decide) (Nat.le_of_ble_eq_true rfl) rfl ?_
  refine go_iconst (v := 0) dX12_needed_0 (by decide) ?_
  refine go_istore_n (L' := [.ref (ga G 273), .int a0, .int 0, uu]) dX12_needed_1 (Nat.le_of_ble_eq_true rfl) rfl ?_
  refine go_iconst (v := 0) dX12_needed_2 (by decide) ?_
  refine go_istore_n (L' := [.ref (ga G 273), .int a0, .int 0, .int 0]) dX12_needed_3 (Nat.le_of_ble_eq_true rfl) rfl ?_
  exact hF
theorem vX12_needed_4 (G : GP) (d : Nat) (l1 : Int32) (l2 : Int32) (l3 : Int32) (m : Mem) (K : Int32 → Mem → Prop) (hF : vp_in (((34 : Int32) + (9 : Int32) * l1) + 2) 5968 ∧ (((m.1 274 (((34 : Int32) + (9 : Int32) * l1) + 2).toNatClampNeg) ≤ l3) → K l2 m) ∧ ((¬ (m.1 274 (((34 : Int32) + (9 : Int32) * l1) + 2).toNatClampNeg) ≤ l3) → vp_in (((34 : Int32) + (9 : Int32) * l1) + ((3 : Int32) + l3)) 5968 ∧ vp_in (((16 : Int32) + (3 : Int32) * (m.1 274 (((34 : Int32) + (9 : Int32) * l1) + ((3 : Int32) + l3)).toNatClampNeg)) + 2) 5968 ∧ (((m.1 274 (((16 : Int32) + (3 : Int32) * (m.1 274 (((34 : Int32) + (9 : Int32) * l1) + ((3 : Int32) + l3)).toNatClampNeg)) + 2).toNatClampNeg) ≤ l2) → ∀ x1 : Int32, x1 = l3 + 1 → Gw G (d + 2) mX12_needed 4 [.ref (ga G 273), .int l1, .int l2, .int x1] [] m (Qi K)) ∧ ((¬ (m.1 274 (((16 : Int32) + (3 : Int32) * (m.1 274 (((34 : Int32) + (9 : Int32) * l1) + ((3 : Int32) + l3)).toNatClampNeg)) + 2).toNatClampNeg) ≤ l2) → vp_in (((34 : Int32) + (9 : Int32) * l1) + ((3 : Int32) + l3)) 5968 ∧ vp_in (((16 : Int32) + (3 : Int32) * (m.1 274 (((34 : Int32) + (9 : Int32) * l1) + ((3 : Int32) + l3)).toNatClampNeg)) + 2) 5968 ∧ ∀ x2 : Int32, x2 = m.1 274 (((16 : Int32) + (3 : Int32) * (m.1 274 (((34 : Int32) + (9 : Int32) * l1) + ((3 : Int32) + l3)).toNatClampNeg)) + 2).toNatClampNeg → ∀ x3 : Int32, x3 = l3 + 1 → Gw G (d + 2) mX12_needed 4 [.ref (ga G 273), .int l1, .int x2, .int x3] [] m (Qi K)))) : Gw G (d + 2) mX12_needed 4 [.ref (ga G 273), .int l1, .int l2, .int l3] [] m (Qi K) := by
  refine go_iload_n dX12_needed_4 rfl ?_
  refine go_aload_n dX12_needed_5 rfl ?_
  refine go_iload_n dX12_needed_6 rfl ?_
  refine go_iconst (v := 2) dX12_needed_7 (by decide) ?_
  obtain ⟨ho, hF⟩ := hF
  refine go_callV mX12_of dX12_needed_8 lm_X12_84 okX12_of isX12_of sh_273 rfl (As := [.int l1, .int 2]) (S := [.int l3]) rfl rfl (Nat.le_of_ble_eq_true rfl) (eX12_of G _ l1 2 m (fun r m' => r = m.1 274 (((34 : Int32) + (9 : Int32) * l1) + 2).toNatClampNeg ∧ m = m') ho ⟨rfl, rfl⟩) (k_i (fun r m' hr => ?_))
  obtain ⟨hr1, hr2⟩ := hr
  subst hr1
  subst hr2
  refine go_icmp_ge 49 dX12_needed_11 rfl ⟨fun hc => ?_, fun hc => ?_⟩
  · have hF := hF.1 hc
    refine go_iload_n dX12_needed_49 rfl ?_
    exact go_iret (S := []) dX12_needed_50 rfl ⟨_, rfl, hF⟩
  · have hF := hF.2 hc
    refine go_aload_n dX12_needed_14 rfl ?_
    refine go_aload_n dX12_needed_15 rfl ?_
    refine go_iload_n dX12_needed_16 rfl ?_
    refine go_iload_n dX12_needed_17 rfl ?_
    obtain ⟨ho, hF⟩ := hF
    refine go_callV mX12_strokeOf dX12_needed_18 lm_X12_320 okX12_strokeOf isX12_strokeOf sh_273 rfl (As := [.int l1, .int l3]) (S := [.ref (ga G 273)]) rfl rfl (Nat.le_of_ble_eq_true rfl) (eX12_strokeOf G _ l1 l3 m (fun r m' => r = m.1 274 (((34 : Int32) + (9 : Int32) * l1) + ((3 : Int32) + l3)).toNatClampNeg ∧ m = m') ho ⟨rfl, rfl⟩) (k_i (fun r m' hr => ?_))
    obtain ⟨hr1, hr2⟩ := hr
    subst hr1
    subst hr2
    obtain ⟨ho, hF⟩ := hF
    refine go_callV mX12_men dX12_needed_21 lm_X12_302 okX12_men isX12_men sh_273 rfl (As := [.int (m.1 274 (((34 : Int32) + (9 : Int32) * l1) + ((3 : Int32) + l3)).toNatClampNeg)]) (S := []) rfl rfl (Nat.le_of_ble_eq_true rfl) (eX12_men G _ (m.1 274 (((34 : Int32) + (9 : Int32) * l1) + ((3 : Int32) + l3)).toNatClampNeg) m (fun r m' => r = m.1 274 (((16 : Int32) + (3 : Int32) * (m.1 274 (((34 : Int32) + (9 : Int32) * l1) + ((3 : Int32) + l3)).toNatClampNeg)) + 2).toNatClampNeg ∧ m = m') ho ⟨rfl, rfl⟩) (k_i (fun r m' hr => ?_))
    obtain ⟨hr1, hr2⟩ := hr
    subst hr1
    subst hr2
    refine go_iload_n dX12_needed_24 rfl ?_
    refine go_icmp_le 41 dX12_needed_25 rfl ⟨fun hc => ?_, fun hc => ?_⟩
    · have hF := hF.1 hc
      refine go_iload_n dX12_needed_41 rfl ?_
      refine go_istore_n (L' := [.ref (ga G 273), .int l1, .int l2, .int l3]) dX12_needed_42 (Nat.le_of_ble_eq_true rfl) rfl ?_
      obtain ⟨x1, ex1⟩ : ∃ z : Int32, z = l3 + 1 := ⟨_, rfl⟩
      have hF := hF x1 ex1
      refine go_iinc (v := x1) (L' := [.ref (ga G 273), .int l1, .int l2, .int x1]) dX12_needed_43 rfl (by rw [ex1]; rfl) (Nat.le_of_ble_eq_true rfl) rfl ?_
      refine go_goto 4 dX12_needed_46 rfl ?_
      exact hF
    · have hF := hF.2 hc
      refine go_aload_n dX12_needed_28 rfl ?_
      refine go_aload_n dX12_needed_29 rfl ?_
      refine go_iload_n dX12_needed_30 rfl ?_
      refine go_iload_n dX12_needed_31 rfl ?_
      obtain ⟨ho, hF⟩ := hF
      refine go_callV mX12_strokeOf dX12_needed_32 lm_X12_320 okX12_strokeOf isX12_strokeOf sh_273 rfl (As := [.int l1, .int l3]) (S := [.ref (ga G 273)]) rfl rfl (Nat.le_of_ble_eq_true rfl) (eX12_strokeOf G _ l1 l3 m (fun r m' => r = m.1 274 (((34 : Int32) + (9 : Int32) * l1) + ((3 : Int32) + l3)).toNatClampNeg ∧ m = m') ho ⟨rfl, rfl⟩) (k_i (fun r m' hr => ?_))
      obtain ⟨hr1, hr2⟩ := hr
      subst hr1
      subst hr2
      obtain ⟨ho, hF⟩ := hF
      refine go_callV mX12_men dX12_needed_35 lm_X12_302 okX12_men isX12_men sh_273 rfl (As := [.int (m.1 274 (((34 : Int32) + (9 : Int32) * l1) + ((3 : Int32) + l3)).toNatClampNeg)]) (S := []) rfl rfl (Nat.le_of_ble_eq_true rfl) (eX12_men G _ (m.1 274 (((34 : Int32) + (9 : Int32) * l1) + ((3 : Int32) + l3)).toNatClampNeg) m (fun r m' => r = m.1 274 (((16 : Int32) + (3 : Int32) * (m.1 274 (((34 : Int32) + (9 : Int32) * l1) + ((3 : Int32) + l3)).toNatClampNeg)) + 2).toNatClampNeg ∧ m = m') ho ⟨rfl, rfl⟩) (k_i (fun r m' hr => ?_))
      obtain ⟨hr1, hr2⟩ := hr
      subst hr1
      subst hr2
      refine go_goto 42 dX12_needed_38 rfl ?_
      refine Gw.namei (fun x2 ex2 => ?_)
      have hF := hF x2 ex2
      refine go_istore_n (L' := [.ref (ga G 273), .int l1, .int x2, .int l3]) dX12_needed_42 (Nat.le_of_ble_eq_true rfl) rfl ?_
      obtain ⟨x3, ex3⟩ : ∃ z : Int32, z = l3 + 1 := ⟨_, rfl⟩
      have hF := hF x3 ex3
      refine go_iinc (v := x3) (L' := [.ref (ga G 273), .int l1, .int x2, .int x3]) dX12_needed_43 rfl (by rw [ex3]; rfl) (Nat.le_of_ble_eq_true rfl) rfl ?_
      refine go_goto 4 dX12_needed_46 rfl ?_
      exact hF
theorem vX12_canSpeak (G : GP) (d : Nat) (a0 : Int32) (m : Mem) (K : Int32 → Mem → Prop) (hF : Evi G (d + 2) mX12_needed [.ref (ga G 273), .int a0] m (fun r2 m1 => (((m1.1 274 11) < r2) → K 0 m1) ∧ ((¬ (m1.1 274 11) < r2) → vp_in (((34 : Int32) + (9 : Int32) * a0) + 2) 5968 ∧ ((24 < ((m1.1 274 14) + (m1.1 274 (((34 : Int32) + (9 : Int32) * a0) + 2).toNatClampNeg))) → K 0 m1) ∧ ((¬ 24 < ((m1.1 274 14) + (m1.1 274 (((34 : Int32) + (9 : Int32) * a0) + 2).toNatClampNeg))) → K 1 m1)))) : Evi G (d + 3) mX12_canSpeak [.ref (ga G 273), .int a0] m K := by
  refine Ev.go [.ref (ga G 273), .int a0] (by decide) (Nat.le_of_ble_eq_true rfl) rfl ?_
  refine go_aload_n dX12_canSpeak_0 rfl ?_
  refine go_iload_n dX12_canSpeak_1 rfl ?_
  refine go_callV mX12_needed dX12_canSpeak_2 lm_X12_323 okX12_needed isX12_needed sh_273 rfl (As := [.int a0]) (S := []) rfl rfl (Nat.le_of_ble_eq_true rfl) hF (k_i (fun r2 m1 hF => ?_))
  refine go_aload_n dX12_canSpeak_5 rfl ?_
  refine go_getR (k := 0) (r := 274) dX12_canSpeak_6 sh_273 rfl inX12 (Nat.le_of_ble_eq_true rfl) lf_X12_7 rfl rfl ?_
  refine go_bipush (v := 11) dX12_canSpeak_9 (by decide) ?_
  refine go_ialdK (k := 11) dX12_canSpeak_11 sh_274 (vp_in_dec (by decide)) (by decide) ?_
  refine go_icmp_gt 38 dX12_canSpeak_12 rfl ⟨fun hc => ?_, fun hc => ?_⟩
  · have hF := hF.1 hc
    refine go_iconst (v := 0) dX12_canSpeak_38 (by decide) ?_
    exact go_zret (S := []) dX12_canSpeak_39 rfl (by decide) ⟨_, rfl, hF⟩
  · have hF := hF.2 hc
    refine go_aload_n dX12_canSpeak_15 rfl ?_
    refine go_getR (k := 0) (r := 274) dX12_canSpeak_16 sh_273 rfl inX12 (Nat.le_of_ble_eq_true rfl) lf_X12_7 rfl rfl ?_
    refine go_bipush (v := 14) dX12_canSpeak_19 (by decide) ?_
    refine go_ialdK (k := 14) dX12_canSpeak_21 sh_274 (vp_in_dec (by decide)) (by decide) ?_
    refine go_aload_n dX12_canSpeak_22 rfl ?_
    refine go_iload_n dX12_canSpeak_23 rfl ?_
    refine go_iconst (v := 2) dX12_canSpeak_24 (by decide) ?_
    obtain ⟨ho, hF⟩ := hF
    refine go_callV mX12_of dX12_canSpeak_25 lm_X12_84 okX12_of isX12_of sh_273 rfl (As := [.int a0, .int 2]) (S := [.int (m1.1 274 14)]) rfl rfl (Nat.le_of_ble_eq_true rfl) (eX12_of G _ a0 2 m1 (fun r m' => r = m1.1 274 (((34 : Int32) + (9 : Int32) * a0) + 2).toNatClampNeg ∧ m1 = m') ho ⟨rfl, rfl⟩) (k_i (fun r m' hr => ?_))
    obtain ⟨hr1, hr2⟩ := hr
    subst hr1
    subst hr2
    refine go_iadd dX12_canSpeak_28 ?_
    refine go_bipush (v := 24) dX12_canSpeak_29 (by decide) ?_
    refine go_icmp_gt 38 dX12_canSpeak_31 rfl ⟨fun hc => ?_, fun hc => ?_⟩
    · have hF := hF.1 hc
      refine go_iconst (v := 0) dX12_canSpeak_38 (by decide) ?_
      exact go_zret (S := []) dX12_canSpeak_39 rfl (by decide) ⟨_, rfl, hF⟩
    · have hF := hF.2 hc
      refine go_iconst (v := 1) dX12_canSpeak_34 (by decide) ?_
      refine go_goto 39 dX12_canSpeak_35 rfl ?_
      exact go_zret (S := []) dX12_canSpeak_39 rfl (by decide) ⟨_, rfl, hF⟩
theorem vX12_speakNow (G : GP) (d : Nat) (a0 : Int32) (m : Mem) (K : Int32 → Mem → Prop) (hF : Gw G (d + 6) mX12_speakNow 4 [.ref (ga G 273), .int a0, .int 0, .int 0] [] m (Qi K)) : Evi G (d + 6) mX12_speakNow [.ref (ga G 273), .int a0] m K := by
  refine Ev.go [.ref (ga G 273), .int a0, uu, uu] (by decide) (Nat.le_of_ble_eq_true rfl) rfl ?_
  refine go_iconst (v := 0) dX12_speakNow_0 (by decide) ?_
  refine go_istore_n (L' := [.ref (ga G 273), .int a0, .int 0, uu]) dX12_speakNow_1 (Nat.le_of_ble_eq_true rfl) rfl ?_
  refine go_iconst (v := 0) dX12_speakNow_2 (by decide) ?_
  refine go_istore_n (L' := [.ref (ga G 273), .int a0, .int 0, .int 0]) dX12_speakNow_3 (Nat.le_of_ble_eq_true rfl) rfl ?_
  exact hF
theorem vX12_speakNow_4 (G : GP) (d : Nat) (l1 : Int32) (l2 : Int32) (l3 : Int32) (m : Mem) (K : Int32 → Mem → Prop) (hF : vp_in (((34 : Int32) + (9 : Int32) * l1) + 2) 5968 ∧ (((m.1 274 (((34 : Int32) + (9 : Int32) * l1) + 2).toNatClampNeg) ≤ l3) → K l2 m) ∧ ((¬ (m.1 274 (((34 : Int32) + (9 : Int32) * l1) + 2).toNatClampNeg) ≤ l3) → vp_in (((34 : Int32) + (9 : Int32) * l1) + ((3 : Int32) + l3)) 5968 ∧ Evi G (d + 5) mX12_ringNow [.ref (ga G 273), .int (m.1 274 (((34 : Int32) + (9 : Int32) * l1) + ((3 : Int32) + l3)).toNatClampNeg)] m (fun r2 m1 => ∀ x3 : Int32, x3 = l2 + r2 → ∀ x4 : Int32, x4 = l3 + 1 → Gw G (d + 6) mX12_speakNow 4 [.ref (ga G 273), .int l1, .int x3, .int x4] [] m1 (Qi K)))) : Gw G (d + 6) mX12_speakNow 4 [.ref (ga G 273), .int l1, .int l2, .int l3] [] m (Qi K) := by
  refine go_iload_n dX12_speakNow_4 rfl ?_
  refine go_aload_n dX12_speakNow_5 rfl ?_
  refine go_iload_n dX12_speakNow_6 rfl ?_
  refine go_iconst (v := 2) dX12_speakNow_7 (by decide) ?_
  obtain ⟨ho, hF⟩ := hF
  refine go_callV mX12_of dX12_speakNow_8 lm_X12_84 okX12_of isX12_of sh_273 rfl (As := [.int l1, .int 2]) (S := [.int l3]) rfl rfl (Nat.le_of_ble_eq_true rfl) (eX12_of G _ l1 2 m (fun r m' => r = m.1 274 (((34 : Int32) + (9 : Int32) * l1) + 2).toNatClampNeg ∧ m = m') ho ⟨rfl, rfl⟩) (k_i (fun r m' hr => ?_))
  obtain ⟨hr1, hr2⟩ := hr
  subst hr1
  subst hr2
  refine go_icmp_ge 33 dX12_speakNow_11 rfl ⟨fun hc => ?_, fun hc => ?_⟩
  · have hF := hF.1 hc
    refine go_iload_n dX12_speakNow_33 rfl ?_
    exact go_iret (S := []) dX12_speakNow_34 rfl ⟨_, rfl, hF⟩
  · have hF := hF.2 hc
    refine go_iload_n dX12_speakNow_14 rfl ?_
    refine go_aload_n dX12_speakNow_15 rfl ?_
    refine go_aload_n dX12_speakNow_16 rfl ?_
    refine go_iload_n dX12_speakNow_17 rfl ?_
    refine go_iload_n dX12_speakNow_18 rfl ?_
    obtain ⟨ho, hF⟩ := hF
    refine go_callV mX12_strokeOf dX12_speakNow_19 lm_X12_320 okX12_strokeOf isX12_strokeOf sh_273 rfl (As := [.int l1, .int l3]) (S := [.ref (ga G 273), .int l2]) rfl rfl (Nat.le_of_ble_eq_true rfl) (eX12_strokeOf G _ l1 l3 m (fun r m' => r = m.1 274 (((34 : Int32) + (9 : Int32) * l1) + ((3 : Int32) + l3)).toNatClampNeg ∧ m = m') ho ⟨rfl, rfl⟩) (k_i (fun r m' hr => ?_))
    obtain ⟨hr1, hr2⟩ := hr
    subst hr1
    subst hr2
    refine go_callV mX12_ringNow dX12_speakNow_22 lm_X12_317 okX12_ringNow isX12_ringNow sh_273 rfl (As := [.int (m.1 274 (((34 : Int32) + (9 : Int32) * l1) + ((3 : Int32) + l3)).toNatClampNeg)]) (S := [.int l2]) rfl rfl (Nat.le_of_ble_eq_true rfl) hF (k_i (fun r2 m1 hF => ?_))
    refine go_iadd dX12_speakNow_25 ?_
    refine Gw.namei (fun x3 ex3 => ?_)
    have hF := hF x3 ex3
    refine go_istore_n (L' := [.ref (ga G 273), .int l1, .int x3, .int l3]) dX12_speakNow_26 (Nat.le_of_ble_eq_true rfl) rfl ?_
    obtain ⟨x4, ex4⟩ : ∃ z : Int32, z = l3 + 1 := ⟨_, rfl⟩
    have hF := hF x4 ex4
    refine go_iinc (v := x4) (L' := [.ref (ga G 273), .int l1, .int x3, .int x4]) dX12_speakNow_27 rfl (by rw [ex4]; rfl) (Nat.le_of_ble_eq_true rfl) rfl ?_
    refine go_goto 4 dX12_speakNow_30 rfl ?_
    exact hF
theorem vX12_speak (G : GP) (d : Nat) (a0 : Int32) (m : Mem) (K : Int32 → Mem → Prop) (hF : ((0 ≤ a0 ∧ a0 ≤ m.1 274 1 - 1) → Evi G (d + 6) mX12_canSpeak [.ref (ga G 273), .int a0] m (fun r2 m1 => ((¬ r2 = 0) → Evv G (d + 6) mX12_keep [.ref (ga G 273)] m1 (fun m3 => Evi G (d + 6) mX12_speakNow [.ref (ga G 273), .int a0] m3 (fun r5 m4 => K r5 m4))) ∧ ((r2 = 0) → K (-1) m1))) ∧ (¬ (0 ≤ a0 ∧ a0 ≤ m.1 274 1 - 1) → K (-1) m)) : Evi G (d + 7) mX12_speak [.ref (ga G 273), .int a0] m K := by
  refine Ev.go [.ref (ga G 273), .int a0] (by decide) (Nat.le_of_ble_eq_true rfl) rfl ?_
  refine go_aload_n dX12_speak_0 rfl ?_
  refine go_iload_n dX12_speak_1 rfl ?_
  rcases Classical.em (0 ≤ a0 ∧ a0 ≤ m.1 274 1 - 1) with hp | hp
  · have hF := hF.1 hp
    refine go_callV mX12_isWord0 dX12_speak_2 lm_X12_326 okX12_isWord0 isX12_isWord0 sh_273 rfl (As := [.int a0]) (S := []) rfl rfl (Nat.le_of_ble_eq_true rfl) (eX12_isWord0 G _ a0 m (fun r m' => r = 1 ∧ m = m') ⟨fun _ => ⟨rfl, rfl⟩, fun q => absurd hp q⟩) (k_i (fun r m' hr => ?_))
    obtain ⟨hr1, hr2⟩ := hr
    subst hr1
    subst hr2
    refine go_if_eq 16 dX12_speak_5 rfl ⟨fun hc => absurd hc (by decide), fun _ => ?_⟩
    refine go_aload_n dX12_speak_8 rfl ?_
    refine go_iload_n dX12_speak_9 rfl ?_
    refine go_callV mX12_canSpeak dX12_speak_10 lm_X12_329 okX12_canSpeak isX12_canSpeak sh_273 rfl (As := [.int a0]) (S := []) rfl rfl (Nat.le_of_ble_eq_true rfl) hF (k_i (fun r2 m1 hF => ?_))
    refine go_if_ne 18 dX12_speak_13 rfl ⟨fun hc => ?_, fun hc => ?_⟩
    · have hF := hF.1 hc
      refine go_aload_n dX12_speak_18 rfl ?_
      refine go_callV mX12_keep dX12_speak_19 lm_X12_314 okX12_keep isX12_keep sh_273 rfl (As := []) (S := []) rfl rfl (Nat.le_of_ble_eq_true rfl) hF (k_v (fun m3 hF => ?_))
      refine go_aload_n dX12_speak_22 rfl ?_
      refine go_iload_n dX12_speak_23 rfl ?_
      refine go_callV mX12_speakNow dX12_speak_24 lm_X12_332 okX12_speakNow isX12_speakNow sh_273 rfl (As := [.int a0]) (S := []) rfl rfl (Nat.le_of_ble_eq_true rfl) hF (k_i (fun r5 m4 hF => ?_))
      exact go_iret (S := []) dX12_speak_27 rfl ⟨_, rfl, hF⟩
    · have hF := hF.2 hc
      refine go_iconst (v := -1) dX12_speak_16 (by decide) ?_
      exact go_iret (S := []) dX12_speak_17 rfl ⟨_, rfl, hF⟩
  · have hF := hF.2 hp
    refine go_callV mX12_isWord0 dX12_speak_2 lm_X12_326 okX12_isWord0 isX12_isWord0 sh_273 rfl (As := [.int a0]) (S := []) rfl rfl (Nat.le_of_ble_eq_true rfl) (eX12_isWord0 G _ a0 m (fun r m' => r = 0 ∧ m = m') ⟨fun q => absurd q hp, fun _ => ⟨rfl, rfl⟩⟩) (k_i (fun r m' hr => ?_))
    obtain ⟨hr1, hr2⟩ := hr
    subst hr1
    subst hr2
    refine go_if_eq 16 dX12_speak_5 rfl ⟨fun _ => ?_, fun hc => absurd hc (by decide)⟩
    refine go_iconst (v := -1) dX12_speak_16 (by decide) ?_
    exact go_iret (S := []) dX12_speak_17 rfl ⟨_, rfl, hF⟩
theorem vX12_set (G : GP) (d : Nat) (a0 : Int32) (a1 : Int32) (m : Mem) (K : Int32 → Mem → Prop) (hF : ((a0 = 0) → ((0 ≤ a1 ∧ a1 ≤ 9) → ((¬ (m.1 274 8) = a1) → Evv G (d) mX12_keep [.ref (ga G 273)] m (fun m1 => ∀ m2 : Mem, m2 = wI m1 274 8 a1 → K 1 m2)) ∧ (((m.1 274 8) = a1) → K 0 m)) ∧ (¬ (0 ≤ a1 ∧ a1 ≤ 9) → K 0 m)) ∧ ((¬ a0 = 0) → ((0 ≤ a1 ∧ a1 ≤ 9) → ((¬ (m.1 274 9) = a1) → Evv G (d) mX12_keep [.ref (ga G 273)] m (fun m3 => ∀ m4 : Mem, m4 = wI m3 274 9 a1 → K 1 m4)) ∧ (((m.1 274 9) = a1) → K 0 m)) ∧ (¬ (0 ≤ a1 ∧ a1 ≤ 9) → K 0 m))) : Evi G (d + 1) mX12_set [.ref (ga G 273), .int a0, .int a1] m K := by
  refine Ev.go [.ref (ga G 273), .int a0, .int a1, uu] (by decide) (Nat.le_of_ble_eq_true rfl) rfl ?_
  refine go_iload_n dX12_set_0 rfl ?_
  refine go_if_eq 9 dX12_set_1 rfl ⟨fun hc => ?_, fun hc => ?_⟩
  · have hF := hF.1 hc
    refine go_bipush (v := 8) dX12_set_9 (by decide) ?_
    refine go_istore_n (L' := [.ref (ga G 273), .int a0, .int a1, .int 8]) dX12_set_11 (Nat.le_of_ble_eq_true rfl) rfl ?_
    refine go_iload_n dX12_set_12 rfl ?_
    refine go_iconst (v := 0) dX12_set_13 (by decide) ?_
    refine go_bipush (v := 9) dX12_set_14 (by decide) ?_
    rcases Classical.em (0 ≤ a1 ∧ a1 ≤ 9) with hp | hp
    · have hF := hF.1 hp
      refine go_callS mX12_isIn dX12_set_16 lm_X12_80 okX12_isIn isX12_isIn (As := [.int a1, .int 0, .int 9]) (S := []) rfl rfl (Nat.le_of_ble_eq_true rfl) (eX12_isIn G _ a1 0 9 m (fun r m' => r = 1 ∧ m = m') ⟨fun _ => ⟨rfl, rfl⟩, fun q => absurd hp q⟩) (k_i (fun r m' hr => ?_))
      obtain ⟨hr1, hr2⟩ := hr
      subst hr1
      subst hr2
      refine go_if_eq 32 dX12_set_19 rfl ⟨fun hc => absurd hc (by decide), fun _ => ?_⟩
      refine go_aload_n dX12_set_22 rfl ?_
      refine go_getR (k := 0) (r := 274) dX12_set_23 sh_273 rfl inX12 (Nat.le_of_ble_eq_true rfl) lf_X12_7 rfl rfl ?_
      refine go_iload_n dX12_set_26 rfl ?_
      refine go_ialdK (k := 8) dX12_set_27 sh_274 (vp_in_dec (by decide)) (by decide) ?_
      refine go_iload_n dX12_set_28 rfl ?_
      refine go_icmp_ne 34 dX12_set_29 rfl ⟨fun hc => ?_, fun hc => ?_⟩
      · have hF := hF.1 hc
        refine go_aload_n dX12_set_34 rfl ?_
        refine go_callV mX12_keep dX12_set_35 lm_X12_314 okX12_keep isX12_keep sh_273 rfl (As := []) (S := []) rfl rfl (Nat.le_of_ble_eq_true rfl) hF (k_v (fun m1 hF => ?_))
        refine go_aload_n dX12_set_38 rfl ?_
        refine go_getR (k := 0) (r := 274) dX12_set_39 sh_273 rfl inX12 (Nat.le_of_ble_eq_true rfl) lf_X12_7 rfl rfl ?_
        refine go_iload_n dX12_set_42 rfl ?_
        refine go_iload_n dX12_set_43 rfl ?_
        refine go_iastK (k := 8) dX12_set_44 sh_274 (vp_in_dec (by decide)) (by decide) ?_
        obtain ⟨m2, em2⟩ : ∃ z : Mem, z = wI m1 274 8 a1 := ⟨_, rfl⟩
        rw [← em2]
        have hF := hF m2 em2
        refine go_iconst (v := 1) dX12_set_45 (by decide) ?_
        exact go_zret (S := []) dX12_set_46 rfl (by decide) ⟨_, rfl, hF⟩
      · have hF := hF.2 hc
        refine go_iconst (v := 0) dX12_set_32 (by decide) ?_
        exact go_zret (S := []) dX12_set_33 rfl (by decide) ⟨_, rfl, hF⟩
    · have hF := hF.2 hp
      refine go_callS mX12_isIn dX12_set_16 lm_X12_80 okX12_isIn isX12_isIn (As := [.int a1, .int 0, .int 9]) (S := []) rfl rfl (Nat.le_of_ble_eq_true rfl) (eX12_isIn G _ a1 0 9 m (fun r m' => r = 0 ∧ m = m') ⟨fun q => absurd q hp, fun _ => ⟨rfl, rfl⟩⟩) (k_i (fun r m' hr => ?_))
      obtain ⟨hr1, hr2⟩ := hr
      subst hr1
      subst hr2
      refine go_if_eq 32 dX12_set_19 rfl ⟨fun _ => ?_, fun hc => absurd hc (by decide)⟩
      refine go_iconst (v := 0) dX12_set_32 (by decide) ?_
      exact go_zret (S := []) dX12_set_33 rfl (by decide) ⟨_, rfl, hF⟩
  · have hF := hF.2 hc
    refine go_bipush (v := 9) dX12_set_4 (by decide) ?_
    refine go_goto 11 dX12_set_6 rfl ?_
    refine go_istore_n (L' := [.ref (ga G 273), .int a0, .int a1, .int 9]) dX12_set_11 (Nat.le_of_ble_eq_true rfl) rfl ?_
    refine go_iload_n dX12_set_12 rfl ?_
    refine go_iconst (v := 0) dX12_set_13 (by decide) ?_
    refine go_bipush (v := 9) dX12_set_14 (by decide) ?_
    rcases Classical.em (0 ≤ a1 ∧ a1 ≤ 9) with hp | hp
    · have hF := hF.1 hp
      refine go_callS mX12_isIn dX12_set_16 lm_X12_80 okX12_isIn isX12_isIn (As := [.int a1, .int 0, .int 9]) (S := []) rfl rfl (Nat.le_of_ble_eq_true rfl) (eX12_isIn G _ a1 0 9 m (fun r m' => r = 1 ∧ m = m') ⟨fun _ => ⟨rfl, rfl⟩, fun q => absurd hp q⟩) (k_i (fun r m' hr => ?_))
      obtain ⟨hr1, hr2⟩ := hr
      subst hr1
      subst hr2
      refine go_if_eq 32 dX12_set_19 rfl ⟨fun hc => absurd hc (by decide), fun _ => ?_⟩
      refine go_aload_n dX12_set_22 rfl ?_
      refine go_getR (k := 0) (r := 274) dX12_set_23 sh_273 rfl inX12 (Nat.le_of_ble_eq_true rfl) lf_X12_7 rfl rfl ?_
      refine go_iload_n dX12_set_26 rfl ?_
      refine go_ialdK (k := 9) dX12_set_27 sh_274 (vp_in_dec (by decide)) (by decide) ?_
      refine go_iload_n dX12_set_28 rfl ?_
      refine go_icmp_ne 34 dX12_set_29 rfl ⟨fun hc => ?_, fun hc => ?_⟩
      · have hF := hF.1 hc
        refine go_aload_n dX12_set_34 rfl ?_
        refine go_callV mX12_keep dX12_set_35 lm_X12_314 okX12_keep isX12_keep sh_273 rfl (As := []) (S := []) rfl rfl (Nat.le_of_ble_eq_true rfl) hF (k_v (fun m3 hF => ?_))
        refine go_aload_n dX12_set_38 rfl ?_
        refine go_getR (k := 0) (r := 274) dX12_set_39 sh_273 rfl inX12 (Nat.le_of_ble_eq_true rfl) lf_X12_7 rfl rfl ?_
        refine go_iload_n dX12_set_42 rfl ?_
        refine go_iload_n dX12_set_43 rfl ?_
        refine go_iastK (k := 9) dX12_set_44 sh_274 (vp_in_dec (by decide)) (by decide) ?_
        obtain ⟨m4, em4⟩ : ∃ z : Mem, z = wI m3 274 9 a1 := ⟨_, rfl⟩
        rw [← em4]
        have hF := hF m4 em4
        refine go_iconst (v := 1) dX12_set_45 (by decide) ?_
        exact go_zret (S := []) dX12_set_46 rfl (by decide) ⟨_, rfl, hF⟩
      · have hF := hF.2 hc
        refine go_iconst (v := 0) dX12_set_32 (by decide) ?_
        exact go_zret (S := []) dX12_set_33 rfl (by decide) ⟨_, rfl, hF⟩
    · have hF := hF.2 hp
      refine go_callS mX12_isIn dX12_set_16 lm_X12_80 okX12_isIn isX12_isIn (As := [.int a1, .int 0, .int 9]) (S := []) rfl rfl (Nat.le_of_ble_eq_true rfl) (eX12_isIn G _ a1 0 9 m (fun r m' => r = 0 ∧ m = m') ⟨fun q => absurd q hp, fun _ => ⟨rfl, rfl⟩⟩) (k_i (fun r m' hr => ?_))
      obtain ⟨hr1, hr2⟩ := hr
      subst hr1
      subst hr2
      refine go_if_eq 32 dX12_set_19 rfl ⟨fun _ => ?_, fun hc => absurd hc (by decide)⟩
      refine go_iconst (v := 0) dX12_set_32 (by decide) ?_
      exact go_zret (S := []) dX12_set_33 rfl (by decide) ⟨_, rfl, hF⟩
theorem vX12_drawn (G : GP) (d : Nat) (a0 : Int32) (m : Mem) (K : Int32 → Mem → Prop) (hF : ¬ a0 = 0 ∧ ∀ x1 : Int32, x1 = (m.1 274 12) - (m.1 274 12) / a0 * a0 → Evv G (d) mX12_anew [.ref (ga G 273)] m (fun m2 => K x1 m2)) : Evi G (d + 1) mX12_drawn [.ref (ga G 273), .int a0] m K := by
  refine Ev.go [.ref (ga G 273), .int a0, uu] (by decide) (Nat.le_of_ble_eq_true rfl) rfl ?_
  refine go_aload_n dX12_drawn_0 rfl ?_
  refine go_getR (k := 0) (r := 274) dX12_drawn_1 sh_273 rfl inX12 (Nat.le_of_ble_eq_true rfl) lf_X12_7 rfl rfl ?_
  refine go_bipush (v := 12) dX12_drawn_4 (by decide) ?_
  refine go_ialdK (k := 12) dX12_drawn_6 sh_274 (vp_in_dec (by decide)) (by decide) ?_
  refine go_iload_n dX12_drawn_7 rfl ?_
  obtain ⟨h0, hF⟩ := hF
  refine go_irem dX12_drawn_8 h0 ?_
  refine Gw.namei (fun x1 ex1 => ?_)
  have hF := hF x1 ex1
  refine go_istore_n (L' := [.ref (ga G 273), .int a0, .int x1]) dX12_drawn_9 (Nat.le_of_ble_eq_true rfl) rfl ?_
  refine go_aload_n dX12_drawn_10 rfl ?_
  refine go_callV mX12_anew dX12_drawn_11 lm_X12_335 okX12_anew isX12_anew sh_273 rfl (As := []) (S := []) rfl rfl (Nat.le_of_ble_eq_true rfl) hF (k_v (fun m2 hF => ?_))
  refine go_iload_n dX12_drawn_14 rfl ?_
  exact go_iret (S := []) dX12_drawn_15 rfl ⟨_, rfl, hF⟩
theorem vX12_anew (G : GP) (d : Nat)  (m : Mem) (K : Mem → Prop) (hF : ∀ m1 : Mem, m1 = wI m 274 12 ((((((m.1 274 12).toInt64) * 313) + 199) - ((((m.1 274 12).toInt64) * 313) + 199) / 30341 * 30341).toInt32) → K m1) : Evv G (d) mX12_anew [.ref (ga G 273)] m K := by
  refine Ev.go [.ref (ga G 273)] (by decide) (Nat.le_of_ble_eq_true rfl) rfl ?_
  refine go_aload_n dX12_anew_0 rfl ?_
  refine go_getR (k := 0) (r := 274) dX12_anew_1 sh_273 rfl inX12 (Nat.le_of_ble_eq_true rfl) lf_X12_7 rfl rfl ?_
  refine go_bipush (v := 12) dX12_anew_4 (by decide) ?_
  refine go_aload_n dX12_anew_6 rfl ?_
  refine go_getR (k := 0) (r := 274) dX12_anew_7 sh_273 rfl inX12 (Nat.le_of_ble_eq_true rfl) lf_X12_7 rfl rfl ?_
  refine go_bipush (v := 12) dX12_anew_10 (by decide) ?_
  refine go_ialdK (k := 12) dX12_anew_12 sh_274 (vp_in_dec (by decide)) (by decide) ?_
  refine go_i2l dX12_anew_13 ?_
  refine go_ldc2 (v := 313) dX12_anew_14 lc_X12_338 ?_
  refine go_lmul dX12_anew_17 ?_
  refine go_ldc2 (v := 199) dX12_anew_18 lc_X12_340 ?_
  refine go_ladd dX12_anew_21 ?_
  refine go_ldc2 (v := 30341) dX12_anew_22 lc_X12_342 ?_
  refine go_lrem dX12_anew_25 (by decide) ?_
  refine go_l2i dX12_anew_26 ?_
  refine go_iastK (k := 12) dX12_anew_27 sh_274 (vp_in_dec (by decide)) (by decide) ?_
  obtain ⟨m1, em1⟩ : ∃ z : Mem, z = wI m 274 12 ((((((m.1 274 12).toInt64) * 313) + 199) - ((((m.1 274 12).toInt64) * 313) + 199) / 30341 * 30341).toInt32) := ⟨_, rfl⟩
  rw [← em1]
  have hF := hF m1 em1
  exact go_vret (S := []) dX12_anew_28 rfl ⟨rfl, hF⟩
theorem vX12_pass (G : GP) (d : Nat)  (m : Mem) (K : Mem → Prop) (hF : ∀ m1 : Mem, m1 = wI m 274 10 ((m.1 274 10) + 1) → Evi G (d + 1) mX12_drawn [.ref (ga G 273), .int 10] m1 (fun r3 m2 => ∀ m4 : Mem, m4 = wI m2 274 8 r3 → Evi G (d + 1) mX12_drawn [.ref (ga G 273), .int 3] m4 (fun r6 m5 => ∀ x7 : Int32, x7 = ((m4.1 274 9) + r6) - 1 → ((0 ≤ x7) → ((x7 ≤ 9) → ∀ m8 : Mem, m8 = wI m5 274 9 x7 → K m8) ∧ ((¬ x7 ≤ 9) → ∀ m9 : Mem, m9 = wI m5 274 9 9 → K m9)) ∧ ((¬ 0 ≤ x7) → ∀ m10 : Mem, m10 = wI m5 274 9 0 → K m10)))) : Evv G (d + 2) mX12_pass [.ref (ga G 273)] m K := by
  refine Ev.go [.ref (ga G 273), uu] (by decide) (Nat.le_of_ble_eq_true rfl) rfl ?_
  refine go_aload_n dX12_pass_0 rfl ?_
  refine go_getR (k := 0) (r := 274) dX12_pass_1 sh_273 rfl inX12 (Nat.le_of_ble_eq_true rfl) lf_X12_7 rfl rfl ?_
  refine go_bipush (v := 10) dX12_pass_4 (by decide) ?_
  refine go_dup2 dX12_pass_6 rfl rfl ?_
  refine go_ialdK (k := 10) dX12_pass_7 sh_274 (vp_in_dec (by decide)) (by decide) ?_
  refine go_iconst (v := 1) dX12_pass_8 (by decide) ?_
  refine go_iadd dX12_pass_9 ?_
  refine go_iastK (k := 10) dX12_pass_10 sh_274 (vp_in_dec (by decide)) (by decide) ?_
  obtain ⟨m1, em1⟩ : ∃ z : Mem, z = wI m 274 10 ((m.1 274 10) + 1) := ⟨_, rfl⟩
  rw [← em1]
  have hF := hF m1 em1
  refine go_aload_n dX12_pass_11 rfl ?_
  refine go_getR (k := 0) (r := 274) dX12_pass_12 sh_273 rfl inX12 (Nat.le_of_ble_eq_true rfl) lf_X12_7 rfl rfl ?_
  refine go_bipush (v := 8) dX12_pass_15 (by decide) ?_
  refine go_aload_n dX12_pass_17 rfl ?_
  refine go_bipush (v := 10) dX12_pass_18 (by decide) ?_
  refine go_callV mX12_drawn dX12_pass_20 lm_X12_344 okX12_drawn isX12_drawn sh_273 rfl (As := [.int 10]) (S := [.int 8, .ref (ga G 274)]) rfl rfl (Nat.le_of_ble_eq_true rfl) hF (k_i (fun r3 m2 hF => ?_))
  refine go_iastK (k := 8) dX12_pass_23 sh_274 (vp_in_dec (by decide)) (by decide) ?_
  obtain ⟨m4, em4⟩ : ∃ z : Mem, z = wI m2 274 8 r3 := ⟨_, rfl⟩
  rw [← em4]
  have hF := hF m4 em4
  refine go_aload_n dX12_pass_24 rfl ?_
  refine go_getR (k := 0) (r := 274) dX12_pass_25 sh_273 rfl inX12 (Nat.le_of_ble_eq_true rfl) lf_X12_7 rfl rfl ?_
  refine go_bipush (v := 9) dX12_pass_28 (by decide) ?_
  refine go_ialdK (k := 9) dX12_pass_30 sh_274 (vp_in_dec (by decide)) (by decide) ?_
  refine go_aload_n dX12_pass_31 rfl ?_
  refine go_iconst (v := 3) dX12_pass_32 (by decide) ?_
  refine go_callV mX12_drawn dX12_pass_33 lm_X12_344 okX12_drawn isX12_drawn sh_273 rfl (As := [.int 3]) (S := [.int (m4.1 274 9)]) rfl rfl (Nat.le_of_ble_eq_true rfl) hF (k_i (fun r6 m5 hF => ?_))
  refine go_iadd dX12_pass_36 ?_
  refine go_iconst (v := 1) dX12_pass_37 (by decide) ?_
  refine go_isub dX12_pass_38 ?_
  refine Gw.namei (fun x7 ex7 => ?_)
  have hF := hF x7 ex7
  refine go_istore_n (L' := [.ref (ga G 273), .int x7]) dX12_pass_39 (Nat.le_of_ble_eq_true rfl) rfl ?_
  refine go_aload_n dX12_pass_40 rfl ?_
  refine go_getR (k := 0) (r := 274) dX12_pass_41 sh_273 rfl inX12 (Nat.le_of_ble_eq_true rfl) lf_X12_7 rfl rfl ?_
  refine go_bipush (v := 9) dX12_pass_44 (by decide) ?_
  refine go_iload_n dX12_pass_46 rfl ?_
  refine go_if_ge 54 dX12_pass_47 rfl ⟨fun hc => ?_, fun hc => ?_⟩
  · have hF := hF.1 hc
    refine go_iload_n dX12_pass_54 rfl ?_
    refine go_bipush (v := 9) dX12_pass_55 (by decide) ?_
    refine go_icmp_le 65 dX12_pass_57 rfl ⟨fun hc => ?_, fun hc => ?_⟩
    · have hF := hF.1 hc
      refine go_iload_n dX12_pass_65 rfl ?_
      refine go_iastK (k := 9) dX12_pass_66 sh_274 (vp_in_dec (by decide)) (by decide) ?_
      obtain ⟨m8, em8⟩ : ∃ z : Mem, z = wI m5 274 9 x7 := ⟨_, rfl⟩
      rw [← em8]
      have hF := hF m8 em8
      exact go_vret (S := []) dX12_pass_67 rfl ⟨rfl, hF⟩
    · have hF := hF.2 hc
      refine go_bipush (v := 9) dX12_pass_60 (by decide) ?_
      refine go_goto 66 dX12_pass_62 rfl ?_
      refine go_iastK (k := 9) dX12_pass_66 sh_274 (vp_in_dec (by decide)) (by decide) ?_
      obtain ⟨m9, em9⟩ : ∃ z : Mem, z = wI m5 274 9 9 := ⟨_, rfl⟩
      rw [← em9]
      have hF := hF m9 em9
      exact go_vret (S := []) dX12_pass_67 rfl ⟨rfl, hF⟩
  · have hF := hF.2 hc
    refine go_iconst (v := 0) dX12_pass_50 (by decide) ?_
    refine go_goto 66 dX12_pass_51 rfl ?_
    refine go_iastK (k := 9) dX12_pass_66 sh_274 (vp_in_dec (by decide)) (by decide) ?_
    obtain ⟨m10, em10⟩ : ∃ z : Mem, z = wI m5 274 9 0 := ⟨_, rfl⟩
    rw [← em10]
    have hF := hF m10 em10
    exact go_vret (S := []) dX12_pass_67 rfl ⟨rfl, hF⟩
theorem vX12_arePassed (G : GP) (d : Nat) (a0 : Int32) (m : Mem) (K : Int32 → Mem → Prop) (hF : Gw G (d + 3) mX12_arePassed 2 [.ref (ga G 273), .int a0, .int 0] [] m (Qi K)) : Evi G (d + 3) mX12_arePassed [.ref (ga G 273), .int a0] m K := by
  refine Ev.go [.ref (ga G 273), .int a0, uu] (by decide) (Nat.le_of_ble_eq_true rfl) rfl ?_
  refine go_iconst (v := 0) dX12_arePassed_0 (by decide) ?_
  refine go_istore_n (L' := [.ref (ga G 273), .int a0, .int 0]) dX12_arePassed_1 (Nat.le_of_ble_eq_true rfl) rfl ?_
  exact hF
theorem vX12_arePassed_2 (G : GP) (d : Nat) (l1 : Int32) (l2 : Int32) (m : Mem) (K : Int32 → Mem → Prop) (hF : ((l1 ≤ l2) → K 1 m) ∧ ((¬ l1 ≤ l2) → ((¬ (m.1 274 10) = 9999) → Evv G (d + 2) mX12_keep [.ref (ga G 273)] m (fun m1 => Evv G (d + 2) mX12_pass [.ref (ga G 273)] m1 (fun m2 => ∀ x3 : Int32, x3 = l2 + 1 → Gw G (d + 3) mX12_arePassed 2 [.ref (ga G 273), .int l1, .int x3] [] m2 (Qi K)))) ∧ (((m.1 274 10) = 9999) → K 0 m))) : Gw G (d + 3) mX12_arePassed 2 [.ref (ga G 273), .int l1, .int l2] [] m (Qi K) := by
  refine go_iload_n dX12_arePassed_2 rfl ?_
  refine go_iload_n dX12_arePassed_3 rfl ?_
  refine go_icmp_ge 36 dX12_arePassed_4 rfl ⟨fun hc => ?_, fun hc => ?_⟩
  · have hF := hF.1 hc
    refine go_iconst (v := 1) dX12_arePassed_36 (by decide) ?_
    exact go_zret (S := []) dX12_arePassed_37 rfl (by decide) ⟨_, rfl, hF⟩
  · have hF := hF.2 hc
    refine go_aload_n dX12_arePassed_7 rfl ?_
    refine go_getR (k := 0) (r := 274) dX12_arePassed_8 sh_273 rfl inX12 (Nat.le_of_ble_eq_true rfl) lf_X12_7 rfl rfl ?_
    refine go_bipush (v := 10) dX12_arePassed_11 (by decide) ?_
    refine go_ialdK (k := 10) dX12_arePassed_13 sh_274 (vp_in_dec (by decide)) (by decide) ?_
    refine go_sipush (v := 9999) dX12_arePassed_14 (by decide) ?_
    refine go_icmp_ne 22 dX12_arePassed_17 rfl ⟨fun hc => ?_, fun hc => ?_⟩
    · have hF := hF.1 hc
      refine go_aload_n dX12_arePassed_22 rfl ?_
      refine go_callV mX12_keep dX12_arePassed_23 lm_X12_314 okX12_keep isX12_keep sh_273 rfl (As := []) (S := []) rfl rfl (Nat.le_of_ble_eq_true rfl) hF (k_v (fun m1 hF => ?_))
      refine go_aload_n dX12_arePassed_26 rfl ?_
      refine go_callV mX12_pass dX12_arePassed_27 lm_X12_347 okX12_pass isX12_pass sh_273 rfl (As := []) (S := []) rfl rfl (Nat.le_of_ble_eq_true rfl) hF (k_v (fun m2 hF => ?_))
      obtain ⟨x3, ex3⟩ : ∃ z : Int32, z = l2 + 1 := ⟨_, rfl⟩
      have hF := hF x3 ex3
      refine go_iinc (v := x3) (L' := [.ref (ga G 273), .int l1, .int x3]) dX12_arePassed_30 rfl (by rw [ex3]; rfl) (Nat.le_of_ble_eq_true rfl) rfl ?_
      refine go_goto 2 dX12_arePassed_33 rfl ?_
      exact hF
    · have hF := hF.2 hc
      refine go_iconst (v := 0) dX12_arePassed_20 (by decide) ?_
      exact go_zret (S := []) dX12_arePassed_21 rfl (by decide) ⟨_, rfl, hF⟩
theorem vX12_hour (G : GP) (d : Nat) (a0 : Int32) (m : Mem) (K : Int32 → Mem → Prop) (hF : ((1 ≤ a0 ∧ a0 ≤ 60) → ((9999 < ((m.1 274 10) + a0)) → K (-1) m) ∧ ((¬ 9999 < ((m.1 274 10) + a0)) → Evi G (d + 3) mX12_arePassed [.ref (ga G 273), .int a0] m (fun r2 m1 => ((r2 = 0) → K (-1) m1) ∧ ((¬ r2 = 0) → K (m1.1 274 10) m1)))) ∧ (¬ (1 ≤ a0 ∧ a0 ≤ 60) → K (-1) m)) : Evi G (d + 4) mX12_hour [.ref (ga G 273), .int a0] m K := by
  refine Ev.go [.ref (ga G 273), .int a0] (by decide) (Nat.le_of_ble_eq_true rfl) rfl ?_
  refine go_iload_n dX12_hour_0 rfl ?_
  refine go_iconst (v := 1) dX12_hour_1 (by decide) ?_
  refine go_bipush (v := 60) dX12_hour_2 (by decide) ?_
  rcases Classical.em (1 ≤ a0 ∧ a0 ≤ 60) with hp | hp
  · have hF := hF.1 hp
    refine go_callS mX12_isIn dX12_hour_4 lm_X12_80 okX12_isIn isX12_isIn (As := [.int a0, .int 1, .int 60]) (S := []) rfl rfl (Nat.le_of_ble_eq_true rfl) (eX12_isIn G _ a0 1 60 m (fun r m' => r = 1 ∧ m = m') ⟨fun _ => ⟨rfl, rfl⟩, fun q => absurd hp q⟩) (k_i (fun r m' hr => ?_))
    obtain ⟨hr1, hr2⟩ := hr
    subst hr1
    subst hr2
    refine go_if_eq 43 dX12_hour_7 rfl ⟨fun hc => absurd hc (by decide), fun _ => ?_⟩
    refine go_aload_n dX12_hour_10 rfl ?_
    refine go_getR (k := 0) (r := 274) dX12_hour_11 sh_273 rfl inX12 (Nat.le_of_ble_eq_true rfl) lf_X12_7 rfl rfl ?_
    refine go_bipush (v := 10) dX12_hour_14 (by decide) ?_
    refine go_ialdK (k := 10) dX12_hour_16 sh_274 (vp_in_dec (by decide)) (by decide) ?_
    refine go_iload_n dX12_hour_17 rfl ?_
    refine go_iadd dX12_hour_18 ?_
    refine go_sipush (v := 9999) dX12_hour_19 (by decide) ?_
    refine go_icmp_gt 43 dX12_hour_22 rfl ⟨fun hc => ?_, fun hc => ?_⟩
    · have hF := hF.1 hc
      refine go_iconst (v := -1) dX12_hour_43 (by decide) ?_
      exact go_iret (S := []) dX12_hour_44 rfl ⟨_, rfl, hF⟩
    · have hF := hF.2 hc
      refine go_aload_n dX12_hour_25 rfl ?_
      refine go_iload_n dX12_hour_26 rfl ?_
      refine go_callV mX12_arePassed dX12_hour_27 lm_X12_350 okX12_arePassed isX12_arePassed sh_273 rfl (As := [.int a0]) (S := []) rfl rfl (Nat.le_of_ble_eq_true rfl) hF (k_i (fun r2 m1 hF => ?_))
      refine go_if_eq 43 dX12_hour_30 rfl ⟨fun hc => ?_, fun hc => ?_⟩
      · have hF := hF.1 hc
        refine go_iconst (v := -1) dX12_hour_43 (by decide) ?_
        exact go_iret (S := []) dX12_hour_44 rfl ⟨_, rfl, hF⟩
      · have hF := hF.2 hc
        refine go_aload_n dX12_hour_33 rfl ?_
        refine go_getR (k := 0) (r := 274) dX12_hour_34 sh_273 rfl inX12 (Nat.le_of_ble_eq_true rfl) lf_X12_7 rfl rfl ?_
        refine go_bipush (v := 10) dX12_hour_37 (by decide) ?_
        refine go_ialdK (k := 10) dX12_hour_39 sh_274 (vp_in_dec (by decide)) (by decide) ?_
        refine go_goto 44 dX12_hour_40 rfl ?_
        exact go_iret (S := []) dX12_hour_44 rfl ⟨_, rfl, hF⟩
  · have hF := hF.2 hp
    refine go_callS mX12_isIn dX12_hour_4 lm_X12_80 okX12_isIn isX12_isIn (As := [.int a0, .int 1, .int 60]) (S := []) rfl rfl (Nat.le_of_ble_eq_true rfl) (eX12_isIn G _ a0 1 60 m (fun r m' => r = 0 ∧ m = m') ⟨fun q => absurd q hp, fun _ => ⟨rfl, rfl⟩⟩) (k_i (fun r m' hr => ?_))
    obtain ⟨hr1, hr2⟩ := hr
    subst hr1
    subst hr2
    refine go_if_eq 43 dX12_hour_7 rfl ⟨fun _ => ?_, fun hc => absurd hc (by decide)⟩
    refine go_iconst (v := -1) dX12_hour_43 (by decide) ?_
    exact go_iret (S := []) dX12_hour_44 rfl ⟨_, rfl, hF⟩
theorem vX12_endSunday (G : GP) (d : Nat)  (m : Mem) (K : Int32 → Mem → Prop) (hF : ∀ x1 : Int32, x1 = (1088 : Int32) + ((4 : Int32) * ((m.1 274 13) - (m.1 274 13) / 1220 * 1220)) → vp_in x1 5968 ∧ ∀ m2 : Mem, m2 = wI m 274 x1.toNatClampNeg (m.1 274 10) → vp_in (x1 + 1) 5968 ∧ ∀ m3 : Mem, m3 = wI m2 274 (x1 + 1).toNatClampNeg (m2.1 274 14) → Evi G (d + 7) mX12_layHeard [.ref (ga G 273)] m3 (fun r5 m4 => vp_in (x1 + 2) 5968 ∧ ∀ m6 : Mem, m6 = wI m4 274 (x1 + 2).toNatClampNeg r5 → Evi G (d + 7) mX12_readings [.ref (ga G 273), .int 1] m6 (fun r8 m7 => vp_in (x1 + 3) 5968 ∧ ∀ m9 : Mem, m9 = wI m7 274 (x1 + 3).toNatClampNeg r8 → ∀ m10 : Mem, m10 = wI m9 274 13 ((m9.1 274 13) + 1) → ∀ m11 : Mem, m11 = wI m10 274 14 0 → vp_in (x1 + 3) 5968 ∧ K (m11.1 274 (x1 + 3).toNatClampNeg) m11))) : Evi G (d + 8) mX12_endSunday [.ref (ga G 273)] m K := by
  refine Ev.go [.ref (ga G 273), uu] (by decide) (Nat.le_of_ble_eq_true rfl) rfl ?_
  refine go_sipush (v := 1088) dX12_endSunday_0 (by decide) ?_
  refine go_iconst (v := 4) dX12_endSunday_3 (by decide) ?_
  refine go_aload_n dX12_endSunday_4 rfl ?_
  refine go_getR (k := 0) (r := 274) dX12_endSunday_5 sh_273 rfl inX12 (Nat.le_of_ble_eq_true rfl) lf_X12_7 rfl rfl ?_
  refine go_bipush (v := 13) dX12_endSunday_8 (by decide) ?_
  refine go_ialdK (k := 13) dX12_endSunday_10 sh_274 (vp_in_dec (by decide)) (by decide) ?_
  refine go_sipush (v := 1220) dX12_endSunday_11 (by decide) ?_
  refine go_irem dX12_endSunday_14 (by decide) ?_
  refine go_imul dX12_endSunday_15 ?_
  refine go_iadd dX12_endSunday_16 ?_
  refine Gw.namei (fun x1 ex1 => ?_)
  have hF := hF x1 ex1
  refine go_istore_n (L' := [.ref (ga G 273), .int x1]) dX12_endSunday_17 (Nat.le_of_ble_eq_true rfl) rfl ?_
  refine go_aload_n dX12_endSunday_18 rfl ?_
  refine go_getR (k := 0) (r := 274) dX12_endSunday_19 sh_273 rfl inX12 (Nat.le_of_ble_eq_true rfl) lf_X12_7 rfl rfl ?_
  refine go_iload_n dX12_endSunday_22 rfl ?_
  refine go_aload_n dX12_endSunday_23 rfl ?_
  refine go_getR (k := 0) (r := 274) dX12_endSunday_24 sh_273 rfl inX12 (Nat.le_of_ble_eq_true rfl) lf_X12_7 rfl rfl ?_
  refine go_bipush (v := 10) dX12_endSunday_27 (by decide) ?_
  refine go_ialdK (k := 10) dX12_endSunday_29 sh_274 (vp_in_dec (by decide)) (by decide) ?_
  obtain ⟨hi, hF⟩ := hF
  refine go_iast dX12_endSunday_30 sh_274 hi ?_
  obtain ⟨m2, em2⟩ : ∃ z : Mem, z = wI m 274 x1.toNatClampNeg (m.1 274 10) := ⟨_, rfl⟩
  rw [← em2]
  have hF := hF m2 em2
  refine go_aload_n dX12_endSunday_31 rfl ?_
  refine go_getR (k := 0) (r := 274) dX12_endSunday_32 sh_273 rfl inX12 (Nat.le_of_ble_eq_true rfl) lf_X12_7 rfl rfl ?_
  refine go_iload_n dX12_endSunday_35 rfl ?_
  refine go_iconst (v := 1) dX12_endSunday_36 (by decide) ?_
  refine go_iadd dX12_endSunday_37 ?_
  refine go_aload_n dX12_endSunday_38 rfl ?_
  refine go_getR (k := 0) (r := 274) dX12_endSunday_39 sh_273 rfl inX12 (Nat.le_of_ble_eq_true rfl) lf_X12_7 rfl rfl ?_
  refine go_bipush (v := 14) dX12_endSunday_42 (by decide) ?_
  refine go_ialdK (k := 14) dX12_endSunday_44 sh_274 (vp_in_dec (by decide)) (by decide) ?_
  obtain ⟨hi, hF⟩ := hF
  refine go_iast dX12_endSunday_45 sh_274 hi ?_
  obtain ⟨m3, em3⟩ : ∃ z : Mem, z = wI m2 274 (x1 + 1).toNatClampNeg (m2.1 274 14) := ⟨_, rfl⟩
  rw [← em3]
  have hF := hF m3 em3
  refine go_aload_n dX12_endSunday_46 rfl ?_
  refine go_getR (k := 0) (r := 274) dX12_endSunday_47 sh_273 rfl inX12 (Nat.le_of_ble_eq_true rfl) lf_X12_7 rfl rfl ?_
  refine go_iload_n dX12_endSunday_50 rfl ?_
  refine go_iconst (v := 2) dX12_endSunday_51 (by decide) ?_
  refine go_iadd dX12_endSunday_52 ?_
  refine go_aload_n dX12_endSunday_53 rfl ?_
  refine go_callV mX12_layHeard dX12_endSunday_54 lm_X12_353 okX12_layHeard isX12_layHeard sh_273 rfl (As := []) (S := [.int (x1 + 2), .ref (ga G 274)]) rfl rfl (Nat.le_of_ble_eq_true rfl) hF (k_i (fun r5 m4 hF => ?_))
  obtain ⟨hi, hF⟩ := hF
  refine go_iast dX12_endSunday_57 sh_274 hi ?_
  obtain ⟨m6, em6⟩ : ∃ z : Mem, z = wI m4 274 (x1 + 2).toNatClampNeg r5 := ⟨_, rfl⟩
  rw [← em6]
  have hF := hF m6 em6
  refine go_aload_n dX12_endSunday_58 rfl ?_
  refine go_getR (k := 0) (r := 274) dX12_endSunday_59 sh_273 rfl inX12 (Nat.le_of_ble_eq_true rfl) lf_X12_7 rfl rfl ?_
  refine go_iload_n dX12_endSunday_62 rfl ?_
  refine go_iconst (v := 3) dX12_endSunday_63 (by decide) ?_
  refine go_iadd dX12_endSunday_64 ?_
  refine go_aload_n dX12_endSunday_65 rfl ?_
  refine go_iconst (v := 1) dX12_endSunday_66 (by decide) ?_
  refine go_callV mX12_readings dX12_endSunday_67 lm_X12_356 okX12_readings isX12_readings sh_273 rfl (As := [.int 1]) (S := [.int (x1 + 3), .ref (ga G 274)]) rfl rfl (Nat.le_of_ble_eq_true rfl) hF (k_i (fun r8 m7 hF => ?_))
  obtain ⟨hi, hF⟩ := hF
  refine go_iast dX12_endSunday_70 sh_274 hi ?_
  obtain ⟨m9, em9⟩ : ∃ z : Mem, z = wI m7 274 (x1 + 3).toNatClampNeg r8 := ⟨_, rfl⟩
  rw [← em9]
  have hF := hF m9 em9
  refine go_aload_n dX12_endSunday_71 rfl ?_
  refine go_getR (k := 0) (r := 274) dX12_endSunday_72 sh_273 rfl inX12 (Nat.le_of_ble_eq_true rfl) lf_X12_7 rfl rfl ?_
  refine go_bipush (v := 13) dX12_endSunday_75 (by decide) ?_
  refine go_dup2 dX12_endSunday_77 rfl rfl ?_
  refine go_ialdK (k := 13) dX12_endSunday_78 sh_274 (vp_in_dec (by decide)) (by decide) ?_
  refine go_iconst (v := 1) dX12_endSunday_79 (by decide) ?_
  refine go_iadd dX12_endSunday_80 ?_
  refine go_iastK (k := 13) dX12_endSunday_81 sh_274 (vp_in_dec (by decide)) (by decide) ?_
  obtain ⟨m10, em10⟩ : ∃ z : Mem, z = wI m9 274 13 ((m9.1 274 13) + 1) := ⟨_, rfl⟩
  rw [← em10]
  have hF := hF m10 em10
  refine go_aload_n dX12_endSunday_82 rfl ?_
  refine go_getR (k := 0) (r := 274) dX12_endSunday_83 sh_273 rfl inX12 (Nat.le_of_ble_eq_true rfl) lf_X12_7 rfl rfl ?_
  refine go_bipush (v := 14) dX12_endSunday_86 (by decide) ?_
  refine go_iconst (v := 0) dX12_endSunday_88 (by decide) ?_
  refine go_iastK (k := 14) dX12_endSunday_89 sh_274 (vp_in_dec (by decide)) (by decide) ?_
  obtain ⟨m11, em11⟩ : ∃ z : Mem, z = wI m10 274 14 0 := ⟨_, rfl⟩
  rw [← em11]
  have hF := hF m11 em11
  refine go_aload_n dX12_endSunday_90 rfl ?_
  refine go_getR (k := 0) (r := 274) dX12_endSunday_91 sh_273 rfl inX12 (Nat.le_of_ble_eq_true rfl) lf_X12_7 rfl rfl ?_
  refine go_iload_n dX12_endSunday_94 rfl ?_
  refine go_iconst (v := 3) dX12_endSunday_95 (by decide) ?_
  refine go_iadd dX12_endSunday_96 ?_
  obtain ⟨hi, hF⟩ := hF
  refine go_iald dX12_endSunday_97 sh_274 hi ?_
  exact go_iret (S := []) dX12_endSunday_98 rfl ⟨_, rfl, hF⟩
theorem vX12_sunday (G : GP) (d : Nat)  (m : Mem) (K : Int32 → Mem → Prop) (hF : Evv G (d + 8) mX12_keep [.ref (ga G 273)] m (fun m1 => Evi G (d + 8) mX12_endSunday [.ref (ga G 273)] m1 (fun r3 m2 => K r3 m2))) : Evi G (d + 9) mX12_sunday [.ref (ga G 273)] m K := by
  refine Ev.go [.ref (ga G 273)] (by decide) (Nat.le_of_ble_eq_true rfl) rfl ?_
  refine go_aload_n dX12_sunday_0 rfl ?_
  refine go_callV mX12_keep dX12_sunday_1 lm_X12_314 okX12_keep isX12_keep sh_273 rfl (As := []) (S := []) rfl rfl (Nat.le_of_ble_eq_true rfl) hF (k_v (fun m1 hF => ?_))
  refine go_aload_n dX12_sunday_4 rfl ?_
  refine go_callV mX12_endSunday dX12_sunday_5 lm_X12_360 okX12_endSunday isX12_endSunday sh_273 rfl (As := []) (S := []) rfl rfl (Nat.le_of_ble_eq_true rfl) hF (k_i (fun r3 m2 hF => ?_))
  exact go_iret (S := []) dX12_sunday_8 rfl ⟨_, rfl, hF⟩
theorem vX12_isPlayed (G : GP) (d : Nat) (a0 : Int32) (m : Mem) (K : Int32 → Mem → Prop) (hF : vp_in (a0 + 1) 3204 ∧ ∀ x1 : Int32, x1 = m.1 276 (a0 + 1).toNatClampNeg → vp_in a0 3204 ∧ ((m.1 276 a0.toNatClampNeg) = 3 → vp_in (a0 + 2) 3204 ∧ vp_in (a0 + 3) 3204 ∧ Evi G (d + 9) mX12_bell [.ref (ga G 273), .int x1, .int (m.1 276 (a0 + 2).toNatClampNeg), .int (m.1 276 (a0 + 3).toNatClampNeg)] m (fun r3 m2 => ((r3 < 0) → K 0 m2) ∧ ((¬ r3 < 0) → K 1 m2))) ∧ ((m.1 276 a0.toNatClampNeg) = 4 → vp_in (a0 + 3) 3204 ∧ vp_in (a0 + 4) 3204 ∧ vp_in (a0 + 5) 3204 ∧ vp_in (a0 + 6) 3204 ∧ vp_in (a0 + 2) 3204 ∧ Evi G (d + 9) mX12_word [.ref (ga G 273), .int (m.1 276 (a0 + 3).toNatClampNeg), .int (m.1 276 (a0 + 4).toNatClampNeg), .int (m.1 276 (a0 + 5).toNatClampNeg), .int (m.1 276 (a0 + 6).toNatClampNeg), .int x1, .int (m.1 276 (a0 + 2).toNatClampNeg)] m (fun r5 m4 => ((r5 < 0) → K 0 m4) ∧ ((¬ r5 < 0) → K 1 m4))) ∧ ((m.1 276 a0.toNatClampNeg) = 5 → Evi G (d + 9) mX12_ring [.ref (ga G 273), .int x1] m (fun r7 m6 => ((r7 < 0) → K 0 m6) ∧ ((¬ r7 < 0) → K 1 m6))) ∧ ((m.1 276 a0.toNatClampNeg) = 6 → Evi G (d + 9) mX12_speak [.ref (ga G 273), .int x1] m (fun r9 m8 => ((r9 < 0) → K 0 m8) ∧ ((¬ r9 < 0) → K 1 m8))) ∧ ((m.1 276 a0.toNatClampNeg) = 7 → Evi G (d + 9) mX12_set [.ref (ga G 273), .int 0, .int x1] m (fun r11 m10 => (r11 = 0 ∨ r11 = 1) ∧ K r11 m10)) ∧ ((m.1 276 a0.toNatClampNeg) = 8 → Evi G (d + 9) mX12_set [.ref (ga G 273), .int 1, .int x1] m (fun r13 m12 => (r13 = 0 ∨ r13 = 1) ∧ K r13 m12)) ∧ ((m.1 276 a0.toNatClampNeg) = 9 → Evi G (d + 9) mX12_arePassed [.ref (ga G 273), .int x1] m (fun r15 m14 => (r15 = 0 ∨ r15 = 1) ∧ K r15 m14)) ∧ ((m.1 276 a0.toNatClampNeg) = 10 → Evi G (d + 9) mX12_sunday [.ref (ga G 273)] m (fun r17 m16 => ((r17 < 0) → K 0 m16) ∧ ((¬ r17 < 0) → K 1 m16))) ∧ (¬ (m.1 276 a0.toNatClampNeg) = 3 ∧ ¬ (m.1 276 a0.toNatClampNeg) = 4 ∧ ¬ (m.1 276 a0.toNatClampNeg) = 5 ∧ ¬ (m.1 276 a0.toNatClampNeg) = 6 ∧ ¬ (m.1 276 a0.toNatClampNeg) = 7 ∧ ¬ (m.1 276 a0.toNatClampNeg) = 8 ∧ ¬ (m.1 276 a0.toNatClampNeg) = 9 ∧ ¬ (m.1 276 a0.toNatClampNeg) = 10 → K 1 m)) : Evi G (d + 10) mX12_isPlayed [.ref (ga G 273), .int a0] m K := by
  refine Ev.go [.ref (ga G 273), .int a0, uu] (by decide) (Nat.le_of_ble_eq_true rfl) rfl ?_
  refine go_aload_n dX12_isPlayed_0 rfl ?_
  refine go_getR (k := 2) (r := 276) dX12_isPlayed_1 sh_273 rfl inX12 (Nat.le_of_ble_eq_true rfl) lf_X12_16 rfl rfl ?_
  refine go_iload_n dX12_isPlayed_4 rfl ?_
  refine go_iconst (v := 1) dX12_isPlayed_5 (by decide) ?_
  refine go_iadd dX12_isPlayed_6 ?_
  obtain ⟨hi, hF⟩ := hF
  refine go_iald dX12_isPlayed_7 sh_276 hi ?_
  refine Gw.namei (fun x1 ex1 => ?_)
  have hF := hF x1 ex1
  refine go_istore_n (L' := [.ref (ga G 273), .int a0, .int x1]) dX12_isPlayed_8 (Nat.le_of_ble_eq_true rfl) rfl ?_
  refine go_aload_n dX12_isPlayed_9 rfl ?_
  refine go_getR (k := 2) (r := 276) dX12_isPlayed_10 sh_273 rfl inX12 (Nat.le_of_ble_eq_true rfl) lf_X12_16 rfl rfl ?_
  refine go_iload_n dX12_isPlayed_13 rfl ?_
  obtain ⟨hi, hF⟩ := hF
  refine go_iald dX12_isPlayed_14 sh_276 hi ?_
  rcases Decidable.em ((m.1 276 a0.toNatClampNeg) = 3) with hc0 | hc0
  · have hF := hF.1 hc0
    refine go_tabIn (off := 45) 60 dX12_isPlayed_15 (by rw [hc0]; decide) (by rw [hc0]; decide) (by rw [hc0]; rfl) rfl ?_
    refine go_aload_n dX12_isPlayed_60 rfl ?_
    refine go_iload_n dX12_isPlayed_61 rfl ?_
    refine go_aload_n dX12_isPlayed_62 rfl ?_
    refine go_getR (k := 2) (r := 276) dX12_isPlayed_63 sh_273 rfl inX12 (Nat.le_of_ble_eq_true rfl) lf_X12_16 rfl rfl ?_
    refine go_iload_n dX12_isPlayed_66 rfl ?_
    refine go_iconst (v := 2) dX12_isPlayed_67 (by decide) ?_
    refine go_iadd dX12_isPlayed_68 ?_
    obtain ⟨hi, hF⟩ := hF
    refine go_iald dX12_isPlayed_69 sh_276 hi ?_
    refine go_aload_n dX12_isPlayed_70 rfl ?_
    refine go_getR (k := 2) (r := 276) dX12_isPlayed_71 sh_273 rfl inX12 (Nat.le_of_ble_eq_true rfl) lf_X12_16 rfl rfl ?_
    refine go_iload_n dX12_isPlayed_74 rfl ?_
    refine go_iconst (v := 3) dX12_isPlayed_75 (by decide) ?_
    refine go_iadd dX12_isPlayed_76 ?_
    obtain ⟨hi, hF⟩ := hF
    refine go_iald dX12_isPlayed_77 sh_276 hi ?_
    refine go_callV mX12_bell dX12_isPlayed_78 lm_X12_363 okX12_bell isX12_bell sh_273 rfl (As := [.int x1, .int (m.1 276 (a0 + 2).toNatClampNeg), .int (m.1 276 (a0 + 3).toNatClampNeg)]) (S := []) rfl rfl (Nat.le_of_ble_eq_true rfl) hF (k_i (fun r3 m2 hF => ?_))
    refine go_if_lt 88 dX12_isPlayed_81 rfl ⟨fun hc => ?_, fun hc => ?_⟩
    · have hF := hF.1 hc
      refine go_iconst (v := 0) dX12_isPlayed_88 (by decide) ?_
      exact go_zret (S := []) dX12_isPlayed_89 rfl (by decide) ⟨_, rfl, hF⟩
    · have hF := hF.2 hc
      refine go_iconst (v := 1) dX12_isPlayed_84 (by decide) ?_
      refine go_goto 89 dX12_isPlayed_85 rfl ?_
      exact go_zret (S := []) dX12_isPlayed_89 rfl (by decide) ⟨_, rfl, hF⟩
  rcases Decidable.em ((m.1 276 a0.toNatClampNeg) = 4) with hc1 | hc1
  · have hF := hF.2.1 hc1
    refine go_tabIn (off := 75) 90 dX12_isPlayed_15 (by rw [hc1]; decide) (by rw [hc1]; decide) (by rw [hc1]; rfl) rfl ?_
    refine go_aload_n dX12_isPlayed_90 rfl ?_
    refine go_aload_n dX12_isPlayed_91 rfl ?_
    refine go_getR (k := 2) (r := 276) dX12_isPlayed_92 sh_273 rfl inX12 (Nat.le_of_ble_eq_true rfl) lf_X12_16 rfl rfl ?_
    refine go_iload_n dX12_isPlayed_95 rfl ?_
    refine go_iconst (v := 3) dX12_isPlayed_96 (by decide) ?_
    refine go_iadd dX12_isPlayed_97 ?_
    obtain ⟨hi, hF⟩ := hF
    refine go_iald dX12_isPlayed_98 sh_276 hi ?_
    refine go_aload_n dX12_isPlayed_99 rfl ?_
    refine go_getR (k := 2) (r := 276) dX12_isPlayed_100 sh_273 rfl inX12 (Nat.le_of_ble_eq_true rfl) lf_X12_16 rfl rfl ?_
    refine go_iload_n dX12_isPlayed_103 rfl ?_
    refine go_iconst (v := 4) dX12_isPlayed_104 (by decide) ?_
    refine go_iadd dX12_isPlayed_105 ?_
    obtain ⟨hi, hF⟩ := hF
    refine go_iald dX12_isPlayed_106 sh_276 hi ?_
    refine go_aload_n dX12_isPlayed_107 rfl ?_
    refine go_getR (k := 2) (r := 276) dX12_isPlayed_108 sh_273 rfl inX12 (Nat.le_of_ble_eq_true rfl) lf_X12_16 rfl rfl ?_
    refine go_iload_n dX12_isPlayed_111 rfl ?_
    refine go_iconst (v := 5) dX12_isPlayed_112 (by decide) ?_
    refine go_iadd dX12_isPlayed_113 ?_
    obtain ⟨hi, hF⟩ := hF
    refine go_iald dX12_isPlayed_114 sh_276 hi ?_
    refine go_aload_n dX12_isPlayed_115 rfl ?_
    refine go_getR (k := 2) (r := 276) dX12_isPlayed_116 sh_273 rfl inX12 (Nat.le_of_ble_eq_true rfl) lf_X12_16 rfl rfl ?_
    refine go_iload_n dX12_isPlayed_119 rfl ?_
    refine go_bipush (v := 6) dX12_isPlayed_120 (by decide) ?_
    refine go_iadd dX12_isPlayed_122 ?_
    obtain ⟨hi, hF⟩ := hF
    refine go_iald dX12_isPlayed_123 sh_276 hi ?_
    refine go_iload_n dX12_isPlayed_124 rfl ?_
    refine go_aload_n dX12_isPlayed_125 rfl ?_
    refine go_getR (k := 2) (r := 276) dX12_isPlayed_126 sh_273 rfl inX12 (Nat.le_of_ble_eq_true rfl) lf_X12_16 rfl rfl ?_
    refine go_iload_n dX12_isPlayed_129 rfl ?_
    refine go_iconst (v := 2) dX12_isPlayed_130 (by decide) ?_
    refine go_iadd dX12_isPlayed_131 ?_
    obtain ⟨hi, hF⟩ := hF
    refine go_iald dX12_isPlayed_132 sh_276 hi ?_
    refine go_callV mX12_word dX12_isPlayed_133 lm_X12_366 okX12_word isX12_word sh_273 rfl (As := [.int (m.1 276 (a0 + 3).toNatClampNeg), .int (m.1 276 (a0 + 4).toNatClampNeg), .int (m.1 276 (a0 + 5).toNatClampNeg), .int (m.1 276 (a0 + 6).toNatClampNeg), .int x1, .int (m.1 276 (a0 + 2).toNatClampNeg)]) (S := []) rfl rfl (Nat.le_of_ble_eq_true rfl) hF (k_i (fun r5 m4 hF => ?_))
    refine go_if_lt 143 dX12_isPlayed_136 rfl ⟨fun hc => ?_, fun hc => ?_⟩
    · have hF := hF.1 hc
      refine go_iconst (v := 0) dX12_isPlayed_143 (by decide) ?_
      exact go_zret (S := []) dX12_isPlayed_144 rfl (by decide) ⟨_, rfl, hF⟩
    · have hF := hF.2 hc
      refine go_iconst (v := 1) dX12_isPlayed_139 (by decide) ?_
      refine go_goto 144 dX12_isPlayed_140 rfl ?_
      exact go_zret (S := []) dX12_isPlayed_144 rfl (by decide) ⟨_, rfl, hF⟩
  rcases Decidable.em ((m.1 276 a0.toNatClampNeg) = 5) with hc2 | hc2
  · have hF := hF.2.2.1 hc2
    refine go_tabIn (off := 130) 145 dX12_isPlayed_15 (by rw [hc2]; decide) (by rw [hc2]; decide) (by rw [hc2]; rfl) rfl ?_
    refine go_aload_n dX12_isPlayed_145 rfl ?_
    refine go_iload_n dX12_isPlayed_146 rfl ?_
    refine go_callV mX12_ring dX12_isPlayed_147 lm_X12_369 okX12_ring isX12_ring sh_273 rfl (As := [.int x1]) (S := []) rfl rfl (Nat.le_of_ble_eq_true rfl) hF (k_i (fun r7 m6 hF => ?_))
    refine go_if_lt 157 dX12_isPlayed_150 rfl ⟨fun hc => ?_, fun hc => ?_⟩
    · have hF := hF.1 hc
      refine go_iconst (v := 0) dX12_isPlayed_157 (by decide) ?_
      exact go_zret (S := []) dX12_isPlayed_158 rfl (by decide) ⟨_, rfl, hF⟩
    · have hF := hF.2 hc
      refine go_iconst (v := 1) dX12_isPlayed_153 (by decide) ?_
      refine go_goto 158 dX12_isPlayed_154 rfl ?_
      exact go_zret (S := []) dX12_isPlayed_158 rfl (by decide) ⟨_, rfl, hF⟩
  rcases Decidable.em ((m.1 276 a0.toNatClampNeg) = 6) with hc3 | hc3
  · have hF := hF.2.2.2.1 hc3
    refine go_tabIn (off := 144) 159 dX12_isPlayed_15 (by rw [hc3]; decide) (by rw [hc3]; decide) (by rw [hc3]; rfl) rfl ?_
    refine go_aload_n dX12_isPlayed_159 rfl ?_
    refine go_iload_n dX12_isPlayed_160 rfl ?_
    refine go_callV mX12_speak dX12_isPlayed_161 lm_X12_372 okX12_speak isX12_speak sh_273 rfl (As := [.int x1]) (S := []) rfl rfl (Nat.le_of_ble_eq_true rfl) hF (k_i (fun r9 m8 hF => ?_))
    refine go_if_lt 171 dX12_isPlayed_164 rfl ⟨fun hc => ?_, fun hc => ?_⟩
    · have hF := hF.1 hc
      refine go_iconst (v := 0) dX12_isPlayed_171 (by decide) ?_
      exact go_zret (S := []) dX12_isPlayed_172 rfl (by decide) ⟨_, rfl, hF⟩
    · have hF := hF.2 hc
      refine go_iconst (v := 1) dX12_isPlayed_167 (by decide) ?_
      refine go_goto 172 dX12_isPlayed_168 rfl ?_
      exact go_zret (S := []) dX12_isPlayed_172 rfl (by decide) ⟨_, rfl, hF⟩
  rcases Decidable.em ((m.1 276 a0.toNatClampNeg) = 7) with hc4 | hc4
  · have hF := hF.2.2.2.2.1 hc4
    refine go_tabIn (off := 158) 173 dX12_isPlayed_15 (by rw [hc4]; decide) (by rw [hc4]; decide) (by rw [hc4]; rfl) rfl ?_
    refine go_aload_n dX12_isPlayed_173 rfl ?_
    refine go_iconst (v := 0) dX12_isPlayed_174 (by decide) ?_
    refine go_iload_n dX12_isPlayed_175 rfl ?_
    refine go_callV mX12_set dX12_isPlayed_176 lm_X12_375 okX12_set isX12_set sh_273 rfl (As := [.int 0, .int x1]) (S := []) rfl rfl (Nat.le_of_ble_eq_true rfl) hF (k_i (fun r11 m10 hF => ?_))
    exact go_zret (S := []) dX12_isPlayed_179 rfl hF.1 ⟨_, rfl, hF.2⟩
  rcases Decidable.em ((m.1 276 a0.toNatClampNeg) = 8) with hc5 | hc5
  · have hF := hF.2.2.2.2.2.1 hc5
    refine go_tabIn (off := 165) 180 dX12_isPlayed_15 (by rw [hc5]; decide) (by rw [hc5]; decide) (by rw [hc5]; rfl) rfl ?_
    refine go_aload_n dX12_isPlayed_180 rfl ?_
    refine go_iconst (v := 1) dX12_isPlayed_181 (by decide) ?_
    refine go_iload_n dX12_isPlayed_182 rfl ?_
    refine go_callV mX12_set dX12_isPlayed_183 lm_X12_375 okX12_set isX12_set sh_273 rfl (As := [.int 1, .int x1]) (S := []) rfl rfl (Nat.le_of_ble_eq_true rfl) hF (k_i (fun r13 m12 hF => ?_))
    exact go_zret (S := []) dX12_isPlayed_186 rfl hF.1 ⟨_, rfl, hF.2⟩
  rcases Decidable.em ((m.1 276 a0.toNatClampNeg) = 9) with hc6 | hc6
  · have hF := hF.2.2.2.2.2.2.1 hc6
    refine go_tabIn (off := 172) 187 dX12_isPlayed_15 (by rw [hc6]; decide) (by rw [hc6]; decide) (by rw [hc6]; rfl) rfl ?_
    refine go_aload_n dX12_isPlayed_187 rfl ?_
    refine go_iload_n dX12_isPlayed_188 rfl ?_
    refine go_callV mX12_arePassed dX12_isPlayed_189 lm_X12_350 okX12_arePassed isX12_arePassed sh_273 rfl (As := [.int x1]) (S := []) rfl rfl (Nat.le_of_ble_eq_true rfl) hF (k_i (fun r15 m14 hF => ?_))
    exact go_zret (S := []) dX12_isPlayed_192 rfl hF.1 ⟨_, rfl, hF.2⟩
  rcases Decidable.em ((m.1 276 a0.toNatClampNeg) = 10) with hc7 | hc7
  · have hF := hF.2.2.2.2.2.2.2.1 hc7
    refine go_tabIn (off := 178) 193 dX12_isPlayed_15 (by rw [hc7]; decide) (by rw [hc7]; decide) (by rw [hc7]; rfl) rfl ?_
    refine go_aload_n dX12_isPlayed_193 rfl ?_
    refine go_callV mX12_sunday dX12_isPlayed_194 lm_X12_379 okX12_sunday isX12_sunday sh_273 rfl (As := []) (S := []) rfl rfl (Nat.le_of_ble_eq_true rfl) hF (k_i (fun r17 m16 hF => ?_))
    refine go_if_lt 204 dX12_isPlayed_197 rfl ⟨fun hc => ?_, fun hc => ?_⟩
    · have hF := hF.1 hc
      refine go_iconst (v := 0) dX12_isPlayed_204 (by decide) ?_
      exact go_zret (S := []) dX12_isPlayed_205 rfl (by decide) ⟨_, rfl, hF⟩
    · have hF := hF.2 hc
      refine go_iconst (v := 1) dX12_isPlayed_200 (by decide) ?_
      refine go_goto 205 dX12_isPlayed_201 rfl ?_
      exact go_zret (S := []) dX12_isPlayed_205 rfl (by decide) ⟨_, rfl, hF⟩
  have hF := hF.2.2.2.2.2.2.2.2 ⟨hc0, hc1, hc2, hc3, hc4, hc5, hc6, hc7⟩
  refine go_tabOut 206 dX12_isPlayed_15 (tab_out [3, 4, 5, 6, 7, 8, 9, 10] 3 10 (m.1 276 a0.toNatClampNeg) (by decide) (by simp only [List.forall_mem_cons, List.not_mem_nil, false_implies, implies_true, and_true]; exact ⟨hc0, hc1, hc2, hc3, hc4, hc5, hc6, hc7⟩)) rfl ?_
  refine go_iconst (v := 1) dX12_isPlayed_206 (by decide) ?_
  exact go_zret (S := []) dX12_isPlayed_207 rfl (by decide) ⟨_, rfl, hF⟩
theorem vX12_played (G : GP) (d : Nat) (a0 : Int32) (m : Mem) (K : Int32 → Mem → Prop) (hF : ((0 ≤ a0 ∧ a0 ≤ ((m.1 274 2) - 1)) → Gw G (d + 11) mX12_played 21 [.ref (ga G 273), .int a0, .int 0] [] m (Qi K)) ∧ (¬ (0 ≤ a0 ∧ a0 ≤ ((m.1 274 2) - 1)) → K (-2) m)) : Evi G (d + 11) mX12_played [.ref (ga G 273), .int a0] m K := by
  refine Ev.go [.ref (ga G 273), .int a0, uu] (by decide) (Nat.le_of_ble_eq_true rfl) rfl ?_
  refine go_iload_n dX12_played_0 rfl ?_
  refine go_iconst (v := 0) dX12_played_1 (by decide) ?_
  refine go_aload_n dX12_played_2 rfl ?_
  refine go_getR (k := 0) (r := 274) dX12_played_3 sh_273 rfl inX12 (Nat.le_of_ble_eq_true rfl) lf_X12_7 rfl rfl ?_
  refine go_iconst (v := 2) dX12_played_6 (by decide) ?_
  refine go_ialdK (k := 2) dX12_played_7 sh_274 (vp_in_dec (by decide)) (by decide) ?_
  refine go_iconst (v := 1) dX12_played_8 (by decide) ?_
  refine go_isub dX12_played_9 ?_
  rcases Classical.em (0 ≤ a0 ∧ a0 ≤ ((m.1 274 2) - 1)) with hp | hp
  · have hF := hF.1 hp
    refine go_callS mX12_isIn dX12_played_10 lm_X12_80 okX12_isIn isX12_isIn (As := [.int a0, .int 0, .int ((m.1 274 2) - 1)]) (S := []) rfl rfl (Nat.le_of_ble_eq_true rfl) (eX12_isIn G _ a0 0 ((m.1 274 2) - 1) m (fun r m' => r = 1 ∧ m = m') ⟨fun _ => ⟨rfl, rfl⟩, fun q => absurd hp q⟩) (k_i (fun r m' hr => ?_))
    obtain ⟨hr1, hr2⟩ := hr
    subst hr1
    subst hr2
    refine go_if_ne 19 dX12_played_13 rfl ⟨fun _ => ?_, fun hc => absurd hc (by decide)⟩
    refine go_iconst (v := 0) dX12_played_19 (by decide) ?_
    refine go_istore_n (L' := [.ref (ga G 273), .int a0, .int 0]) dX12_played_20 (Nat.le_of_ble_eq_true rfl) rfl ?_
    exact hF
  · have hF := hF.2 hp
    refine go_callS mX12_isIn dX12_played_10 lm_X12_80 okX12_isIn isX12_isIn (As := [.int a0, .int 0, .int ((m.1 274 2) - 1)]) (S := []) rfl rfl (Nat.le_of_ble_eq_true rfl) (eX12_isIn G _ a0 0 ((m.1 274 2) - 1) m (fun r m' => r = 0 ∧ m = m') ⟨fun q => absurd q hp, fun _ => ⟨rfl, rfl⟩⟩) (k_i (fun r m' hr => ?_))
    obtain ⟨hr1, hr2⟩ := hr
    subst hr1
    subst hr2
    refine go_if_ne 19 dX12_played_13 rfl ⟨fun hc => absurd hc (by decide), fun _ => ?_⟩
    refine go_bipush (v := -2) dX12_played_16 (by decide) ?_
    exact go_iret (S := []) dX12_played_18 rfl ⟨_, rfl, hF⟩
theorem vX12_played_21 (G : GP) (d : Nat) (l1 : Int32) (l2 : Int32) (m : Mem) (K : Int32 → Mem → Prop) (hF : vp_in ((801 : Int32) * l1) 3204 ∧ (((m.1 276 ((801 : Int32) * l1).toNatClampNeg) ≤ l2) → K (-1) m) ∧ ((¬ (m.1 276 ((801 : Int32) * l1).toNatClampNeg) ≤ l2) → Evi G (d + 10) mX12_isPlayed [.ref (ga G 273), .int ((((801 : Int32) * l1) + 1) + ((8 : Int32) * l2))] m (fun r2 m1 => ((¬ r2 = 0) → ∀ x3 : Int32, x3 = l2 + 1 → Gw G (d + 11) mX12_played 21 [.ref (ga G 273), .int l1, .int x3] [] m1 (Qi K)) ∧ ((r2 = 0) → K l2 m1)))) : Gw G (d + 11) mX12_played 21 [.ref (ga G 273), .int l1, .int l2] [] m (Qi K) := by
  refine go_iload_n dX12_played_21 rfl ?_
  refine go_aload_n dX12_played_22 rfl ?_
  refine go_getR (k := 2) (r := 276) dX12_played_23 sh_273 rfl inX12 (Nat.le_of_ble_eq_true rfl) lf_X12_16 rfl rfl ?_
  refine go_sipush (v := 801) dX12_played_26 (by decide) ?_
  refine go_iload_n dX12_played_29 rfl ?_
  refine go_imul dX12_played_30 ?_
  obtain ⟨hi, hF⟩ := hF
  refine go_iald dX12_played_31 sh_276 hi ?_
  refine go_icmp_ge 62 dX12_played_32 rfl ⟨fun hc => ?_, fun hc => ?_⟩
  · have hF := hF.1 hc
    refine go_iconst (v := -1) dX12_played_62 (by decide) ?_
    exact go_iret (S := []) dX12_played_63 rfl ⟨_, rfl, hF⟩
  · have hF := hF.2 hc
    refine go_aload_n dX12_played_35 rfl ?_
    refine go_sipush (v := 801) dX12_played_36 (by decide) ?_
    refine go_iload_n dX12_played_39 rfl ?_
    refine go_imul dX12_played_40 ?_
    refine go_iconst (v := 1) dX12_played_41 (by decide) ?_
    refine go_iadd dX12_played_42 ?_
    refine go_bipush (v := 8) dX12_played_43 (by decide) ?_
    refine go_iload_n dX12_played_45 rfl ?_
    refine go_imul dX12_played_46 ?_
    refine go_iadd dX12_played_47 ?_
    refine go_callV mX12_isPlayed dX12_played_48 lm_X12_382 okX12_isPlayed isX12_isPlayed sh_273 rfl (As := [.int ((((801 : Int32) * l1) + 1) + ((8 : Int32) * l2))]) (S := []) rfl rfl (Nat.le_of_ble_eq_true rfl) hF (k_i (fun r2 m1 hF => ?_))
    refine go_if_ne 56 dX12_played_51 rfl ⟨fun hc => ?_, fun hc => ?_⟩
    · have hF := hF.1 hc
      obtain ⟨x3, ex3⟩ : ∃ z : Int32, z = l2 + 1 := ⟨_, rfl⟩
      have hF := hF x3 ex3
      refine go_iinc (v := x3) (L' := [.ref (ga G 273), .int l1, .int x3]) dX12_played_56 rfl (by rw [ex3]; rfl) (Nat.le_of_ble_eq_true rfl) rfl ?_
      refine go_goto 21 dX12_played_59 rfl ?_
      exact hF
    · have hF := hF.2 hc
      refine go_iload_n dX12_played_54 rfl ?_
      exact go_iret (S := []) dX12_played_55 rfl ⟨_, rfl, hF⟩
theorem vX12_happens (G : GP) (d : Nat) (a0 : Int32) (m : Mem) (K : Mem → Prop) (hF : ¬ (m.1 274 0) = 0 ∧ ∀ x1 : Int32, x1 = a0 - a0 / (m.1 274 0) * (m.1 274 0) → ¬ (m.1 274 1) = 0 ∧ ∀ x2 : Int32, x2 = a0 - a0 / (m.1 274 1) * (m.1 274 1) → ((a0 - a0 / 5 * 5) = 0 → Evi G (d + 8) mX12_canRing [.ref (ga G 273), .int x1] m (fun r4 m3 => ((r4 = 0) → K m3) ∧ ((¬ r4 = 0) → Evi G (d + 8) mX12_ringNow [.ref (ga G 273), .int x1] m3 (fun r6 m5 => K m5)))) ∧ ((a0 - a0 / 5 * 5) = 1 → Evi G (d + 8) mX12_canSpeak [.ref (ga G 273), .int x2] m (fun r8 m7 => ((r8 = 0) → K m7) ∧ ((¬ r8 = 0) → Evi G (d + 8) mX12_speakNow [.ref (ga G 273), .int x2] m7 (fun r10 m9 => K m9)))) ∧ ((a0 - a0 / 5 * 5) = 2 → Evi G (d + 8) mX12_endSunday [.ref (ga G 273)] m (fun r12 m11 => K m11)) ∧ (¬ (a0 - a0 / 5 * 5) = 0 ∧ ¬ (a0 - a0 / 5 * 5) = 1 ∧ ¬ (a0 - a0 / 5 * 5) = 2 → ((9999 ≤ (m.1 274 10)) → K m) ∧ ((¬ 9999 ≤ (m.1 274 10)) → Evv G (d + 8) mX12_pass [.ref (ga G 273)] m (fun m13 => K m13)))) : Evv G (d + 9) mX12_happens [.ref (ga G 273), .int a0] m K := by
  refine Ev.go [.ref (ga G 273), .int a0, uu, uu] (by decide) (Nat.le_of_ble_eq_true rfl) rfl ?_
  refine go_iload_n dX12_happens_0 rfl ?_
  refine go_aload_n dX12_happens_1 rfl ?_
  refine go_getR (k := 0) (r := 274) dX12_happens_2 sh_273 rfl inX12 (Nat.le_of_ble_eq_true rfl) lf_X12_7 rfl rfl ?_
  refine go_iconst (v := 0) dX12_happens_5 (by decide) ?_
  refine go_ialdK (k := 0) dX12_happens_6 sh_274 (vp_in_dec (by decide)) (by decide) ?_
  obtain ⟨h0, hF⟩ := hF
  refine go_irem dX12_happens_7 h0 ?_
  refine Gw.namei (fun x1 ex1 => ?_)
  have hF := hF x1 ex1
  refine go_istore_n (L' := [.ref (ga G 273), .int a0, .int x1, uu]) dX12_happens_8 (Nat.le_of_ble_eq_true rfl) rfl ?_
  refine go_iload_n dX12_happens_9 rfl ?_
  refine go_aload_n dX12_happens_10 rfl ?_
  refine go_getR (k := 0) (r := 274) dX12_happens_11 sh_273 rfl inX12 (Nat.le_of_ble_eq_true rfl) lf_X12_7 rfl rfl ?_
  refine go_iconst (v := 1) dX12_happens_14 (by decide) ?_
  refine go_ialdK (k := 1) dX12_happens_15 sh_274 (vp_in_dec (by decide)) (by decide) ?_
  obtain ⟨h0, hF⟩ := hF
  refine go_irem dX12_happens_16 h0 ?_
  refine Gw.namei (fun x2 ex2 => ?_)
  have hF := hF x2 ex2
  refine go_istore_n (L' := [.ref (ga G 273), .int a0, .int x1, .int x2]) dX12_happens_17 (Nat.le_of_ble_eq_true rfl) rfl ?_
  refine go_iload_n dX12_happens_18 rfl ?_
  refine go_iconst (v := 5) dX12_happens_19 (by decide) ?_
  refine go_irem dX12_happens_20 (by decide) ?_
  rcases Decidable.em ((a0 - a0 / 5 * 5) = 0) with hc0 | hc0
  · have hF := hF.1 hc0
    refine go_tabIn (off := 27) 48 dX12_happens_21 (by rw [hc0]; decide) (by rw [hc0]; decide) (by rw [hc0]; rfl) rfl ?_
    refine go_aload_n dX12_happens_48 rfl ?_
    refine go_iload_n dX12_happens_49 rfl ?_
    refine go_callV mX12_canRing dX12_happens_50 lm_X12_311 okX12_canRing isX12_canRing sh_273 rfl (As := [.int x1]) (S := []) rfl rfl (Nat.le_of_ble_eq_true rfl) hF (k_i (fun r4 m3 hF => ?_))
    refine go_if_eq 107 dX12_happens_53 rfl ⟨fun hc => ?_, fun hc => ?_⟩
    · have hF := hF.1 hc
      exact go_vret (S := []) dX12_happens_107 rfl ⟨rfl, hF⟩
    · have hF := hF.2 hc
      refine go_aload_n dX12_happens_56 rfl ?_
      refine go_iload_n dX12_happens_57 rfl ?_
      refine go_callV mX12_ringNow dX12_happens_58 lm_X12_317 okX12_ringNow isX12_ringNow sh_273 rfl (As := [.int x1]) (S := []) rfl rfl (Nat.le_of_ble_eq_true rfl) hF (k_i (fun r6 m5 hF => ?_))
      refine go_pop dX12_happens_61 rfl ?_
      refine go_goto 107 dX12_happens_62 rfl ?_
      exact go_vret (S := []) dX12_happens_107 rfl ⟨rfl, hF⟩
  rcases Decidable.em ((a0 - a0 / 5 * 5) = 1) with hc1 | hc1
  · have hF := hF.2.1 hc1
    refine go_tabIn (off := 44) 65 dX12_happens_21 (by rw [hc1]; decide) (by rw [hc1]; decide) (by rw [hc1]; rfl) rfl ?_
    refine go_aload_n dX12_happens_65 rfl ?_
    refine go_iload_n dX12_happens_66 rfl ?_
    refine go_callV mX12_canSpeak dX12_happens_67 lm_X12_329 okX12_canSpeak isX12_canSpeak sh_273 rfl (As := [.int x2]) (S := []) rfl rfl (Nat.le_of_ble_eq_true rfl) hF (k_i (fun r8 m7 hF => ?_))
    refine go_if_eq 107 dX12_happens_70 rfl ⟨fun hc => ?_, fun hc => ?_⟩
    · have hF := hF.1 hc
      exact go_vret (S := []) dX12_happens_107 rfl ⟨rfl, hF⟩
    · have hF := hF.2 hc
      refine go_aload_n dX12_happens_73 rfl ?_
      refine go_iload_n dX12_happens_74 rfl ?_
      refine go_callV mX12_speakNow dX12_happens_75 lm_X12_332 okX12_speakNow isX12_speakNow sh_273 rfl (As := [.int x2]) (S := []) rfl rfl (Nat.le_of_ble_eq_true rfl) hF (k_i (fun r10 m9 hF => ?_))
      refine go_pop dX12_happens_78 rfl ?_
      refine go_goto 107 dX12_happens_79 rfl ?_
      exact go_vret (S := []) dX12_happens_107 rfl ⟨rfl, hF⟩
  rcases Decidable.em ((a0 - a0 / 5 * 5) = 2) with hc2 | hc2
  · have hF := hF.2.2.1 hc2
    refine go_tabIn (off := 61) 82 dX12_happens_21 (by rw [hc2]; decide) (by rw [hc2]; decide) (by rw [hc2]; rfl) rfl ?_
    refine go_aload_n dX12_happens_82 rfl ?_
    refine go_callV mX12_endSunday dX12_happens_83 lm_X12_360 okX12_endSunday isX12_endSunday sh_273 rfl (As := []) (S := []) rfl rfl (Nat.le_of_ble_eq_true rfl) hF (k_i (fun r12 m11 hF => ?_))
    refine go_pop dX12_happens_86 rfl ?_
    refine go_goto 107 dX12_happens_87 rfl ?_
    exact go_vret (S := []) dX12_happens_107 rfl ⟨rfl, hF⟩
  have hF := hF.2.2.2 ⟨hc0, hc1, hc2⟩
  refine go_tabOut 90 dX12_happens_21 (tab_out [0, 1, 2] 0 2 (a0 - a0 / 5 * 5) (by decide) (by simp only [List.forall_mem_cons, List.not_mem_nil, false_implies, implies_true, and_true]; exact ⟨hc0, hc1, hc2⟩)) rfl ?_
  refine go_aload_n dX12_happens_90 rfl ?_
  refine go_getR (k := 0) (r := 274) dX12_happens_91 sh_273 rfl inX12 (Nat.le_of_ble_eq_true rfl) lf_X12_7 rfl rfl ?_
  refine go_bipush (v := 10) dX12_happens_94 (by decide) ?_
  refine go_ialdK (k := 10) dX12_happens_96 sh_274 (vp_in_dec (by decide)) (by decide) ?_
  refine go_sipush (v := 9999) dX12_happens_97 (by decide) ?_
  refine go_icmp_ge 107 dX12_happens_100 rfl ⟨fun hc => ?_, fun hc => ?_⟩
  · have hF := hF.1 hc
    exact go_vret (S := []) dX12_happens_107 rfl ⟨rfl, hF⟩
  · have hF := hF.2 hc
    refine go_aload_n dX12_happens_103 rfl ?_
    refine go_callV mX12_pass dX12_happens_104 lm_X12_347 okX12_pass isX12_pass sh_273 rfl (As := []) (S := []) rfl rfl (Nat.le_of_ble_eq_true rfl) hF (k_v (fun m13 hF => ?_))
    exact go_vret (S := []) dX12_happens_107 rfl ⟨rfl, hF⟩
theorem vX12_centuries (G : GP) (d : Nat) (a0 : Int32) (a1 : Int32) (m : Mem) (K : Int32 → Mem → Prop) (hF : ((0 ≤ a0 ∧ a0 ≤ 9999) → ((1 ≤ a1 ∧ a1 ≤ 40) → (((m.1 274 0) = 0) → K (-1) m) ∧ ((¬ (m.1 274 0) = 0) → ((¬ (m.1 274 1) = 0) → Evv G (d + 9) mX12_keep [.ref (ga G 273)] m (fun m1 => ∀ m2 : Mem, m2 = wI m1 274 12 ((a0 * 2) + 101) → Gw G (d + 10) mX12_centuries 60 [.ref (ga G 273), .int a0, .int a1, .int 0, uu] [] m2 (Qi K))) ∧ (((m.1 274 1) = 0) → K (-1) m))) ∧ (¬ (1 ≤ a1 ∧ a1 ≤ 40) → K (-1) m)) ∧ (¬ (0 ≤ a0 ∧ a0 ≤ 9999) → K (-1) m)) : Evi G (d + 10) mX12_centuries [.ref (ga G 273), .int a0, .int a1] m K := by
  refine Ev.go [.ref (ga G 273), .int a0, .int a1, uu, uu] (by decide) (Nat.le_of_ble_eq_true rfl) rfl ?_
  refine go_iload_n dX12_centuries_0 rfl ?_
  refine go_iconst (v := 0) dX12_centuries_1 (by decide) ?_
  refine go_sipush (v := 9999) dX12_centuries_2 (by decide) ?_
  rcases Classical.em (0 ≤ a0 ∧ a0 ≤ 9999) with hp | hp
  · have hF := hF.1 hp
    refine go_callS mX12_isIn dX12_centuries_5 lm_X12_80 okX12_isIn isX12_isIn (As := [.int a0, .int 0, .int 9999]) (S := []) rfl rfl (Nat.le_of_ble_eq_true rfl) (eX12_isIn G _ a0 0 9999 m (fun r m' => r = 1 ∧ m = m') ⟨fun _ => ⟨rfl, rfl⟩, fun q => absurd hp q⟩) (k_i (fun r m' hr => ?_))
    obtain ⟨hr1, hr2⟩ := hr
    subst hr1
    subst hr2
    refine go_if_eq 39 dX12_centuries_8 rfl ⟨fun hc => absurd hc (by decide), fun _ => ?_⟩
    refine go_iload_n dX12_centuries_11 rfl ?_
    refine go_iconst (v := 1) dX12_centuries_12 (by decide) ?_
    refine go_bipush (v := 40) dX12_centuries_13 (by decide) ?_
    rcases Classical.em (1 ≤ a1 ∧ a1 ≤ 40) with hp | hp
    · have hF := hF.1 hp
      refine go_callS mX12_isIn dX12_centuries_15 lm_X12_80 okX12_isIn isX12_isIn (As := [.int a1, .int 1, .int 40]) (S := []) rfl rfl (Nat.le_of_ble_eq_true rfl) (eX12_isIn G _ a1 1 40 m (fun r m' => r = 1 ∧ m = m') ⟨fun _ => ⟨rfl, rfl⟩, fun q => absurd hp q⟩) (k_i (fun r m' hr => ?_))
      obtain ⟨hr1, hr2⟩ := hr
      subst hr1
      subst hr2
      refine go_if_eq 39 dX12_centuries_18 rfl ⟨fun hc => absurd hc (by decide), fun _ => ?_⟩
      refine go_aload_n dX12_centuries_21 rfl ?_
      refine go_getR (k := 0) (r := 274) dX12_centuries_22 sh_273 rfl inX12 (Nat.le_of_ble_eq_true rfl) lf_X12_7 rfl rfl ?_
      refine go_iconst (v := 0) dX12_centuries_25 (by decide) ?_
      refine go_ialdK (k := 0) dX12_centuries_26 sh_274 (vp_in_dec (by decide)) (by decide) ?_
      refine go_if_eq 39 dX12_centuries_27 rfl ⟨fun hc => ?_, fun hc => ?_⟩
      · have hF := hF.1 hc
        refine go_iconst (v := -1) dX12_centuries_39 (by decide) ?_
        exact go_iret (S := []) dX12_centuries_40 rfl ⟨_, rfl, hF⟩
      · have hF := hF.2 hc
        refine go_aload_n dX12_centuries_30 rfl ?_
        refine go_getR (k := 0) (r := 274) dX12_centuries_31 sh_273 rfl inX12 (Nat.le_of_ble_eq_true rfl) lf_X12_7 rfl rfl ?_
        refine go_iconst (v := 1) dX12_centuries_34 (by decide) ?_
        refine go_ialdK (k := 1) dX12_centuries_35 sh_274 (vp_in_dec (by decide)) (by decide) ?_
        refine go_if_ne 41 dX12_centuries_36 rfl ⟨fun hc => ?_, fun hc => ?_⟩
        · have hF := hF.1 hc
          refine go_aload_n dX12_centuries_41 rfl ?_
          refine go_callV mX12_keep dX12_centuries_42 lm_X12_314 okX12_keep isX12_keep sh_273 rfl (As := []) (S := []) rfl rfl (Nat.le_of_ble_eq_true rfl) hF (k_v (fun m1 hF => ?_))
          refine go_aload_n dX12_centuries_45 rfl ?_
          refine go_getR (k := 0) (r := 274) dX12_centuries_46 sh_273 rfl inX12 (Nat.le_of_ble_eq_true rfl) lf_X12_7 rfl rfl ?_
          refine go_bipush (v := 12) dX12_centuries_49 (by decide) ?_
          refine go_iload_n dX12_centuries_51 rfl ?_
          refine go_iconst (v := 2) dX12_centuries_52 (by decide) ?_
          refine go_imul dX12_centuries_53 ?_
          refine go_bipush (v := 101) dX12_centuries_54 (by decide) ?_
          refine go_iadd dX12_centuries_56 ?_
          refine go_iastK (k := 12) dX12_centuries_57 sh_274 (vp_in_dec (by decide)) (by decide) ?_
          obtain ⟨m2, em2⟩ : ∃ z : Mem, z = wI m1 274 12 ((a0 * 2) + 101) := ⟨_, rfl⟩
          rw [← em2]
          have hF := hF m2 em2
          refine go_iconst (v := 0) dX12_centuries_58 (by decide) ?_
          refine go_istore_n (L' := [.ref (ga G 273), .int a0, .int a1, .int 0, uu]) dX12_centuries_59 (Nat.le_of_ble_eq_true rfl) rfl ?_
          exact hF
        · have hF := hF.2 hc
          refine go_iconst (v := -1) dX12_centuries_39 (by decide) ?_
          exact go_iret (S := []) dX12_centuries_40 rfl ⟨_, rfl, hF⟩
    · have hF := hF.2 hp
      refine go_callS mX12_isIn dX12_centuries_15 lm_X12_80 okX12_isIn isX12_isIn (As := [.int a1, .int 1, .int 40]) (S := []) rfl rfl (Nat.le_of_ble_eq_true rfl) (eX12_isIn G _ a1 1 40 m (fun r m' => r = 0 ∧ m = m') ⟨fun q => absurd q hp, fun _ => ⟨rfl, rfl⟩⟩) (k_i (fun r m' hr => ?_))
      obtain ⟨hr1, hr2⟩ := hr
      subst hr1
      subst hr2
      refine go_if_eq 39 dX12_centuries_18 rfl ⟨fun _ => ?_, fun hc => absurd hc (by decide)⟩
      refine go_iconst (v := -1) dX12_centuries_39 (by decide) ?_
      exact go_iret (S := []) dX12_centuries_40 rfl ⟨_, rfl, hF⟩
  · have hF := hF.2 hp
    refine go_callS mX12_isIn dX12_centuries_5 lm_X12_80 okX12_isIn isX12_isIn (As := [.int a0, .int 0, .int 9999]) (S := []) rfl rfl (Nat.le_of_ble_eq_true rfl) (eX12_isIn G _ a0 0 9999 m (fun r m' => r = 0 ∧ m = m') ⟨fun q => absurd q hp, fun _ => ⟨rfl, rfl⟩⟩) (k_i (fun r m' hr => ?_))
    obtain ⟨hr1, hr2⟩ := hr
    subst hr1
    subst hr2
    refine go_if_eq 39 dX12_centuries_8 rfl ⟨fun _ => ?_, fun hc => absurd hc (by decide)⟩
    refine go_iconst (v := -1) dX12_centuries_39 (by decide) ?_
    exact go_iret (S := []) dX12_centuries_40 rfl ⟨_, rfl, hF⟩
theorem vX12_centuries_60 (G : GP) (d : Nat) (u1 : Value) (l2 : Int32) (l3 : Int32) (u4 : Value) (m : Mem) (K : Int32 → Mem → Prop) (hF : ((l2 ≤ l3) → K (m.1 274 10) m) ∧ ((¬ l2 ≤ l3) → ∀ x3 : Int32, x3 = m.1 274 12 → Evv G (d + 9) mX12_anew [.ref (ga G 273)] m (fun m4 => Evv G (d + 9) mX12_happens [.ref (ga G 273), .int x3] m4 (fun m5 => ∀ x6 : Int32, x6 = l3 + 1 → Gw G (d + 10) mX12_centuries 60 [.ref (ga G 273), uu, .int l2, .int x6, .int x3] [] m5 (Qi K))))) : Gw G (d + 10) mX12_centuries 60 [.ref (ga G 273), u1, .int l2, .int l3, u4] [] m (Qi K) := by
  refine Gw.weak (L' := [.ref (ga G 273), uu, .int l2, .int l3, uu]) ⟨Or.inl rfl, Or.inr rfl, Or.inl rfl, Or.inl rfl, Or.inr rfl, trivial⟩ ?_
  refine go_iload_n dX12_centuries_60 rfl ?_
  refine go_iload_n dX12_centuries_61 rfl ?_
  refine go_icmp_ge 90 dX12_centuries_62 rfl ⟨fun hc => ?_, fun hc => ?_⟩
  · have hF := hF.1 hc
    refine go_aload_n dX12_centuries_90 rfl ?_
    refine go_getR (k := 0) (r := 274) dX12_centuries_91 sh_273 rfl inX12 (Nat.le_of_ble_eq_true rfl) lf_X12_7 rfl rfl ?_
    refine go_bipush (v := 10) dX12_centuries_94 (by decide) ?_
    refine go_ialdK (k := 10) dX12_centuries_96 sh_274 (vp_in_dec (by decide)) (by decide) ?_
    exact go_iret (S := []) dX12_centuries_97 rfl ⟨_, rfl, hF⟩
  · have hF := hF.2 hc
    refine go_aload_n dX12_centuries_65 rfl ?_
    refine go_getR (k := 0) (r := 274) dX12_centuries_66 sh_273 rfl inX12 (Nat.le_of_ble_eq_true rfl) lf_X12_7 rfl rfl ?_
    refine go_bipush (v := 12) dX12_centuries_69 (by decide) ?_
    refine go_ialdK (k := 12) dX12_centuries_71 sh_274 (vp_in_dec (by decide)) (by decide) ?_
    refine Gw.namei (fun x3 ex3 => ?_)
    have hF := hF x3 ex3
    refine go_istore (L' := [.ref (ga G 273), uu, .int l2, .int l3, .int x3]) dX12_centuries_72 (Nat.le_of_ble_eq_true rfl) rfl ?_
    refine go_aload_n dX12_centuries_74 rfl ?_
    refine go_callV mX12_anew dX12_centuries_75 lm_X12_335 okX12_anew isX12_anew sh_273 rfl (As := []) (S := []) rfl rfl (Nat.le_of_ble_eq_true rfl) hF (k_v (fun m4 hF => ?_))
    refine go_aload_n dX12_centuries_78 rfl ?_
    refine go_iload dX12_centuries_79 rfl ?_
    refine go_callV mX12_happens dX12_centuries_81 lm_X12_385 okX12_happens isX12_happens sh_273 rfl (As := [.int x3]) (S := []) rfl rfl (Nat.le_of_ble_eq_true rfl) hF (k_v (fun m5 hF => ?_))
    obtain ⟨x6, ex6⟩ : ∃ z : Int32, z = l3 + 1 := ⟨_, rfl⟩
    have hF := hF x6 ex6
    refine go_iinc (v := x6) (L' := [.ref (ga G 273), uu, .int l2, .int x6, .int x3]) dX12_centuries_84 rfl (by rw [ex6]; rfl) (Nat.le_of_ble_eq_true rfl) rfl ?_
    refine go_goto 60 dX12_centuries_87 rfl ?_
    exact hF
theorem vX12_ofBell (G : GP) (d : Nat) (a0 : Int32) (a1 : Int32) (m : Mem) (K : Int32 → Mem → Prop) (hF : ((0 ≤ a0 ∧ a0 ≤ m.1 274 0 - 1) → ((0 ≤ a1 ∧ a1 ≤ 3) → ((3 ≤ a1) → Evi G (d + 4) mX12_isOver [.ref (ga G 273), .int a0, .int (m.1 274 8), .int (m.1 274 14)] m (fun r2 m1 => ((r2 = 0) → K 0 m1) ∧ ((¬ r2 = 0) → K 1 m1))) ∧ ((¬ 3 ≤ a1) → vp_in (((16 : Int32) + ((3 : Int32) * a0)) + a1) 5968 ∧ K (m.1 274 (((16 : Int32) + ((3 : Int32) * a0)) + a1).toNatClampNeg) m)) ∧ (¬ (0 ≤ a1 ∧ a1 ≤ 3) → K (-1) m)) ∧ (¬ (0 ≤ a0 ∧ a0 ≤ m.1 274 0 - 1) → K (-1) m)) : Evi G (d + 5) mX12_ofBell [.ref (ga G 273), .int a0, .int a1] m K := by
  refine Ev.go [.ref (ga G 273), .int a0, .int a1] (by decide) (Nat.le_of_ble_eq_true rfl) rfl ?_
  refine go_aload_n dX12_ofBell_0 rfl ?_
  refine go_iload_n dX12_ofBell_1 rfl ?_
  rcases Classical.em (0 ≤ a0 ∧ a0 ≤ m.1 274 0 - 1) with hp | hp
  · have hF := hF.1 hp
    refine go_callV mX12_isBell dX12_ofBell_2 lm_X12_88 okX12_isBell isX12_isBell sh_273 rfl (As := [.int a0]) (S := []) rfl rfl (Nat.le_of_ble_eq_true rfl) (eX12_isBell G _ a0 m (fun r m' => r = 1 ∧ m = m') ⟨fun _ => ⟨rfl, rfl⟩, fun q => absurd hp q⟩) (k_i (fun r m' hr => ?_))
    obtain ⟨hr1, hr2⟩ := hr
    subst hr1
    subst hr2
    refine go_if_eq 17 dX12_ofBell_5 rfl ⟨fun hc => absurd hc (by decide), fun _ => ?_⟩
    refine go_iload_n dX12_ofBell_8 rfl ?_
    refine go_iconst (v := 0) dX12_ofBell_9 (by decide) ?_
    refine go_iconst (v := 3) dX12_ofBell_10 (by decide) ?_
    rcases Classical.em (0 ≤ a1 ∧ a1 ≤ 3) with hp | hp
    · have hF := hF.1 hp
      refine go_callS mX12_isIn dX12_ofBell_11 lm_X12_80 okX12_isIn isX12_isIn (As := [.int a1, .int 0, .int 3]) (S := []) rfl rfl (Nat.le_of_ble_eq_true rfl) (eX12_isIn G _ a1 0 3 m (fun r m' => r = 1 ∧ m = m') ⟨fun _ => ⟨rfl, rfl⟩, fun q => absurd hp q⟩) (k_i (fun r m' hr => ?_))
      obtain ⟨hr1, hr2⟩ := hr
      subst hr1
      subst hr2
      refine go_if_ne 19 dX12_ofBell_14 rfl ⟨fun _ => ?_, fun hc => absurd hc (by decide)⟩
      refine go_iload_n dX12_ofBell_19 rfl ?_
      refine go_iconst (v := 3) dX12_ofBell_20 (by decide) ?_
      refine go_icmp_ge 40 dX12_ofBell_21 rfl ⟨fun hc => ?_, fun hc => ?_⟩
      · have hF := hF.1 hc
        refine go_aload_n dX12_ofBell_40 rfl ?_
        refine go_iload_n dX12_ofBell_41 rfl ?_
        refine go_aload_n dX12_ofBell_42 rfl ?_
        refine go_getR (k := 0) (r := 274) dX12_ofBell_43 sh_273 rfl inX12 (Nat.le_of_ble_eq_true rfl) lf_X12_7 rfl rfl ?_
        refine go_bipush (v := 8) dX12_ofBell_46 (by decide) ?_
        refine go_ialdK (k := 8) dX12_ofBell_48 sh_274 (vp_in_dec (by decide)) (by decide) ?_
        refine go_aload_n dX12_ofBell_49 rfl ?_
        refine go_getR (k := 0) (r := 274) dX12_ofBell_50 sh_273 rfl inX12 (Nat.le_of_ble_eq_true rfl) lf_X12_7 rfl rfl ?_
        refine go_bipush (v := 14) dX12_ofBell_53 (by decide) ?_
        refine go_ialdK (k := 14) dX12_ofBell_55 sh_274 (vp_in_dec (by decide)) (by decide) ?_
        refine go_callV mX12_isOver dX12_ofBell_56 lm_X12_308 okX12_isOver isX12_isOver sh_273 rfl (As := [.int a0, .int (m.1 274 8), .int (m.1 274 14)]) (S := []) rfl rfl (Nat.le_of_ble_eq_true rfl) hF (k_i (fun r2 m1 hF => ?_))
        refine go_if_eq 66 dX12_ofBell_59 rfl ⟨fun hc => ?_, fun hc => ?_⟩
        · have hF := hF.1 hc
          refine go_iconst (v := 0) dX12_ofBell_66 (by decide) ?_
          exact go_iret (S := []) dX12_ofBell_67 rfl ⟨_, rfl, hF⟩
        · have hF := hF.2 hc
          refine go_iconst (v := 1) dX12_ofBell_62 (by decide) ?_
          refine go_goto 67 dX12_ofBell_63 rfl ?_
          exact go_iret (S := []) dX12_ofBell_67 rfl ⟨_, rfl, hF⟩
      · have hF := hF.2 hc
        refine go_aload_n dX12_ofBell_24 rfl ?_
        refine go_getR (k := 0) (r := 274) dX12_ofBell_25 sh_273 rfl inX12 (Nat.le_of_ble_eq_true rfl) lf_X12_7 rfl rfl ?_
        refine go_bipush (v := 16) dX12_ofBell_28 (by decide) ?_
        refine go_iconst (v := 3) dX12_ofBell_30 (by decide) ?_
        refine go_iload_n dX12_ofBell_31 rfl ?_
        refine go_imul dX12_ofBell_32 ?_
        refine go_iadd dX12_ofBell_33 ?_
        refine go_iload_n dX12_ofBell_34 rfl ?_
        refine go_iadd dX12_ofBell_35 ?_
        obtain ⟨hi, hF⟩ := hF
        refine go_iald dX12_ofBell_36 sh_274 hi ?_
        refine go_goto 67 dX12_ofBell_37 rfl ?_
        exact go_iret (S := []) dX12_ofBell_67 rfl ⟨_, rfl, hF⟩
    · have hF := hF.2 hp
      refine go_callS mX12_isIn dX12_ofBell_11 lm_X12_80 okX12_isIn isX12_isIn (As := [.int a1, .int 0, .int 3]) (S := []) rfl rfl (Nat.le_of_ble_eq_true rfl) (eX12_isIn G _ a1 0 3 m (fun r m' => r = 0 ∧ m = m') ⟨fun q => absurd q hp, fun _ => ⟨rfl, rfl⟩⟩) (k_i (fun r m' hr => ?_))
      obtain ⟨hr1, hr2⟩ := hr
      subst hr1
      subst hr2
      refine go_if_ne 19 dX12_ofBell_14 rfl ⟨fun hc => absurd hc (by decide), fun _ => ?_⟩
      refine go_iconst (v := -1) dX12_ofBell_17 (by decide) ?_
      exact go_iret (S := []) dX12_ofBell_18 rfl ⟨_, rfl, hF⟩
  · have hF := hF.2 hp
    refine go_callV mX12_isBell dX12_ofBell_2 lm_X12_88 okX12_isBell isX12_isBell sh_273 rfl (As := [.int a0]) (S := []) rfl rfl (Nat.le_of_ble_eq_true rfl) (eX12_isBell G _ a0 m (fun r m' => r = 0 ∧ m = m') ⟨fun q => absurd q hp, fun _ => ⟨rfl, rfl⟩⟩) (k_i (fun r m' hr => ?_))
    obtain ⟨hr1, hr2⟩ := hr
    subst hr1
    subst hr2
    refine go_if_eq 17 dX12_ofBell_5 rfl ⟨fun _ => ?_, fun hc => absurd hc (by decide)⟩
    refine go_iconst (v := -1) dX12_ofBell_17 (by decide) ?_
    exact go_iret (S := []) dX12_ofBell_18 rfl ⟨_, rfl, hF⟩
theorem vX12_ofWord (G : GP) (d : Nat) (a0 : Int32) (a1 : Int32) (m : Mem) (K : Int32 → Mem → Prop) (hF : ((0 ≤ a0 ∧ a0 ≤ m.1 274 1 - 1) → ((0 ≤ a1 ∧ a1 ≤ 7) → ((3 ≤ a1) → ((¬ a1 = 3) → vp_in (((34 : Int32) + (9 : Int32) * a0) + ((3 : Int32) + (a1 - 4))) 5968 ∧ K (m.1 274 (((34 : Int32) + (9 : Int32) * a0) + ((3 : Int32) + (a1 - 4))).toNatClampNeg) m) ∧ ((a1 = 3) → Evi G (d + 2) mX12_needed [.ref (ga G 273), .int a0] m (fun r2 m1 => K r2 m1))) ∧ ((¬ 3 ≤ a1) → vp_in (((34 : Int32) + (9 : Int32) * a0) + a1) 5968 ∧ K (m.1 274 (((34 : Int32) + (9 : Int32) * a0) + a1).toNatClampNeg) m)) ∧ (¬ (0 ≤ a1 ∧ a1 ≤ 7) → K (-2) m)) ∧ (¬ (0 ≤ a0 ∧ a0 ≤ m.1 274 1 - 1) → K (-2) m)) : Evi G (d + 3) mX12_ofWord [.ref (ga G 273), .int a0, .int a1] m K := by
  refine Ev.go [.ref (ga G 273), .int a0, .int a1] (by decide) (Nat.le_of_ble_eq_true rfl) rfl ?_
  refine go_aload_n dX12_ofWord_0 rfl ?_
  refine go_iload_n dX12_ofWord_1 rfl ?_
  rcases Classical.em (0 ≤ a0 ∧ a0 ≤ m.1 274 1 - 1) with hp | hp
  · have hF := hF.1 hp
    refine go_callV mX12_isWord0 dX12_ofWord_2 lm_X12_326 okX12_isWord0 isX12_isWord0 sh_273 rfl (As := [.int a0]) (S := []) rfl rfl (Nat.le_of_ble_eq_true rfl) (eX12_isWord0 G _ a0 m (fun r m' => r = 1 ∧ m = m') ⟨fun _ => ⟨rfl, rfl⟩, fun q => absurd hp q⟩) (k_i (fun r m' hr => ?_))
    obtain ⟨hr1, hr2⟩ := hr
    subst hr1
    subst hr2
    refine go_if_eq 18 dX12_ofWord_5 rfl ⟨fun hc => absurd hc (by decide), fun _ => ?_⟩
    refine go_iload_n dX12_ofWord_8 rfl ?_
    refine go_iconst (v := 0) dX12_ofWord_9 (by decide) ?_
    refine go_bipush (v := 7) dX12_ofWord_10 (by decide) ?_
    rcases Classical.em (0 ≤ a1 ∧ a1 ≤ 7) with hp | hp
    · have hF := hF.1 hp
      refine go_callS mX12_isIn dX12_ofWord_12 lm_X12_80 okX12_isIn isX12_isIn (As := [.int a1, .int 0, .int 7]) (S := []) rfl rfl (Nat.le_of_ble_eq_true rfl) (eX12_isIn G _ a1 0 7 m (fun r m' => r = 1 ∧ m = m') ⟨fun _ => ⟨rfl, rfl⟩, fun q => absurd hp q⟩) (k_i (fun r m' hr => ?_))
      obtain ⟨hr1, hr2⟩ := hr
      subst hr1
      subst hr2
      refine go_if_ne 21 dX12_ofWord_15 rfl ⟨fun _ => ?_, fun hc => absurd hc (by decide)⟩
      refine go_iload_n dX12_ofWord_21 rfl ?_
      refine go_iconst (v := 3) dX12_ofWord_22 (by decide) ?_
      refine go_icmp_ge 35 dX12_ofWord_23 rfl ⟨fun hc => ?_, fun hc => ?_⟩
      · have hF := hF.1 hc
        refine go_iload_n dX12_ofWord_35 rfl ?_
        refine go_iconst (v := 3) dX12_ofWord_36 (by decide) ?_
        refine go_icmp_ne 48 dX12_ofWord_37 rfl ⟨fun hc => ?_, fun hc => ?_⟩
        · have hF := hF.1 hc
          refine go_aload_n dX12_ofWord_48 rfl ?_
          refine go_iload_n dX12_ofWord_49 rfl ?_
          refine go_iload_n dX12_ofWord_50 rfl ?_
          refine go_iconst (v := 4) dX12_ofWord_51 (by decide) ?_
          refine go_isub dX12_ofWord_52 ?_
          obtain ⟨ho, hF⟩ := hF
          refine go_callV mX12_strokeOf dX12_ofWord_53 lm_X12_320 okX12_strokeOf isX12_strokeOf sh_273 rfl (As := [.int a0, .int (a1 - 4)]) (S := []) rfl rfl (Nat.le_of_ble_eq_true rfl) (eX12_strokeOf G _ a0 (a1 - 4) m (fun r m' => r = m.1 274 (((34 : Int32) + (9 : Int32) * a0) + ((3 : Int32) + (a1 - 4))).toNatClampNeg ∧ m = m') ho ⟨rfl, rfl⟩) (k_i (fun r m' hr => ?_))
          obtain ⟨hr1, hr2⟩ := hr
          subst hr1
          subst hr2
          exact go_iret (S := []) dX12_ofWord_56 rfl ⟨_, rfl, hF⟩
        · have hF := hF.2 hc
          refine go_aload_n dX12_ofWord_40 rfl ?_
          refine go_iload_n dX12_ofWord_41 rfl ?_
          refine go_callV mX12_needed dX12_ofWord_42 lm_X12_323 okX12_needed isX12_needed sh_273 rfl (As := [.int a0]) (S := []) rfl rfl (Nat.le_of_ble_eq_true rfl) hF (k_i (fun r2 m1 hF => ?_))
          refine go_goto 56 dX12_ofWord_45 rfl ?_
          exact go_iret (S := []) dX12_ofWord_56 rfl ⟨_, rfl, hF⟩
      · have hF := hF.2 hc
        refine go_aload_n dX12_ofWord_26 rfl ?_
        refine go_iload_n dX12_ofWord_27 rfl ?_
        refine go_iload_n dX12_ofWord_28 rfl ?_
        obtain ⟨ho, hF⟩ := hF
        refine go_callV mX12_of dX12_ofWord_29 lm_X12_84 okX12_of isX12_of sh_273 rfl (As := [.int a0, .int a1]) (S := []) rfl rfl (Nat.le_of_ble_eq_true rfl) (eX12_of G _ a0 a1 m (fun r m' => r = m.1 274 (((34 : Int32) + (9 : Int32) * a0) + a1).toNatClampNeg ∧ m = m') ho ⟨rfl, rfl⟩) (k_i (fun r m' hr => ?_))
        obtain ⟨hr1, hr2⟩ := hr
        subst hr1
        subst hr2
        refine go_goto 56 dX12_ofWord_32 rfl ?_
        exact go_iret (S := []) dX12_ofWord_56 rfl ⟨_, rfl, hF⟩
    · have hF := hF.2 hp
      refine go_callS mX12_isIn dX12_ofWord_12 lm_X12_80 okX12_isIn isX12_isIn (As := [.int a1, .int 0, .int 7]) (S := []) rfl rfl (Nat.le_of_ble_eq_true rfl) (eX12_isIn G _ a1 0 7 m (fun r m' => r = 0 ∧ m = m') ⟨fun q => absurd q hp, fun _ => ⟨rfl, rfl⟩⟩) (k_i (fun r m' hr => ?_))
      obtain ⟨hr1, hr2⟩ := hr
      subst hr1
      subst hr2
      refine go_if_ne 21 dX12_ofWord_15 rfl ⟨fun hc => absurd hc (by decide), fun _ => ?_⟩
      refine go_bipush (v := -2) dX12_ofWord_18 (by decide) ?_
      exact go_iret (S := []) dX12_ofWord_20 rfl ⟨_, rfl, hF⟩
  · have hF := hF.2 hp
    refine go_callV mX12_isWord0 dX12_ofWord_2 lm_X12_326 okX12_isWord0 isX12_isWord0 sh_273 rfl (As := [.int a0]) (S := []) rfl rfl (Nat.le_of_ble_eq_true rfl) (eX12_isWord0 G _ a0 m (fun r m' => r = 0 ∧ m = m') ⟨fun q => absurd q hp, fun _ => ⟨rfl, rfl⟩⟩) (k_i (fun r m' hr => ?_))
    obtain ⟨hr1, hr2⟩ := hr
    subst hr1
    subst hr2
    refine go_if_eq 18 dX12_ofWord_5 rfl ⟨fun _ => ?_, fun hc => absurd hc (by decide)⟩
    refine go_bipush (v := -2) dX12_ofWord_18 (by decide) ?_
    exact go_iret (S := []) dX12_ofWord_20 rfl ⟨_, rfl, hF⟩
theorem vX12_is (G : GP) (d : Nat) (a0 : Int32) (m : Mem) (K : Int32 → Mem → Prop) (hF : ((0 ≤ a0 ∧ a0 ≤ 4) → vp_in ((8 : Int32) + a0) 5968 ∧ K (m.1 274 ((8 : Int32) + a0).toNatClampNeg) m) ∧ (¬ (0 ≤ a0 ∧ a0 ≤ 4) → K (-2) m)) : Evi G (d + 1) mX12_is [.ref (ga G 273), .int a0] m K := by
  refine Ev.go [.ref (ga G 273), .int a0] (by decide) (Nat.le_of_ble_eq_true rfl) rfl ?_
  refine go_iload_n dX12_is_0 rfl ?_
  refine go_iconst (v := 0) dX12_is_1 (by decide) ?_
  refine go_iconst (v := 4) dX12_is_2 (by decide) ?_
  rcases Classical.em (0 ≤ a0 ∧ a0 ≤ 4) with hp | hp
  · have hF := hF.1 hp
    refine go_callS mX12_isIn dX12_is_3 lm_X12_80 okX12_isIn isX12_isIn (As := [.int a0, .int 0, .int 4]) (S := []) rfl rfl (Nat.le_of_ble_eq_true rfl) (eX12_isIn G _ a0 0 4 m (fun r m' => r = 1 ∧ m = m') ⟨fun _ => ⟨rfl, rfl⟩, fun q => absurd hp q⟩) (k_i (fun r m' hr => ?_))
    obtain ⟨hr1, hr2⟩ := hr
    subst hr1
    subst hr2
    refine go_if_eq 21 dX12_is_6 rfl ⟨fun hc => absurd hc (by decide), fun _ => ?_⟩
    refine go_aload_n dX12_is_9 rfl ?_
    refine go_getR (k := 0) (r := 274) dX12_is_10 sh_273 rfl inX12 (Nat.le_of_ble_eq_true rfl) lf_X12_7 rfl rfl ?_
    refine go_bipush (v := 8) dX12_is_13 (by decide) ?_
    refine go_iload_n dX12_is_15 rfl ?_
    refine go_iadd dX12_is_16 ?_
    obtain ⟨hi, hF⟩ := hF
    refine go_iald dX12_is_17 sh_274 hi ?_
    refine go_goto 23 dX12_is_18 rfl ?_
    exact go_iret (S := []) dX12_is_23 rfl ⟨_, rfl, hF⟩
  · have hF := hF.2 hp
    refine go_callS mX12_isIn dX12_is_3 lm_X12_80 okX12_isIn isX12_isIn (As := [.int a0, .int 0, .int 4]) (S := []) rfl rfl (Nat.le_of_ble_eq_true rfl) (eX12_isIn G _ a0 0 4 m (fun r m' => r = 0 ∧ m = m') ⟨fun q => absurd q hp, fun _ => ⟨rfl, rfl⟩⟩) (k_i (fun r m' hr => ?_))
    obtain ⟨hr1, hr2⟩ := hr
    subst hr1
    subst hr2
    refine go_if_eq 21 dX12_is_6 rfl ⟨fun _ => ?_, fun hc => absurd hc (by decide)⟩
    refine go_bipush (v := -2) dX12_is_21 (by decide) ?_
    exact go_iret (S := []) dX12_is_23 rfl ⟨_, rfl, hF⟩
theorem vX12_rung (G : GP) (d : Nat) (a0 : Int32) (m : Mem) (K : Int32 → Mem → Prop) (hF : ((¬ a0 = (-1)) → ((0 ≤ a0 ∧ a0 ≤ ((m.1 274 14) - 1)) → vp_in ((164 : Int32) + a0) 5968 ∧ K (m.1 274 ((164 : Int32) + a0).toNatClampNeg) m) ∧ (¬ (0 ≤ a0 ∧ a0 ≤ ((m.1 274 14) - 1)) → K (-2) m)) ∧ ((a0 = (-1)) → K (m.1 274 14) m)) : Evi G (d + 1) mX12_rung [.ref (ga G 273), .int a0] m K := by
  refine Ev.go [.ref (ga G 273), .int a0] (by decide) (Nat.le_of_ble_eq_true rfl) rfl ?_
  refine go_iload_n dX12_rung_0 rfl ?_
  refine go_iconst (v := -1) dX12_rung_1 (by decide) ?_
  refine go_icmp_ne 15 dX12_rung_2 rfl ⟨fun hc => ?_, fun hc => ?_⟩
  · have hF := hF.1 hc
    refine go_iload_n dX12_rung_15 rfl ?_
    refine go_iconst (v := 0) dX12_rung_16 (by decide) ?_
    refine go_aload_n dX12_rung_17 rfl ?_
    refine go_getR (k := 0) (r := 274) dX12_rung_18 sh_273 rfl inX12 (Nat.le_of_ble_eq_true rfl) lf_X12_7 rfl rfl ?_
    refine go_bipush (v := 14) dX12_rung_21 (by decide) ?_
    refine go_ialdK (k := 14) dX12_rung_23 sh_274 (vp_in_dec (by decide)) (by decide) ?_
    refine go_iconst (v := 1) dX12_rung_24 (by decide) ?_
    refine go_isub dX12_rung_25 ?_
    rcases Classical.em (0 ≤ a0 ∧ a0 ≤ ((m.1 274 14) - 1)) with hp | hp
    · have hF := hF.1 hp
      refine go_callS mX12_isIn dX12_rung_26 lm_X12_80 okX12_isIn isX12_isIn (As := [.int a0, .int 0, .int ((m.1 274 14) - 1)]) (S := []) rfl rfl (Nat.le_of_ble_eq_true rfl) (eX12_isIn G _ a0 0 ((m.1 274 14) - 1) m (fun r m' => r = 1 ∧ m = m') ⟨fun _ => ⟨rfl, rfl⟩, fun q => absurd hp q⟩) (k_i (fun r m' hr => ?_))
      obtain ⟨hr1, hr2⟩ := hr
      subst hr1
      subst hr2
      refine go_if_eq 45 dX12_rung_29 rfl ⟨fun hc => absurd hc (by decide), fun _ => ?_⟩
      refine go_aload_n dX12_rung_32 rfl ?_
      refine go_getR (k := 0) (r := 274) dX12_rung_33 sh_273 rfl inX12 (Nat.le_of_ble_eq_true rfl) lf_X12_7 rfl rfl ?_
      refine go_sipush (v := 164) dX12_rung_36 (by decide) ?_
      refine go_iload_n dX12_rung_39 rfl ?_
      refine go_iadd dX12_rung_40 ?_
      obtain ⟨hi, hF⟩ := hF
      refine go_iald dX12_rung_41 sh_274 hi ?_
      refine go_goto 47 dX12_rung_42 rfl ?_
      exact go_iret (S := []) dX12_rung_47 rfl ⟨_, rfl, hF⟩
    · have hF := hF.2 hp
      refine go_callS mX12_isIn dX12_rung_26 lm_X12_80 okX12_isIn isX12_isIn (As := [.int a0, .int 0, .int ((m.1 274 14) - 1)]) (S := []) rfl rfl (Nat.le_of_ble_eq_true rfl) (eX12_isIn G _ a0 0 ((m.1 274 14) - 1) m (fun r m' => r = 0 ∧ m = m') ⟨fun q => absurd q hp, fun _ => ⟨rfl, rfl⟩⟩) (k_i (fun r m' hr => ?_))
      obtain ⟨hr1, hr2⟩ := hr
      subst hr1
      subst hr2
      refine go_if_eq 45 dX12_rung_29 rfl ⟨fun _ => ?_, fun hc => absurd hc (by decide)⟩
      refine go_bipush (v := -2) dX12_rung_45 (by decide) ?_
      exact go_iret (S := []) dX12_rung_47 rfl ⟨_, rfl, hF⟩
  · have hF := hF.2 hc
    refine go_aload_n dX12_rung_5 rfl ?_
    refine go_getR (k := 0) (r := 274) dX12_rung_6 sh_273 rfl inX12 (Nat.le_of_ble_eq_true rfl) lf_X12_7 rfl rfl ?_
    refine go_bipush (v := 14) dX12_rung_9 (by decide) ?_
    refine go_ialdK (k := 14) dX12_rung_11 sh_274 (vp_in_dec (by decide)) (by decide) ?_
    refine go_goto 47 dX12_rung_12 rfl ?_
    exact go_iret (S := []) dX12_rung_47 rfl ⟨_, rfl, hF⟩
theorem vX12_layHeard (G : GP) (d : Nat)  (m : Mem) (K : Int32 → Mem → Prop) (hF : Gw G (d) mX12_layHeard 4 [.ref (ga G 273), .int 0, .int 0] [] m (Qi K)) : Evi G (d) mX12_layHeard [.ref (ga G 273)] m K := by
  refine Ev.go [.ref (ga G 273), uu, uu] (by decide) (Nat.le_of_ble_eq_true rfl) rfl ?_
  refine go_iconst (v := 0) dX12_layHeard_0 (by decide) ?_
  refine go_istore_n (L' := [.ref (ga G 273), .int 0, uu]) dX12_layHeard_1 (Nat.le_of_ble_eq_true rfl) rfl ?_
  refine go_iconst (v := 0) dX12_layHeard_2 (by decide) ?_
  refine go_istore_n (L' := [.ref (ga G 273), .int 0, .int 0]) dX12_layHeard_3 (Nat.le_of_ble_eq_true rfl) rfl ?_
  exact hF
theorem vX12_layHeard_4 (G : GP) (d : Nat) (l1 : Int32) (l2 : Int32) (m : Mem) (K : Int32 → Mem → Prop) (hF : (((m.1 274 14) ≤ l2) → K l1 m) ∧ ((¬ (m.1 274 14) ≤ l2) → vp_in ((164 : Int32) + l2) 5968 ∧ ((10 ≤ (m.1 274 ((164 : Int32) + l2).toNatClampNeg)) → vp_in ((164 : Int32) + l2) 5968 ∧ vp_in l1 24 ∧ ∀ m1 : Mem, m1 = wI m 283 l1.toNatClampNeg ((m.1 274 ((164 : Int32) + l2).toNatClampNeg) - 10) → ∀ x2 : Int32, x2 = l1 + 1 → ∀ x3 : Int32, x3 = l2 + 1 → Gw G (d) mX12_layHeard 4 [.ref (ga G 273), .int x2, .int x3] [] m1 (Qi K)) ∧ ((¬ 10 ≤ (m.1 274 ((164 : Int32) + l2).toNatClampNeg)) → ∀ x4 : Int32, x4 = l2 + 1 → Gw G (d) mX12_layHeard 4 [.ref (ga G 273), .int l1, .int x4] [] m (Qi K)))) : Gw G (d) mX12_layHeard 4 [.ref (ga G 273), .int l1, .int l2] [] m (Qi K) := by
  refine go_iload_n dX12_layHeard_4 rfl ?_
  refine go_aload_n dX12_layHeard_5 rfl ?_
  refine go_getR (k := 0) (r := 274) dX12_layHeard_6 sh_273 rfl inX12 (Nat.le_of_ble_eq_true rfl) lf_X12_7 rfl rfl ?_
  refine go_bipush (v := 14) dX12_layHeard_9 (by decide) ?_
  refine go_ialdK (k := 14) dX12_layHeard_11 sh_274 (vp_in_dec (by decide)) (by decide) ?_
  refine go_icmp_ge 61 dX12_layHeard_12 rfl ⟨fun hc => ?_, fun hc => ?_⟩
  · have hF := hF.1 hc
    refine go_iload_n dX12_layHeard_61 rfl ?_
    exact go_iret (S := []) dX12_layHeard_62 rfl ⟨_, rfl, hF⟩
  · have hF := hF.2 hc
    refine go_aload_n dX12_layHeard_15 rfl ?_
    refine go_getR (k := 0) (r := 274) dX12_layHeard_16 sh_273 rfl inX12 (Nat.le_of_ble_eq_true rfl) lf_X12_7 rfl rfl ?_
    refine go_sipush (v := 164) dX12_layHeard_19 (by decide) ?_
    refine go_iload_n dX12_layHeard_22 rfl ?_
    refine go_iadd dX12_layHeard_23 ?_
    obtain ⟨hi, hF⟩ := hF
    refine go_iald dX12_layHeard_24 sh_274 hi ?_
    refine go_bipush (v := 10) dX12_layHeard_25 (by decide) ?_
    refine go_icmp_ge 33 dX12_layHeard_27 rfl ⟨fun hc => ?_, fun hc => ?_⟩
    · have hF := hF.1 hc
      refine go_aload_n dX12_layHeard_33 rfl ?_
      refine go_getR (k := 24) (r := 283) dX12_layHeard_34 sh_273 rfl inX12 (Nat.le_of_ble_eq_true rfl) lf_X12_46 rfl rfl ?_
      refine go_iload_n dX12_layHeard_37 rfl ?_
      refine go_aload_n dX12_layHeard_38 rfl ?_
      refine go_getR (k := 0) (r := 274) dX12_layHeard_39 sh_273 rfl inX12 (Nat.le_of_ble_eq_true rfl) lf_X12_7 rfl rfl ?_
      refine go_sipush (v := 164) dX12_layHeard_42 (by decide) ?_
      refine go_iload_n dX12_layHeard_45 rfl ?_
      refine go_iadd dX12_layHeard_46 ?_
      obtain ⟨hi, hF⟩ := hF
      refine go_iald dX12_layHeard_47 sh_274 hi ?_
      refine go_bipush (v := 10) dX12_layHeard_48 (by decide) ?_
      refine go_isub dX12_layHeard_50 ?_
      obtain ⟨hi, hF⟩ := hF
      refine go_iast dX12_layHeard_51 sh_283 hi ?_
      obtain ⟨m1, em1⟩ : ∃ z : Mem, z = wI m 283 l1.toNatClampNeg ((m.1 274 ((164 : Int32) + l2).toNatClampNeg) - 10) := ⟨_, rfl⟩
      rw [← em1]
      have hF := hF m1 em1
      obtain ⟨x2, ex2⟩ : ∃ z : Int32, z = l1 + 1 := ⟨_, rfl⟩
      have hF := hF x2 ex2
      refine go_iinc (v := x2) (L' := [.ref (ga G 273), .int x2, .int l2]) dX12_layHeard_52 rfl (by rw [ex2]; rfl) (Nat.le_of_ble_eq_true rfl) rfl ?_
      obtain ⟨x3, ex3⟩ : ∃ z : Int32, z = l2 + 1 := ⟨_, rfl⟩
      have hF := hF x3 ex3
      refine go_iinc (v := x3) (L' := [.ref (ga G 273), .int x2, .int x3]) dX12_layHeard_55 rfl (by rw [ex3]; rfl) (Nat.le_of_ble_eq_true rfl) rfl ?_
      refine go_goto 4 dX12_layHeard_58 rfl ?_
      exact hF
    · have hF := hF.2 hc
      refine go_goto 55 dX12_layHeard_30 rfl ?_
      obtain ⟨x4, ex4⟩ : ∃ z : Int32, z = l2 + 1 := ⟨_, rfl⟩
      have hF := hF x4 ex4
      refine go_iinc (v := x4) (L' := [.ref (ga G 273), .int l1, .int x4]) dX12_layHeard_55 rfl (by rw [ex4]; rfl) (Nat.le_of_ble_eq_true rfl) rfl ?_
      refine go_goto 4 dX12_layHeard_58 rfl ?_
      exact hF
theorem vX12_heard (G : GP) (d : Nat) (a0 : Int32) (m : Mem) (K : Int32 → Mem → Prop) (hF : Evi G (d) mX12_layHeard [.ref (ga G 273)] m (fun r2 m1 => ((¬ a0 = (-1)) → ((0 ≤ a0 ∧ a0 ≤ (r2 - 1)) → vp_in a0 24 ∧ K (m1.1 283 a0.toNatClampNeg) m1) ∧ (¬ (0 ≤ a0 ∧ a0 ≤ (r2 - 1)) → K (-2) m1)) ∧ ((a0 = (-1)) → K r2 m1))) : Evi G (d + 1) mX12_heard [.ref (ga G 273), .int a0] m K := by
  refine Ev.go [.ref (ga G 273), .int a0, uu] (by decide) (Nat.le_of_ble_eq_true rfl) rfl ?_
  refine go_aload_n dX12_heard_0 rfl ?_
  refine go_callV mX12_layHeard dX12_heard_1 lm_X12_353 okX12_layHeard isX12_layHeard sh_273 rfl (As := []) (S := []) rfl rfl (Nat.le_of_ble_eq_true rfl) hF (k_i (fun r2 m1 hF => ?_))
  refine go_istore_n (L' := [.ref (ga G 273), .int a0, .int r2]) dX12_heard_4 (Nat.le_of_ble_eq_true rfl) rfl ?_
  refine go_iload_n dX12_heard_5 rfl ?_
  refine go_iconst (v := -1) dX12_heard_6 (by decide) ?_
  refine go_icmp_ne 14 dX12_heard_7 rfl ⟨fun hc => ?_, fun hc => ?_⟩
  · have hF := hF.1 hc
    refine go_iload_n dX12_heard_14 rfl ?_
    refine go_iconst (v := 0) dX12_heard_15 (by decide) ?_
    refine go_iload_n dX12_heard_16 rfl ?_
    refine go_iconst (v := 1) dX12_heard_17 (by decide) ?_
    refine go_isub dX12_heard_18 ?_
    rcases Classical.em (0 ≤ a0 ∧ a0 ≤ (r2 - 1)) with hp | hp
    · have hF := hF.1 hp
      refine go_callS mX12_isIn dX12_heard_19 lm_X12_80 okX12_isIn isX12_isIn (As := [.int a0, .int 0, .int (r2 - 1)]) (S := []) rfl rfl (Nat.le_of_ble_eq_true rfl) (eX12_isIn G _ a0 0 (r2 - 1) m1 (fun r m' => r = 1 ∧ m1 = m') ⟨fun _ => ⟨rfl, rfl⟩, fun q => absurd hp q⟩) (k_i (fun r m' hr => ?_))
      obtain ⟨hr1, hr2⟩ := hr
      subst hr1
      subst hr2
      refine go_if_eq 34 dX12_heard_22 rfl ⟨fun hc => absurd hc (by decide), fun _ => ?_⟩
      refine go_aload_n dX12_heard_25 rfl ?_
      refine go_getR (k := 24) (r := 283) dX12_heard_26 sh_273 rfl inX12 (Nat.le_of_ble_eq_true rfl) lf_X12_46 rfl rfl ?_
      refine go_iload_n dX12_heard_29 rfl ?_
      obtain ⟨hi, hF⟩ := hF
      refine go_iald dX12_heard_30 sh_283 hi ?_
      refine go_goto 36 dX12_heard_31 rfl ?_
      exact go_iret (S := []) dX12_heard_36 rfl ⟨_, rfl, hF⟩
    · have hF := hF.2 hp
      refine go_callS mX12_isIn dX12_heard_19 lm_X12_80 okX12_isIn isX12_isIn (As := [.int a0, .int 0, .int (r2 - 1)]) (S := []) rfl rfl (Nat.le_of_ble_eq_true rfl) (eX12_isIn G _ a0 0 (r2 - 1) m1 (fun r m' => r = 0 ∧ m1 = m') ⟨fun q => absurd q hp, fun _ => ⟨rfl, rfl⟩⟩) (k_i (fun r m' hr => ?_))
      obtain ⟨hr1, hr2⟩ := hr
      subst hr1
      subst hr2
      refine go_if_eq 34 dX12_heard_22 rfl ⟨fun _ => ?_, fun hc => absurd hc (by decide)⟩
      refine go_bipush (v := -2) dX12_heard_34 (by decide) ?_
      exact go_iret (S := []) dX12_heard_36 rfl ⟨_, rfl, hF⟩
  · have hF := hF.2 hc
    refine go_iload_n dX12_heard_10 rfl ?_
    refine go_goto 36 dX12_heard_11 rfl ?_
    exact go_iret (S := []) dX12_heard_36 rfl ⟨_, rfl, hF⟩
