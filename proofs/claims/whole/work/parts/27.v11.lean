theorem vX11_bell (G : GP) (d : Nat) (a0 : Int32) (a1 : Int32) (a2 : Int32) (m : Mem) (K : Int32 → Mem → Prop) (hF : Evi G (d + 1) mX2_addBell [.ref (ga G 2), .int a0, .int a1, .int a2] m (fun r2 m1 => K r2 m1)) : Evi G (d + 2) mX11_bell [.ref (ga G 0), .int a0, .int a1, .int a2] m K := by
  refine Ev.go [.ref (ga G 0), .int a0, .int a1, .int a2] (by decide) (Nat.le_of_ble_eq_true rfl) rfl ?_
  refine go_aload_n dX11_bell_0 rfl ?_
  refine go_getR (k := 0) (r := 1) dX11_bell_1 sh_0 rfl inX11 (Nat.le_of_ble_eq_true rfl) lf_X11_10 rfl rfl ?_
  refine go_getR (k := 0) (r := 2) dX11_bell_4 sh_1 rfl inX10 (Nat.le_of_ble_eq_true rfl) lf_X11_67 rfl rfl ?_
  refine go_iload_n dX11_bell_7 rfl ?_
  refine go_iload_n dX11_bell_8 rfl ?_
  refine go_iload_n dX11_bell_9 rfl ?_
  refine go_callV mX2_addBell dX11_bell_10 lm_X11_71 okX2_addBell isX2_addBell sh_2 rfl (As := [.int a0, .int a1, .int a2]) (S := []) rfl rfl (Nat.le_of_ble_eq_true rfl) hF (k_i (fun r2 m1 hF => ?_))
  exact go_iret (S := []) dX11_bell_13 rfl ⟨_, rfl, hF⟩
theorem vX11_word (G : GP) (d : Nat) (a0 : Int32) (a1 : Int32) (a2 : Int32) (a3 : Int32) (a4 : Int32) (a5 : Int32) (m : Mem) (K : Int32 → Mem → Prop) (hF : Evi G (d + 2) mX10_addWord [.ref (ga G 1), .int a0, .int a1, .int a2, .int a3, .int a4, .int a5] m (fun r2 m1 => K r2 m1)) : Evi G (d + 3) mX11_word [.ref (ga G 0), .int a0, .int a1, .int a2, .int a3, .int a4, .int a5] m K := by
  refine Ev.go [.ref (ga G 0), .int a0, .int a1, .int a2, .int a3, .int a4, .int a5] (by decide) (Nat.le_of_ble_eq_true rfl) rfl ?_
  refine go_aload_n dX11_word_0 rfl ?_
  refine go_getR (k := 0) (r := 1) dX11_word_1 sh_0 rfl inX11 (Nat.le_of_ble_eq_true rfl) lf_X11_10 rfl rfl ?_
  refine go_iload_n dX11_word_4 rfl ?_
  refine go_iload_n dX11_word_5 rfl ?_
  refine go_iload_n dX11_word_6 rfl ?_
  refine go_iload dX11_word_7 rfl ?_
  refine go_iload dX11_word_9 rfl ?_
  refine go_iload dX11_word_11 rfl ?_
  refine go_callV mX10_addWord dX11_word_13 lm_X11_77 okX10_addWord isX10_addWord sh_1 rfl (As := [.int a0, .int a1, .int a2, .int a3, .int a4, .int a5]) (S := []) rfl rfl (Nat.le_of_ble_eq_true rfl) hF (k_i (fun r2 m1 hF => ?_))
  exact go_iret (S := []) dX11_word_16 rfl ⟨_, rfl, hF⟩
theorem vX11_hands (G : GP) (d : Nat) (a0 : Int32) (m : Mem) (K : Int32 → Mem → Prop) (hF : ((0 ≤ a0 ∧ a0 ≤ 99) → ∀ m1 : Mem, m1 = wI m 1 4 a0 → K 1 m1) ∧ (¬ (0 ≤ a0 ∧ a0 ≤ 99) → K 0 m)) : Evi G (d + 1) mX11_hands [.ref (ga G 0), .int a0] m K := by
  refine Ev.go [.ref (ga G 0), .int a0] (by decide) (Nat.le_of_ble_eq_true rfl) rfl ?_
  refine go_iload_n dX11_hands_0 rfl ?_
  refine go_iconst (v := 0) dX11_hands_1 (by decide) ?_
  refine go_bipush (v := 99) dX11_hands_2 (by decide) ?_
  rcases Classical.em (0 ≤ a0 ∧ a0 ≤ 99) with hp | hp
  · have hF := hF.1 hp
    refine go_callS mX11_within dX11_hands_4 lm_X11_81 okX11_within isX11_within (As := [.int a0, .int 0, .int 99]) (S := []) rfl rfl (Nat.le_of_ble_eq_true rfl) (eX11_within G _ a0 0 99 m (fun r m' => r = 1 ∧ m = m') ⟨fun _ => ⟨rfl, rfl⟩, fun q => absurd hp q⟩) (k_i (fun r m' hr => ?_))
    obtain ⟨hr1, hr2⟩ := hr
    subst hr1
    subst hr2
    refine go_if_ne 12 dX11_hands_7 rfl ⟨fun _ => ?_, fun hc => absurd hc (by decide)⟩
    refine go_aload_n dX11_hands_12 rfl ?_
    refine go_getR (k := 0) (r := 1) dX11_hands_13 sh_0 rfl inX11 (Nat.le_of_ble_eq_true rfl) lf_X11_10 rfl rfl ?_
    refine go_iload_n dX11_hands_16 rfl ?_
    refine go_putI (k := 4) dX11_hands_17 sh_1 rfl inX10 (Nat.le_of_ble_eq_true rfl) lf_X11_85 tyX10 tyX10_ok nmX10 rfl rfl (by decide +kernel) ?_
    obtain ⟨m1, em1⟩ : ∃ z : Mem, z = wI m 1 4 a0 := ⟨_, rfl⟩
    rw [← em1]
    have hF := hF m1 em1
    refine go_iconst (v := 1) dX11_hands_20 (by decide) ?_
    exact go_zret (S := []) dX11_hands_21 rfl (by decide) ⟨_, rfl, hF⟩
  · have hF := hF.2 hp
    refine go_callS mX11_within dX11_hands_4 lm_X11_81 okX11_within isX11_within (As := [.int a0, .int 0, .int 99]) (S := []) rfl rfl (Nat.le_of_ble_eq_true rfl) (eX11_within G _ a0 0 99 m (fun r m' => r = 0 ∧ m = m') ⟨fun q => absurd q hp, fun _ => ⟨rfl, rfl⟩⟩) (k_i (fun r m' hr => ?_))
    obtain ⟨hr1, hr2⟩ := hr
    subst hr1
    subst hr2
    refine go_if_ne 12 dX11_hands_7 rfl ⟨fun hc => absurd hc (by decide), fun _ => ?_⟩
    refine go_iconst (v := 0) dX11_hands_10 (by decide) ?_
    exact go_zret (S := []) dX11_hands_11 rfl (by decide) ⟨_, rfl, hF⟩
theorem vX11_feed (G : GP) (d : Nat) (a0 : Int32) (a1 : Int32) (a2 : Int32) (a3 : Int32) (a4 : Int32) (m : Mem) (K : Int32 → Mem → Prop) (hF : ((((m.1 228 0) + 20) ≤ 300) → Evv G (d) mX7_append [.ref (ga G 228), .int a0] m (fun m1 => Evv G (d) mX7_append [.ref (ga G 228), .int a1] m1 (fun m2 => Evv G (d) mX7_append [.ref (ga G 228), .int a2] m2 (fun m3 => Evv G (d) mX7_append [.ref (ga G 228), .int a3] m3 (fun m4 => Evv G (d) mX7_append [.ref (ga G 228), .int a4] m4 (fun m5 => K (m5.1 228 0) m5)))))) ∧ ((¬ ((m.1 228 0) + 20) ≤ 300) → K (-1) m)) : Evi G (d + 1) mX11_feed [.ref (ga G 0), .int a0, .int a1, .int a2, .int a3, .int a4] m K := by
  refine Ev.go [.ref (ga G 0), .int a0, .int a1, .int a2, .int a3, .int a4] (by decide) (Nat.le_of_ble_eq_true rfl) rfl ?_
  refine go_aload_n dX11_feed_0 rfl ?_
  refine go_getR (k := 3) (r := 228) dX11_feed_1 sh_0 rfl inX11 (Nat.le_of_ble_eq_true rfl) lf_X11_28 rfl rfl ?_
  refine go_getI (k := 0) dX11_feed_4 sh_228 rfl inX7 (Nat.le_of_ble_eq_true rfl) lf_X11_89 rfl ?_
  refine go_bipush (v := 20) dX11_feed_7 (by decide) ?_
  refine go_iadd dX11_feed_9 ?_
  refine go_sipush (v := 300) dX11_feed_10 (by decide) ?_
  refine go_icmp_le 18 dX11_feed_13 rfl ⟨fun hc => ?_, fun hc => ?_⟩
  · have hF := hF.1 hc
    refine go_aload_n dX11_feed_18 rfl ?_
    refine go_getR (k := 3) (r := 228) dX11_feed_19 sh_0 rfl inX11 (Nat.le_of_ble_eq_true rfl) lf_X11_28 rfl rfl ?_
    refine go_iload_n dX11_feed_22 rfl ?_
    refine go_callV mX7_append dX11_feed_23 lm_X11_92 okX7_append isX7_append sh_228 rfl (As := [.int a0]) (S := []) rfl rfl (Nat.le_of_ble_eq_true rfl) hF (k_v (fun m1 hF => ?_))
    refine go_aload_n dX11_feed_26 rfl ?_
    refine go_getR (k := 3) (r := 228) dX11_feed_27 sh_0 rfl inX11 (Nat.le_of_ble_eq_true rfl) lf_X11_28 rfl rfl ?_
    refine go_iload_n dX11_feed_30 rfl ?_
    refine go_callV mX7_append dX11_feed_31 lm_X11_92 okX7_append isX7_append sh_228 rfl (As := [.int a1]) (S := []) rfl rfl (Nat.le_of_ble_eq_true rfl) hF (k_v (fun m2 hF => ?_))
    refine go_aload_n dX11_feed_34 rfl ?_
    refine go_getR (k := 3) (r := 228) dX11_feed_35 sh_0 rfl inX11 (Nat.le_of_ble_eq_true rfl) lf_X11_28 rfl rfl ?_
    refine go_iload_n dX11_feed_38 rfl ?_
    refine go_callV mX7_append dX11_feed_39 lm_X11_92 okX7_append isX7_append sh_228 rfl (As := [.int a2]) (S := []) rfl rfl (Nat.le_of_ble_eq_true rfl) hF (k_v (fun m3 hF => ?_))
    refine go_aload_n dX11_feed_42 rfl ?_
    refine go_getR (k := 3) (r := 228) dX11_feed_43 sh_0 rfl inX11 (Nat.le_of_ble_eq_true rfl) lf_X11_28 rfl rfl ?_
    refine go_iload dX11_feed_46 rfl ?_
    refine go_callV mX7_append dX11_feed_48 lm_X11_92 okX7_append isX7_append sh_228 rfl (As := [.int a3]) (S := []) rfl rfl (Nat.le_of_ble_eq_true rfl) hF (k_v (fun m4 hF => ?_))
    refine go_aload_n dX11_feed_51 rfl ?_
    refine go_getR (k := 3) (r := 228) dX11_feed_52 sh_0 rfl inX11 (Nat.le_of_ble_eq_true rfl) lf_X11_28 rfl rfl ?_
    refine go_iload dX11_feed_55 rfl ?_
    refine go_callV mX7_append dX11_feed_57 lm_X11_92 okX7_append isX7_append sh_228 rfl (As := [.int a4]) (S := []) rfl rfl (Nat.le_of_ble_eq_true rfl) hF (k_v (fun m5 hF => ?_))
    refine go_aload_n dX11_feed_60 rfl ?_
    refine go_getR (k := 3) (r := 228) dX11_feed_61 sh_0 rfl inX11 (Nat.le_of_ble_eq_true rfl) lf_X11_28 rfl rfl ?_
    refine go_getI (k := 0) dX11_feed_64 sh_228 rfl inX7 (Nat.le_of_ble_eq_true rfl) lf_X11_89 rfl ?_
    exact go_iret (S := []) dX11_feed_67 rfl ⟨_, rfl, hF⟩
  · have hF := hF.2 hc
    refine go_iconst (v := -1) dX11_feed_16 (by decide) ?_
    exact go_iret (S := []) dX11_feed_17 rfl ⟨_, rfl, hF⟩
theorem vX11_end (G : GP) (d : Nat) (a0 : Int32) (m : Mem) (K : Int32 → Mem → Prop) (hF : ((0 ≤ a0 ∧ a0 ≤ (m.1 228 0)) → ∀ m1 : Mem, m1 = wI m 228 0 a0 → K a0 m1) ∧ (¬ (0 ≤ a0 ∧ a0 ≤ (m.1 228 0)) → K (-1) m)) : Evi G (d + 1) mX11_end [.ref (ga G 0), .int a0] m K := by
  refine Ev.go [.ref (ga G 0), .int a0] (by decide) (Nat.le_of_ble_eq_true rfl) rfl ?_
  refine go_iload_n dX11_end_0 rfl ?_
  refine go_iconst (v := 0) dX11_end_1 (by decide) ?_
  refine go_aload_n dX11_end_2 rfl ?_
  refine go_getR (k := 3) (r := 228) dX11_end_3 sh_0 rfl inX11 (Nat.le_of_ble_eq_true rfl) lf_X11_28 rfl rfl ?_
  refine go_getI (k := 0) dX11_end_6 sh_228 rfl inX7 (Nat.le_of_ble_eq_true rfl) lf_X11_89 rfl ?_
  rcases Classical.em (0 ≤ a0 ∧ a0 ≤ (m.1 228 0)) with hp | hp
  · have hF := hF.1 hp
    refine go_callS mX11_within dX11_end_9 lm_X11_81 okX11_within isX11_within (As := [.int a0, .int 0, .int (m.1 228 0)]) (S := []) rfl rfl (Nat.le_of_ble_eq_true rfl) (eX11_within G _ a0 0 (m.1 228 0) m (fun r m' => r = 1 ∧ m = m') ⟨fun _ => ⟨rfl, rfl⟩, fun q => absurd hp q⟩) (k_i (fun r m' hr => ?_))
    obtain ⟨hr1, hr2⟩ := hr
    subst hr1
    subst hr2
    refine go_if_ne 17 dX11_end_12 rfl ⟨fun _ => ?_, fun hc => absurd hc (by decide)⟩
    refine go_aload_n dX11_end_17 rfl ?_
    refine go_getR (k := 3) (r := 228) dX11_end_18 sh_0 rfl inX11 (Nat.le_of_ble_eq_true rfl) lf_X11_28 rfl rfl ?_
    refine go_iload_n dX11_end_21 rfl ?_
    refine go_putI (k := 0) dX11_end_22 sh_228 rfl inX7 (Nat.le_of_ble_eq_true rfl) lf_X11_89 tyX7 tyX7_ok nmX7 rfl rfl (by decide +kernel) ?_
    obtain ⟨m1, em1⟩ : ∃ z : Mem, z = wI m 228 0 a0 := ⟨_, rfl⟩
    rw [← em1]
    have hF := hF m1 em1
    refine go_iload_n dX11_end_25 rfl ?_
    exact go_iret (S := []) dX11_end_26 rfl ⟨_, rfl, hF⟩
  · have hF := hF.2 hp
    refine go_callS mX11_within dX11_end_9 lm_X11_81 okX11_within isX11_within (As := [.int a0, .int 0, .int (m.1 228 0)]) (S := []) rfl rfl (Nat.le_of_ble_eq_true rfl) (eX11_within G _ a0 0 (m.1 228 0) m (fun r m' => r = 0 ∧ m = m') ⟨fun q => absurd q hp, fun _ => ⟨rfl, rfl⟩⟩) (k_i (fun r m' hr => ?_))
    obtain ⟨hr1, hr2⟩ := hr
    subst hr1
    subst hr2
    refine go_if_ne 17 dX11_end_12 rfl ⟨fun hc => absurd hc (by decide), fun _ => ?_⟩
    refine go_iconst (v := -1) dX11_end_15 (by decide) ?_
    exact go_iret (S := []) dX11_end_16 rfl ⟨_, rfl, hF⟩
theorem vX11_text (G : GP) (d : Nat)  (m : Mem) (K : Int32 → Mem → Prop) (hF : (((m.1 1 5) < 4) → vp_in (m.1 1 5) 4 ∧ ∀ t1 : Nat, t1 = 238 + 6 * (m.1 1 5).toNatClampNeg → Evi G (d + 9) mX3_reads [.ref (ga G 233), .ref (ga G t1)] m (fun r3 m2 => ((¬ r3 = 0) → ∀ m4 : Mem, m4 = wI m2 1 5 ((m2.1 1 5) + 1) → K ((m4.1 1 5) - 1) m4) ∧ ((r3 = 0) → K (-1) m2))) ∧ ((¬ (m.1 1 5) < 4) → K (-1) m)) : Evi G (d + 10) mX11_text [.ref (ga G 0)] m K := by
  refine Ev.go [.ref (ga G 0)] (by decide) (Nat.le_of_ble_eq_true rfl) rfl ?_
  refine go_aload_n dX11_text_0 rfl ?_
  refine go_getR (k := 0) (r := 1) dX11_text_1 sh_0 rfl inX11 (Nat.le_of_ble_eq_true rfl) lf_X11_10 rfl rfl ?_
  refine go_getI (k := 5) dX11_text_4 sh_1 rfl inX10 (Nat.le_of_ble_eq_true rfl) lf_X11_96 rfl ?_
  refine go_iconst (v := 4) dX11_text_7 (by decide) ?_
  refine go_icmp_lt 13 dX11_text_8 rfl ⟨fun hc => ?_, fun hc => ?_⟩
  · have hF := hF.1 hc
    refine go_aload_n dX11_text_13 rfl ?_
    refine go_getR (k := 4) (r := 233) dX11_text_14 sh_0 rfl inX11 (Nat.le_of_ble_eq_true rfl) lf_X11_37 rfl rfl ?_
    refine go_aload_n dX11_text_17 rfl ?_
    refine go_getR (k := 2) (r := 227) dX11_text_18 sh_0 rfl inX11 (Nat.le_of_ble_eq_true rfl) lf_X11_21 rfl rfl ?_
    refine go_aload_n dX11_text_21 rfl ?_
    refine go_getR (k := 0) (r := 1) dX11_text_22 sh_0 rfl inX11 (Nat.le_of_ble_eq_true rfl) lf_X11_10 rfl rfl ?_
    refine go_getI (k := 5) dX11_text_25 sh_1 rfl inX10 (Nat.le_of_ble_eq_true rfl) lf_X11_96 rfl ?_
    obtain ⟨hi, hF⟩ := hF
    obtain ⟨t1, et1⟩ : ∃ z : Nat, z = 238 + 6 * (m.1 1 5).toNatClampNeg := ⟨_, rfl⟩
    have hF := hF t1 et1
    obtain ⟨gt1, ht1⟩ := tx_get hi et1
    refine go_aaldT dX11_text_28 sh_227 hi gt1 ?_
    refine go_callV mX3_reads dX11_text_29 lm_X11_98 okX3_reads isX3_reads sh_233 rfl (As := [.ref (ga G t1)]) (S := []) rfl rfl (Nat.le_of_ble_eq_true rfl) hF (k_i (fun r3 m2 hF => ?_))
    refine go_if_ne 37 dX11_text_32 rfl ⟨fun hc => ?_, fun hc => ?_⟩
    · have hF := hF.1 hc
      refine go_aload_n dX11_text_37 rfl ?_
      refine go_getR (k := 0) (r := 1) dX11_text_38 sh_0 rfl inX11 (Nat.le_of_ble_eq_true rfl) lf_X11_10 rfl rfl ?_
      refine go_dup dX11_text_41 rfl ?_
      refine go_getI (k := 5) dX11_text_42 sh_1 rfl inX10 (Nat.le_of_ble_eq_true rfl) lf_X11_96 rfl ?_
      refine go_iconst (v := 1) dX11_text_45 (by decide) ?_
      refine go_iadd dX11_text_46 ?_
      refine go_putI (k := 5) dX11_text_47 sh_1 rfl inX10 (Nat.le_of_ble_eq_true rfl) lf_X11_96 tyX10 tyX10_ok nmX10 rfl rfl (by decide +kernel) ?_
      obtain ⟨m4, em4⟩ : ∃ z : Mem, z = wI m2 1 5 ((m2.1 1 5) + 1) := ⟨_, rfl⟩
      rw [← em4]
      have hF := hF m4 em4
      refine go_aload_n dX11_text_50 rfl ?_
      refine go_getR (k := 0) (r := 1) dX11_text_51 sh_0 rfl inX11 (Nat.le_of_ble_eq_true rfl) lf_X11_10 rfl rfl ?_
      refine go_getI (k := 5) dX11_text_54 sh_1 rfl inX10 (Nat.le_of_ble_eq_true rfl) lf_X11_96 rfl ?_
      refine go_iconst (v := 1) dX11_text_57 (by decide) ?_
      refine go_isub dX11_text_58 ?_
      exact go_iret (S := []) dX11_text_59 rfl ⟨_, rfl, hF⟩
    · have hF := hF.2 hc
      refine go_iconst (v := -1) dX11_text_35 (by decide) ?_
      exact go_iret (S := []) dX11_text_36 rfl ⟨_, rfl, hF⟩
  · have hF := hF.2 hc
    refine go_iconst (v := -1) dX11_text_11 (by decide) ?_
    exact go_iret (S := []) dX11_text_12 rfl ⟨_, rfl, hF⟩
theorem vX11_fault (G : GP) (d : Nat) (a0 : Int32) (m : Mem) (K : Int32 → Mem → Prop) (hF : (a0 = 0 → K (m.1 233 0) m) ∧ (a0 = 1 → K (m.1 233 1) m) ∧ (¬ a0 = 0 ∧ ¬ a0 = 1 → K (-1) m)) : Evi G (d) mX11_fault [.ref (ga G 0), .int a0] m K := by
  refine Ev.go [.ref (ga G 0), .int a0] (by decide) (Nat.le_of_ble_eq_true rfl) rfl ?_
  refine go_iload_n dX11_fault_0 rfl ?_
  rcases Decidable.em (a0 = 0) with hc0 | hc0
  · have hF := hF.1 hc0
    refine go_lookup (off := 27) 28 dX11_fault_1 (by decide) (by rw [hc0]; rfl) rfl ?_
    refine go_aload_n dX11_fault_28 rfl ?_
    refine go_getR (k := 4) (r := 233) dX11_fault_29 sh_0 rfl inX11 (Nat.le_of_ble_eq_true rfl) lf_X11_37 rfl rfl ?_
    refine go_getI (k := 0) dX11_fault_32 sh_233 rfl inX3 (Nat.le_of_ble_eq_true rfl) lf_X11_102 rfl ?_
    exact go_iret (S := []) dX11_fault_35 rfl ⟨_, rfl, hF⟩
  rcases Decidable.em (a0 = 1) with hc1 | hc1
  · have hF := hF.2.1 hc1
    refine go_lookup (off := 35) 36 dX11_fault_1 (by decide) (by rw [hc1]; rfl) rfl ?_
    refine go_aload_n dX11_fault_36 rfl ?_
    refine go_getR (k := 4) (r := 233) dX11_fault_37 sh_0 rfl inX11 (Nat.le_of_ble_eq_true rfl) lf_X11_37 rfl rfl ?_
    refine go_getI (k := 1) dX11_fault_40 sh_233 rfl inX3 (Nat.le_of_ble_eq_true rfl) lf_X11_105 rfl ?_
    exact go_iret (S := []) dX11_fault_43 rfl ⟨_, rfl, hF⟩
  have hF := hF.2.2 ⟨hc0, hc1⟩
  refine go_lookup 44 dX11_fault_1 (by decide) (look_out a0 _ _ (by simp only [List.forall_mem_cons, List.not_mem_nil, false_implies, implies_true, and_true]; exact ⟨ne_toInt (by decide) hc0, ne_toInt (by decide) hc1⟩)) rfl ?_
  refine go_iconst (v := -1) dX11_fault_44 (by decide) ?_
  exact go_iret (S := []) dX11_fault_45 rfl ⟨_, rfl, hF⟩
theorem vX11_by (G : GP) (d : Nat) (a0 : Int32) (m : Mem) (K : Int32 → Mem → Prop) (hF : ((a0 = (-1)) → ∀ m1 : Mem, m1 = wI m 1 6 a0 → Evv G (d + 1) mX1_forget [.ref (ga G 262)] m1 (fun m2 => K 1 m2)) ∧ ((¬ a0 = (-1)) → ((0 ≤ a0 ∧ a0 < m.1 1 5) → ∀ m3 : Mem, m3 = wI m 1 6 a0 → Evv G (d + 1) mX1_forget [.ref (ga G 262)] m3 (fun m4 => K 1 m4)) ∧ (¬ (0 ≤ a0 ∧ a0 < m.1 1 5) → K 0 m))) : Evi G (d + 2) mX11_by [.ref (ga G 0), .int a0] m K := by
  refine Ev.go [.ref (ga G 0), .int a0] (by decide) (Nat.le_of_ble_eq_true rfl) rfl ?_
  refine go_iload_n dX11_by_0 rfl ?_
  refine go_iconst (v := -1) dX11_by_1 (by decide) ?_
  refine go_icmp_eq 18 dX11_by_2 rfl ⟨fun hc => ?_, fun hc => ?_⟩
  · have hF := hF.1 hc
    refine go_aload_n dX11_by_18 rfl ?_
    refine go_getR (k := 0) (r := 1) dX11_by_19 sh_0 rfl inX11 (Nat.le_of_ble_eq_true rfl) lf_X11_10 rfl rfl ?_
    refine go_iload_n dX11_by_22 rfl ?_
    refine go_putI (k := 6) dX11_by_23 sh_1 rfl inX10 (Nat.le_of_ble_eq_true rfl) lf_X11_112 tyX10 tyX10_ok nmX10 rfl rfl (by decide +kernel) ?_
    obtain ⟨m1, em1⟩ : ∃ z : Mem, z = wI m 1 6 a0 := ⟨_, rfl⟩
    rw [← em1]
    have hF := hF m1 em1
    refine go_aload_n dX11_by_26 rfl ?_
    refine go_getR (k := 6) (r := 262) dX11_by_27 sh_0 rfl inX11 (Nat.le_of_ble_eq_true rfl) lf_X11_54 rfl rfl ?_
    refine go_callV mX1_forget dX11_by_30 lm_X11_115 okX1_forget isX1_forget sh_262 rfl (As := []) (S := []) rfl rfl (Nat.le_of_ble_eq_true rfl) hF (k_v (fun m2 hF => ?_))
    refine go_iconst (v := 1) dX11_by_33 (by decide) ?_
    exact go_zret (S := []) dX11_by_34 rfl (by decide) ⟨_, rfl, hF⟩
  · have hF := hF.2 hc
    refine go_aload_n dX11_by_5 rfl ?_
    refine go_getR (k := 0) (r := 1) dX11_by_6 sh_0 rfl inX11 (Nat.le_of_ble_eq_true rfl) lf_X11_10 rfl rfl ?_
    refine go_iload_n dX11_by_9 rfl ?_
    rcases Classical.em (0 ≤ a0 ∧ a0 < m.1 1 5) with hp | hp
    · have hF := hF.1 hp
      refine go_callV mX10_hasText dX11_by_10 lm_X11_108 okX10_hasText isX10_hasText sh_1 rfl (As := [.int a0]) (S := []) rfl rfl (Nat.le_of_ble_eq_true rfl) (eX10_hasText G _ a0 m (fun r m' => r = 1 ∧ m = m') ⟨fun _ => ⟨rfl, rfl⟩, fun q => absurd hp q⟩) (k_i (fun r m' hr => ?_))
      obtain ⟨hr1, hr2⟩ := hr
      subst hr1
      subst hr2
      refine go_if_ne 18 dX11_by_13 rfl ⟨fun _ => ?_, fun hc => absurd hc (by decide)⟩
      refine go_aload_n dX11_by_18 rfl ?_
      refine go_getR (k := 0) (r := 1) dX11_by_19 sh_0 rfl inX11 (Nat.le_of_ble_eq_true rfl) lf_X11_10 rfl rfl ?_
      refine go_iload_n dX11_by_22 rfl ?_
      refine go_putI (k := 6) dX11_by_23 sh_1 rfl inX10 (Nat.le_of_ble_eq_true rfl) lf_X11_112 tyX10 tyX10_ok nmX10 rfl rfl (by decide +kernel) ?_
      obtain ⟨m3, em3⟩ : ∃ z : Mem, z = wI m 1 6 a0 := ⟨_, rfl⟩
      rw [← em3]
      have hF := hF m3 em3
      refine go_aload_n dX11_by_26 rfl ?_
      refine go_getR (k := 6) (r := 262) dX11_by_27 sh_0 rfl inX11 (Nat.le_of_ble_eq_true rfl) lf_X11_54 rfl rfl ?_
      refine go_callV mX1_forget dX11_by_30 lm_X11_115 okX1_forget isX1_forget sh_262 rfl (As := []) (S := []) rfl rfl (Nat.le_of_ble_eq_true rfl) hF (k_v (fun m4 hF => ?_))
      refine go_iconst (v := 1) dX11_by_33 (by decide) ?_
      exact go_zret (S := []) dX11_by_34 rfl (by decide) ⟨_, rfl, hF⟩
    · have hF := hF.2 hp
      refine go_callV mX10_hasText dX11_by_10 lm_X11_108 okX10_hasText isX10_hasText sh_1 rfl (As := [.int a0]) (S := []) rfl rfl (Nat.le_of_ble_eq_true rfl) (eX10_hasText G _ a0 m (fun r m' => r = 0 ∧ m = m') ⟨fun q => absurd q hp, fun _ => ⟨rfl, rfl⟩⟩) (k_i (fun r m' hr => ?_))
      obtain ⟨hr1, hr2⟩ := hr
      subst hr1
      subst hr2
      refine go_if_ne 18 dX11_by_13 rfl ⟨fun hc => absurd hc (by decide), fun _ => ?_⟩
      refine go_iconst (v := 0) dX11_by_16 (by decide) ?_
      exact go_zret (S := []) dX11_by_17 rfl (by decide) ⟨_, rfl, hF⟩
theorem vX11_ring (G : GP) (d : Nat) (a0 : Int32) (m : Mem) (K : Int32 → Mem → Prop) (hF : Evi G (d + 4) mX10_canStrike [.ref (ga G 1), .int a0] m (fun r2 m1 => ((¬ r2 = 0) → Evv G (d + 4) mX10_keepStep [.ref (ga G 1)] m1 (fun m3 => Evi G (d + 4) mX11_strike [.ref (ga G 0), .int a0] m3 (fun r5 m4 => K r5 m4))) ∧ ((r2 = 0) → K (-1) m1))) : Evi G (d + 5) mX11_ring [.ref (ga G 0), .int a0] m K := by
  refine Ev.go [.ref (ga G 0), .int a0] (by decide) (Nat.le_of_ble_eq_true rfl) rfl ?_
  refine go_aload_n dX11_ring_0 rfl ?_
  refine go_getR (k := 0) (r := 1) dX11_ring_1 sh_0 rfl inX11 (Nat.le_of_ble_eq_true rfl) lf_X11_10 rfl rfl ?_
  refine go_iload_n dX11_ring_4 rfl ?_
  refine go_callV mX10_canStrike dX11_ring_5 lm_X11_118 okX10_canStrike isX10_canStrike sh_1 rfl (As := [.int a0]) (S := []) rfl rfl (Nat.le_of_ble_eq_true rfl) hF (k_i (fun r2 m1 hF => ?_))
  refine go_if_ne 13 dX11_ring_8 rfl ⟨fun hc => ?_, fun hc => ?_⟩
  · have hF := hF.1 hc
    refine go_aload_n dX11_ring_13 rfl ?_
    refine go_getR (k := 0) (r := 1) dX11_ring_14 sh_0 rfl inX11 (Nat.le_of_ble_eq_true rfl) lf_X11_10 rfl rfl ?_
    refine go_callV mX10_keepStep dX11_ring_17 lm_X11_121 okX10_keepStep isX10_keepStep sh_1 rfl (As := []) (S := []) rfl rfl (Nat.le_of_ble_eq_true rfl) hF (k_v (fun m3 hF => ?_))
    refine go_aload_n dX11_ring_20 rfl ?_
    refine go_iload_n dX11_ring_21 rfl ?_
    refine go_callV mX11_strike dX11_ring_22 lm_X11_124 okX11_strike isX11_strike sh_0 rfl (As := [.int a0]) (S := []) rfl rfl (Nat.le_of_ble_eq_true rfl) hF (k_i (fun r5 m4 hF => ?_))
    exact go_iret (S := []) dX11_ring_25 rfl ⟨_, rfl, hF⟩
  · have hF := hF.2 hc
    refine go_iconst (v := -1) dX11_ring_11 (by decide) ?_
    exact go_iret (S := []) dX11_ring_12 rfl ⟨_, rfl, hF⟩
theorem vX11_speak (G : GP) (d : Nat) (a0 : Int32) (m : Mem) (K : Int32 → Mem → Prop) (hF : Evi G (d + 4) mX10_canSay [.ref (ga G 1), .int a0] m (fun r2 m1 => ((¬ r2 = 0) → Evv G (d + 4) mX10_keepStep [.ref (ga G 1)] m1 (fun m3 => Evi G (d + 4) mX11_say [.ref (ga G 0), .int a0] m3 (fun r5 m4 => K r5 m4))) ∧ ((r2 = 0) → K (-1) m1))) : Evi G (d + 5) mX11_speak [.ref (ga G 0), .int a0] m K := by
  refine Ev.go [.ref (ga G 0), .int a0] (by decide) (Nat.le_of_ble_eq_true rfl) rfl ?_
  refine go_aload_n dX11_speak_0 rfl ?_
  refine go_getR (k := 0) (r := 1) dX11_speak_1 sh_0 rfl inX11 (Nat.le_of_ble_eq_true rfl) lf_X11_10 rfl rfl ?_
  refine go_iload_n dX11_speak_4 rfl ?_
  refine go_callV mX10_canSay dX11_speak_5 lm_X11_128 okX10_canSay isX10_canSay sh_1 rfl (As := [.int a0]) (S := []) rfl rfl (Nat.le_of_ble_eq_true rfl) hF (k_i (fun r2 m1 hF => ?_))
  refine go_if_ne 13 dX11_speak_8 rfl ⟨fun hc => ?_, fun hc => ?_⟩
  · have hF := hF.1 hc
    refine go_aload_n dX11_speak_13 rfl ?_
    refine go_getR (k := 0) (r := 1) dX11_speak_14 sh_0 rfl inX11 (Nat.le_of_ble_eq_true rfl) lf_X11_10 rfl rfl ?_
    refine go_callV mX10_keepStep dX11_speak_17 lm_X11_121 okX10_keepStep isX10_keepStep sh_1 rfl (As := []) (S := []) rfl rfl (Nat.le_of_ble_eq_true rfl) hF (k_v (fun m3 hF => ?_))
    refine go_aload_n dX11_speak_20 rfl ?_
    refine go_iload_n dX11_speak_21 rfl ?_
    refine go_callV mX11_say dX11_speak_22 lm_X11_131 okX11_say isX11_say sh_0 rfl (As := [.int a0]) (S := []) rfl rfl (Nat.le_of_ble_eq_true rfl) hF (k_i (fun r5 m4 hF => ?_))
    exact go_iret (S := []) dX11_speak_25 rfl ⟨_, rfl, hF⟩
  · have hF := hF.2 hc
    refine go_iconst (v := -1) dX11_speak_11 (by decide) ?_
    exact go_iret (S := []) dX11_speak_12 rfl ⟨_, rfl, hF⟩
theorem vX11_set (G : GP) (d : Nat) (a0 : Int32) (a1 : Int32) (m : Mem) (K : Int32 → Mem → Prop) (hF : ((a0 = 0) → ∀ x1 : Int32, x1 = m.1 12 0 → ((0 ≤ a1 ∧ a1 ≤ 9) → ((¬ x1 = a1) → Evv G (d + 3) mX10_keepStep [.ref (ga G 1)] m (fun m2 => ((a0 = 0) → ∀ m3 : Mem, m3 = wI m2 12 0 a1 → K 1 m3) ∧ ((¬ a0 = 0) → ∀ m4 : Mem, m4 = wI m2 12 1 a1 → K 1 m4))) ∧ ((x1 = a1) → K 0 m)) ∧ (¬ (0 ≤ a1 ∧ a1 ≤ 9) → K 0 m)) ∧ ((¬ a0 = 0) → ∀ x5 : Int32, x5 = m.1 12 1 → ((0 ≤ a1 ∧ a1 ≤ 9) → ((¬ x5 = a1) → Evv G (d + 3) mX10_keepStep [.ref (ga G 1)] m (fun m6 => ((a0 = 0) → ∀ m7 : Mem, m7 = wI m6 12 0 a1 → K 1 m7) ∧ ((¬ a0 = 0) → ∀ m8 : Mem, m8 = wI m6 12 1 a1 → K 1 m8))) ∧ ((x5 = a1) → K 0 m)) ∧ (¬ (0 ≤ a1 ∧ a1 ≤ 9) → K 0 m))) : Evi G (d + 4) mX11_set [.ref (ga G 0), .int a0, .int a1] m K := by
  refine Ev.go [.ref (ga G 0), .int a0, .int a1, uu, uu] (by decide) (Nat.le_of_ble_eq_true rfl) rfl ?_
  refine go_aload_n dX11_set_0 rfl ?_
  refine go_getR (k := 0) (r := 1) dX11_set_1 sh_0 rfl inX11 (Nat.le_of_ble_eq_true rfl) lf_X11_10 rfl rfl ?_
  refine go_getR (k := 1) (r := 12) dX11_set_4 sh_1 rfl inX10 (Nat.le_of_ble_eq_true rfl) lf_X11_134 rfl rfl ?_
  refine go_astore_n (L' := [.ref (ga G 0), .int a0, .int a1, .ref (ga G 12), uu]) dX11_set_7 (Nat.le_of_ble_eq_true rfl) rfl ?_
  refine go_iload_n dX11_set_8 rfl ?_
  refine go_if_eq 19 dX11_set_9 rfl ⟨fun hc => ?_, fun hc => ?_⟩
  · have hF := hF.1 hc
    refine go_aload_n dX11_set_19 rfl ?_
    refine go_getI (k := 0) dX11_set_20 sh_12 rfl inX5 (Nat.le_of_ble_eq_true rfl) lf_X11_143 rfl ?_
    refine Gw.namei (fun x1 ex1 => ?_)
    have hF := hF x1 ex1
    refine go_istore (L' := [.ref (ga G 0), .int a0, .int a1, .ref (ga G 12), .int x1]) dX11_set_23 (Nat.le_of_ble_eq_true rfl) rfl ?_
    refine go_iload_n dX11_set_25 rfl ?_
    refine go_iconst (v := 0) dX11_set_26 (by decide) ?_
    refine go_bipush (v := 9) dX11_set_27 (by decide) ?_
    rcases Classical.em (0 ≤ a1 ∧ a1 ≤ 9) with hp | hp
    · have hF := hF.1 hp
      refine go_callS mX11_within dX11_set_29 lm_X11_81 okX11_within isX11_within (As := [.int a1, .int 0, .int 9]) (S := []) rfl rfl (Nat.le_of_ble_eq_true rfl) (eX11_within G _ a1 0 9 m (fun r m' => r = 1 ∧ m = m') ⟨fun _ => ⟨rfl, rfl⟩, fun q => absurd hp q⟩) (k_i (fun r m' hr => ?_))
      obtain ⟨hr1, hr2⟩ := hr
      subst hr1
      subst hr2
      refine go_if_eq 41 dX11_set_32 rfl ⟨fun hc => absurd hc (by decide), fun _ => ?_⟩
      refine go_iload dX11_set_35 rfl ?_
      refine go_iload_n dX11_set_37 rfl ?_
      refine go_icmp_ne 43 dX11_set_38 rfl ⟨fun hc => ?_, fun hc => ?_⟩
      · have hF := hF.1 hc
        refine go_aload_n dX11_set_43 rfl ?_
        refine go_getR (k := 0) (r := 1) dX11_set_44 sh_0 rfl inX11 (Nat.le_of_ble_eq_true rfl) lf_X11_10 rfl rfl ?_
        refine go_callV mX10_keepStep dX11_set_47 lm_X11_121 okX10_keepStep isX10_keepStep sh_1 rfl (As := []) (S := []) rfl rfl (Nat.le_of_ble_eq_true rfl) hF (k_v (fun m2 hF => ?_))
        refine go_iload_n dX11_set_50 rfl ?_
        refine go_if_eq 62 dX11_set_51 rfl ⟨fun hc => ?_, fun hc => ?_⟩
        · have hF := hF.1 hc
          refine go_aload_n dX11_set_62 rfl ?_
          refine go_iload_n dX11_set_63 rfl ?_
          refine go_putI (k := 0) dX11_set_64 sh_12 rfl inX5 (Nat.le_of_ble_eq_true rfl) lf_X11_143 tyX5 tyX5_ok nmX5 rfl rfl (by decide +kernel) ?_
          obtain ⟨m3, em3⟩ : ∃ z : Mem, z = wI m2 12 0 a1 := ⟨_, rfl⟩
          rw [← em3]
          have hF := hF m3 em3
          refine go_iconst (v := 1) dX11_set_67 (by decide) ?_
          exact go_zret (S := []) dX11_set_68 rfl (by decide) ⟨_, rfl, hF⟩
        · have hF := hF.2 hc
          refine go_aload_n dX11_set_54 rfl ?_
          refine go_iload_n dX11_set_55 rfl ?_
          refine go_putI (k := 1) dX11_set_56 sh_12 rfl inX5 (Nat.le_of_ble_eq_true rfl) lf_X11_138 tyX5 tyX5_ok nmX5 rfl rfl (by decide +kernel) ?_
          obtain ⟨m4, em4⟩ : ∃ z : Mem, z = wI m2 12 1 a1 := ⟨_, rfl⟩
          rw [← em4]
          have hF := hF m4 em4
          refine go_goto 67 dX11_set_59 rfl ?_
          refine go_iconst (v := 1) dX11_set_67 (by decide) ?_
          exact go_zret (S := []) dX11_set_68 rfl (by decide) ⟨_, rfl, hF⟩
      · have hF := hF.2 hc
        refine go_iconst (v := 0) dX11_set_41 (by decide) ?_
        exact go_zret (S := []) dX11_set_42 rfl (by decide) ⟨_, rfl, hF⟩
    · have hF := hF.2 hp
      refine go_callS mX11_within dX11_set_29 lm_X11_81 okX11_within isX11_within (As := [.int a1, .int 0, .int 9]) (S := []) rfl rfl (Nat.le_of_ble_eq_true rfl) (eX11_within G _ a1 0 9 m (fun r m' => r = 0 ∧ m = m') ⟨fun q => absurd q hp, fun _ => ⟨rfl, rfl⟩⟩) (k_i (fun r m' hr => ?_))
      obtain ⟨hr1, hr2⟩ := hr
      subst hr1
      subst hr2
      refine go_if_eq 41 dX11_set_32 rfl ⟨fun _ => ?_, fun hc => absurd hc (by decide)⟩
      refine go_iconst (v := 0) dX11_set_41 (by decide) ?_
      exact go_zret (S := []) dX11_set_42 rfl (by decide) ⟨_, rfl, hF⟩
  · have hF := hF.2 hc
    refine go_aload_n dX11_set_12 rfl ?_
    refine go_getI (k := 1) dX11_set_13 sh_12 rfl inX5 (Nat.le_of_ble_eq_true rfl) lf_X11_138 rfl ?_
    refine go_goto 23 dX11_set_16 rfl ?_
    refine Gw.namei (fun x5 ex5 => ?_)
    have hF := hF x5 ex5
    refine go_istore (L' := [.ref (ga G 0), .int a0, .int a1, .ref (ga G 12), .int x5]) dX11_set_23 (Nat.le_of_ble_eq_true rfl) rfl ?_
    refine go_iload_n dX11_set_25 rfl ?_
    refine go_iconst (v := 0) dX11_set_26 (by decide) ?_
    refine go_bipush (v := 9) dX11_set_27 (by decide) ?_
    rcases Classical.em (0 ≤ a1 ∧ a1 ≤ 9) with hp | hp
    · have hF := hF.1 hp
      refine go_callS mX11_within dX11_set_29 lm_X11_81 okX11_within isX11_within (As := [.int a1, .int 0, .int 9]) (S := []) rfl rfl (Nat.le_of_ble_eq_true rfl) (eX11_within G _ a1 0 9 m (fun r m' => r = 1 ∧ m = m') ⟨fun _ => ⟨rfl, rfl⟩, fun q => absurd hp q⟩) (k_i (fun r m' hr => ?_))
      obtain ⟨hr1, hr2⟩ := hr
      subst hr1
      subst hr2
      refine go_if_eq 41 dX11_set_32 rfl ⟨fun hc => absurd hc (by decide), fun _ => ?_⟩
      refine go_iload dX11_set_35 rfl ?_
      refine go_iload_n dX11_set_37 rfl ?_
      refine go_icmp_ne 43 dX11_set_38 rfl ⟨fun hc => ?_, fun hc => ?_⟩
      · have hF := hF.1 hc
        refine go_aload_n dX11_set_43 rfl ?_
        refine go_getR (k := 0) (r := 1) dX11_set_44 sh_0 rfl inX11 (Nat.le_of_ble_eq_true rfl) lf_X11_10 rfl rfl ?_
        refine go_callV mX10_keepStep dX11_set_47 lm_X11_121 okX10_keepStep isX10_keepStep sh_1 rfl (As := []) (S := []) rfl rfl (Nat.le_of_ble_eq_true rfl) hF (k_v (fun m6 hF => ?_))
        refine go_iload_n dX11_set_50 rfl ?_
        refine go_if_eq 62 dX11_set_51 rfl ⟨fun hc => ?_, fun hc => ?_⟩
        · have hF := hF.1 hc
          refine go_aload_n dX11_set_62 rfl ?_
          refine go_iload_n dX11_set_63 rfl ?_
          refine go_putI (k := 0) dX11_set_64 sh_12 rfl inX5 (Nat.le_of_ble_eq_true rfl) lf_X11_143 tyX5 tyX5_ok nmX5 rfl rfl (by decide +kernel) ?_
          obtain ⟨m7, em7⟩ : ∃ z : Mem, z = wI m6 12 0 a1 := ⟨_, rfl⟩
          rw [← em7]
          have hF := hF m7 em7
          refine go_iconst (v := 1) dX11_set_67 (by decide) ?_
          exact go_zret (S := []) dX11_set_68 rfl (by decide) ⟨_, rfl, hF⟩
        · have hF := hF.2 hc
          refine go_aload_n dX11_set_54 rfl ?_
          refine go_iload_n dX11_set_55 rfl ?_
          refine go_putI (k := 1) dX11_set_56 sh_12 rfl inX5 (Nat.le_of_ble_eq_true rfl) lf_X11_138 tyX5 tyX5_ok nmX5 rfl rfl (by decide +kernel) ?_
          obtain ⟨m8, em8⟩ : ∃ z : Mem, z = wI m6 12 1 a1 := ⟨_, rfl⟩
          rw [← em8]
          have hF := hF m8 em8
          refine go_goto 67 dX11_set_59 rfl ?_
          refine go_iconst (v := 1) dX11_set_67 (by decide) ?_
          exact go_zret (S := []) dX11_set_68 rfl (by decide) ⟨_, rfl, hF⟩
      · have hF := hF.2 hc
        refine go_iconst (v := 0) dX11_set_41 (by decide) ?_
        exact go_zret (S := []) dX11_set_42 rfl (by decide) ⟨_, rfl, hF⟩
    · have hF := hF.2 hp
      refine go_callS mX11_within dX11_set_29 lm_X11_81 okX11_within isX11_within (As := [.int a1, .int 0, .int 9]) (S := []) rfl rfl (Nat.le_of_ble_eq_true rfl) (eX11_within G _ a1 0 9 m (fun r m' => r = 0 ∧ m = m') ⟨fun q => absurd q hp, fun _ => ⟨rfl, rfl⟩⟩) (k_i (fun r m' hr => ?_))
      obtain ⟨hr1, hr2⟩ := hr
      subst hr1
      subst hr2
      refine go_if_eq 41 dX11_set_32 rfl ⟨fun _ => ?_, fun hc => absurd hc (by decide)⟩
      refine go_iconst (v := 0) dX11_set_41 (by decide) ?_
      exact go_zret (S := []) dX11_set_42 rfl (by decide) ⟨_, rfl, hF⟩
theorem vX11_hour (G : GP) (d : Nat) (a0 : Int32) (m : Mem) (K : Int32 → Mem → Prop) (hF : ((1 ≤ a0 ∧ a0 ≤ 60) → ((((m.1 12 2) + a0) ≤ 9999) → Evi G (d + 4) mX11_passHours [.ref (ga G 0), .int a0] m (fun r2 m1 => K (m1.1 12 2) m1)) ∧ ((¬ ((m.1 12 2) + a0) ≤ 9999) → K (-1) m)) ∧ (¬ (1 ≤ a0 ∧ a0 ≤ 60) → K (-1) m)) : Evi G (d + 5) mX11_hour [.ref (ga G 0), .int a0] m K := by
  refine Ev.go [.ref (ga G 0), .int a0] (by decide) (Nat.le_of_ble_eq_true rfl) rfl ?_
  refine go_iload_n dX11_hour_0 rfl ?_
  refine go_iconst (v := 1) dX11_hour_1 (by decide) ?_
  refine go_bipush (v := 60) dX11_hour_2 (by decide) ?_
  rcases Classical.em (1 ≤ a0 ∧ a0 ≤ 60) with hp | hp
  · have hF := hF.1 hp
    refine go_callS mX11_within dX11_hour_4 lm_X11_81 okX11_within isX11_within (As := [.int a0, .int 1, .int 60]) (S := []) rfl rfl (Nat.le_of_ble_eq_true rfl) (eX11_within G _ a0 1 60 m (fun r m' => r = 1 ∧ m = m') ⟨fun _ => ⟨rfl, rfl⟩, fun q => absurd hp q⟩) (k_i (fun r m' hr => ?_))
    obtain ⟨hr1, hr2⟩ := hr
    subst hr1
    subst hr2
    refine go_if_eq 28 dX11_hour_7 rfl ⟨fun hc => absurd hc (by decide), fun _ => ?_⟩
    refine go_aload_n dX11_hour_10 rfl ?_
    refine go_getR (k := 0) (r := 1) dX11_hour_11 sh_0 rfl inX11 (Nat.le_of_ble_eq_true rfl) lf_X11_10 rfl rfl ?_
    refine go_getR (k := 1) (r := 12) dX11_hour_14 sh_1 rfl inX10 (Nat.le_of_ble_eq_true rfl) lf_X11_134 rfl rfl ?_
    refine go_getI (k := 2) dX11_hour_17 sh_12 rfl inX5 (Nat.le_of_ble_eq_true rfl) lf_X11_146 rfl ?_
    refine go_iload_n dX11_hour_20 rfl ?_
    refine go_iadd dX11_hour_21 ?_
    refine go_sipush (v := 9999) dX11_hour_22 (by decide) ?_
    refine go_icmp_le 30 dX11_hour_25 rfl ⟨fun hc => ?_, fun hc => ?_⟩
    · have hF := hF.1 hc
      refine go_aload_n dX11_hour_30 rfl ?_
      refine go_iload_n dX11_hour_31 rfl ?_
      refine go_callV mX11_passHours dX11_hour_32 lm_X11_149 okX11_passHours isX11_passHours sh_0 rfl (As := [.int a0]) (S := []) rfl rfl (Nat.le_of_ble_eq_true rfl) hF (k_i (fun r2 m1 hF => ?_))
      refine go_pop dX11_hour_35 rfl ?_
      refine go_aload_n dX11_hour_36 rfl ?_
      refine go_getR (k := 0) (r := 1) dX11_hour_37 sh_0 rfl inX11 (Nat.le_of_ble_eq_true rfl) lf_X11_10 rfl rfl ?_
      refine go_getR (k := 1) (r := 12) dX11_hour_40 sh_1 rfl inX10 (Nat.le_of_ble_eq_true rfl) lf_X11_134 rfl rfl ?_
      refine go_getI (k := 2) dX11_hour_43 sh_12 rfl inX5 (Nat.le_of_ble_eq_true rfl) lf_X11_146 rfl ?_
      exact go_iret (S := []) dX11_hour_46 rfl ⟨_, rfl, hF⟩
    · have hF := hF.2 hc
      refine go_iconst (v := -1) dX11_hour_28 (by decide) ?_
      exact go_iret (S := []) dX11_hour_29 rfl ⟨_, rfl, hF⟩
  · have hF := hF.2 hp
    refine go_callS mX11_within dX11_hour_4 lm_X11_81 okX11_within isX11_within (As := [.int a0, .int 1, .int 60]) (S := []) rfl rfl (Nat.le_of_ble_eq_true rfl) (eX11_within G _ a0 1 60 m (fun r m' => r = 0 ∧ m = m') ⟨fun q => absurd q hp, fun _ => ⟨rfl, rfl⟩⟩) (k_i (fun r m' hr => ?_))
    obtain ⟨hr1, hr2⟩ := hr
    subst hr1
    subst hr2
    refine go_if_eq 28 dX11_hour_7 rfl ⟨fun _ => ?_, fun hc => absurd hc (by decide)⟩
    refine go_iconst (v := -1) dX11_hour_28 (by decide) ?_
    exact go_iret (S := []) dX11_hour_29 rfl ⟨_, rfl, hF⟩
theorem vX11_sunday (G : GP) (d : Nat)  (m : Mem) (K : Int32 → Mem → Prop) (hF : Evv G (d + 5) mX10_keepStep [.ref (ga G 1)] m (fun m1 => Evi G (d + 5) mX0_waysToRead [.ref (ga G 266), .int 1] m1 (fun r3 m2 => Evi G (d + 5) mX5_writeSunday [.ref (ga G 12), .int r3] m2 (fun r5 m4 => K r5 m4)))) : Evi G (d + 6) mX11_sunday [.ref (ga G 0)] m K := by
  refine Ev.go [.ref (ga G 0)] (by decide) (Nat.le_of_ble_eq_true rfl) rfl ?_
  refine go_aload_n dX11_sunday_0 rfl ?_
  refine go_getR (k := 0) (r := 1) dX11_sunday_1 sh_0 rfl inX11 (Nat.le_of_ble_eq_true rfl) lf_X11_10 rfl rfl ?_
  refine go_callV mX10_keepStep dX11_sunday_4 lm_X11_121 okX10_keepStep isX10_keepStep sh_1 rfl (As := []) (S := []) rfl rfl (Nat.le_of_ble_eq_true rfl) hF (k_v (fun m1 hF => ?_))
  refine go_aload_n dX11_sunday_7 rfl ?_
  refine go_getR (k := 0) (r := 1) dX11_sunday_8 sh_0 rfl inX11 (Nat.le_of_ble_eq_true rfl) lf_X11_10 rfl rfl ?_
  refine go_getR (k := 1) (r := 12) dX11_sunday_11 sh_1 rfl inX10 (Nat.le_of_ble_eq_true rfl) lf_X11_134 rfl rfl ?_
  refine go_aload_n dX11_sunday_14 rfl ?_
  refine go_getR (k := 7) (r := 266) dX11_sunday_15 sh_0 rfl inX11 (Nat.le_of_ble_eq_true rfl) lf_X11_63 rfl rfl ?_
  refine go_iconst (v := 1) dX11_sunday_18 (by decide) ?_
  refine go_callV mX0_waysToRead dX11_sunday_19 lm_X11_152 okX0_waysToRead isX0_waysToRead sh_266 rfl (As := [.int 1]) (S := [.ref (ga G 12)]) rfl rfl (Nat.le_of_ble_eq_true rfl) hF (k_i (fun r3 m2 hF => ?_))
  refine go_callV mX5_writeSunday dX11_sunday_22 lm_X11_156 okX5_writeSunday isX5_writeSunday sh_12 rfl (As := [.int r3]) (S := []) rfl rfl (Nat.le_of_ble_eq_true rfl) hF (k_i (fun r5 m4 hF => ?_))
  exact go_iret (S := []) dX11_sunday_25 rfl ⟨_, rfl, hF⟩
theorem vX11_played (G : GP) (d : Nat) (a0 : Int32) (m : Mem) (K : Int32 → Mem → Prop) (hF : ((0 ≤ a0 ∧ a0 < m.1 1 5) → vp_in a0 4 ∧ ∀ t1 : Nat, t1 = 238 + 6 * a0.toNatClampNeg → Gw G (d + 7) mX11_played 23 [.ref (ga G 0), .int a0, .ref (ga G t1), .int 0] [] m (Qi K)) ∧ (¬ (0 ≤ a0 ∧ a0 < m.1 1 5) → K (-2) m)) : Evi G (d + 7) mX11_played [.ref (ga G 0), .int a0] m K := by
  refine Ev.go [.ref (ga G 0), .int a0, uu, uu] (by decide) (Nat.le_of_ble_eq_true rfl) rfl ?_
  refine go_aload_n dX11_played_0 rfl ?_
  refine go_getR (k := 0) (r := 1) dX11_played_1 sh_0 rfl inX11 (Nat.le_of_ble_eq_true rfl) lf_X11_10 rfl rfl ?_
  refine go_iload_n dX11_played_4 rfl ?_
  rcases Classical.em (0 ≤ a0 ∧ a0 < m.1 1 5) with hp | hp
  · have hF := hF.1 hp
    refine go_callV mX10_hasText dX11_played_5 lm_X11_108 okX10_hasText isX10_hasText sh_1 rfl (As := [.int a0]) (S := []) rfl rfl (Nat.le_of_ble_eq_true rfl) (eX10_hasText G _ a0 m (fun r m' => r = 1 ∧ m = m') ⟨fun _ => ⟨rfl, rfl⟩, fun q => absurd hp q⟩) (k_i (fun r m' hr => ?_))
    obtain ⟨hr1, hr2⟩ := hr
    subst hr1
    subst hr2
    refine go_if_ne 14 dX11_played_8 rfl ⟨fun _ => ?_, fun hc => absurd hc (by decide)⟩
    refine go_aload_n dX11_played_14 rfl ?_
    refine go_getR (k := 2) (r := 227) dX11_played_15 sh_0 rfl inX11 (Nat.le_of_ble_eq_true rfl) lf_X11_21 rfl rfl ?_
    refine go_iload_n dX11_played_18 rfl ?_
    obtain ⟨hi, hF⟩ := hF
    obtain ⟨t1, et1⟩ : ∃ z : Nat, z = 238 + 6 * a0.toNatClampNeg := ⟨_, rfl⟩
    have hF := hF t1 et1
    obtain ⟨gt1, ht1⟩ := tx_get hi et1
    refine go_aaldT dX11_played_19 sh_227 hi gt1 ?_
    refine go_astore_n (L' := [.ref (ga G 0), .int a0, .ref (ga G t1), uu]) dX11_played_20 (Nat.le_of_ble_eq_true rfl) rfl ?_
    refine go_iconst (v := 0) dX11_played_21 (by decide) ?_
    refine go_istore_n (L' := [.ref (ga G 0), .int a0, .ref (ga G t1), .int 0]) dX11_played_22 (Nat.le_of_ble_eq_true rfl) rfl ?_
    exact hF
  · have hF := hF.2 hp
    refine go_callV mX10_hasText dX11_played_5 lm_X11_108 okX10_hasText isX10_hasText sh_1 rfl (As := [.int a0]) (S := []) rfl rfl (Nat.le_of_ble_eq_true rfl) (eX10_hasText G _ a0 m (fun r m' => r = 0 ∧ m = m') ⟨fun q => absurd q hp, fun _ => ⟨rfl, rfl⟩⟩) (k_i (fun r m' hr => ?_))
    obtain ⟨hr1, hr2⟩ := hr
    subst hr1
    subst hr2
    refine go_if_ne 14 dX11_played_8 rfl ⟨fun hc => absurd hc (by decide), fun _ => ?_⟩
    refine go_bipush (v := -2) dX11_played_11 (by decide) ?_
    exact go_iret (S := []) dX11_played_13 rfl ⟨_, rfl, hF⟩
theorem vX11_played_23 (G : GP) (d : Nat) (u1 : Value) (t1 : Nat) (ht1 : TxAt t1) (l3 : Int32) (m : Mem) (K : Int32 → Mem → Prop) (hF : (((m.1 t1 0) ≤ l3) → K (-1) m) ∧ ((¬ (m.1 t1 0) ≤ l3) → Evi G (d + 6) mX11_plays [.ref (ga G 0), .ref (ga G t1), .int l3] m (fun r3 m2 => ((¬ r3 = 0) → ∀ x4 : Int32, x4 = l3 + 1 → Gw G (d + 7) mX11_played 23 [.ref (ga G 0), uu, .ref (ga G t1), .int x4] [] m2 (Qi K)) ∧ ((r3 = 0) → K l3 m2)))) : Gw G (d + 7) mX11_played 23 [.ref (ga G 0), u1, .ref (ga G t1), .int l3] [] m (Qi K) := by
  refine Gw.weak (L' := [.ref (ga G 0), uu, .ref (ga G t1), .int l3]) ⟨Or.inl rfl, Or.inr rfl, Or.inl rfl, Or.inl rfl, trivial⟩ ?_
  refine go_iload_n dX11_played_23 rfl ?_
  refine go_aload_n dX11_played_24 rfl ?_
  refine go_getI (k := 0) dX11_played_25 ht1.1 rfl inX8 (Nat.le_of_ble_eq_true rfl) lf_X11_159 rfl ?_
  refine go_icmp_ge 48 dX11_played_28 rfl ⟨fun hc => ?_, fun hc => ?_⟩
  · have hF := hF.1 hc
    refine go_iconst (v := -1) dX11_played_48 (by decide) ?_
    exact go_iret (S := []) dX11_played_49 rfl ⟨_, rfl, hF⟩
  · have hF := hF.2 hc
    refine go_aload_n dX11_played_31 rfl ?_
    refine go_aload_n dX11_played_32 rfl ?_
    refine go_iload_n dX11_played_33 rfl ?_
    refine go_callV mX11_plays dX11_played_34 lm_X11_162 okX11_plays isX11_plays sh_0 rfl (As := [.ref (ga G t1), .int l3]) (S := []) rfl rfl (Nat.le_of_ble_eq_true rfl) hF (k_i (fun r3 m2 hF => ?_))
    refine go_if_ne 42 dX11_played_37 rfl ⟨fun hc => ?_, fun hc => ?_⟩
    · have hF := hF.1 hc
      obtain ⟨x4, ex4⟩ : ∃ z : Int32, z = l3 + 1 := ⟨_, rfl⟩
      have hF := hF x4 ex4
      refine go_iinc (v := x4) (L' := [.ref (ga G 0), uu, .ref (ga G t1), .int x4]) dX11_played_42 rfl (by rw [ex4]; rfl) (Nat.le_of_ble_eq_true rfl) rfl ?_
      refine go_goto 23 dX11_played_45 rfl ?_
      exact hF
    · have hF := hF.2 hc
      refine go_iload_n dX11_played_40 rfl ?_
      exact go_iret (S := []) dX11_played_41 rfl ⟨_, rfl, hF⟩
theorem vX11_centuries (G : GP) (d : Nat) (a0 : Int32) (a1 : Int32) (m : Mem) (K : Int32 → Mem → Prop) (hF : ((0 ≤ a0 ∧ a0 ≤ 9999) → ((1 ≤ a1 ∧ a1 ≤ 40) → (((m.1 2 0) = 0) → K (-1) m) ∧ ((¬ (m.1 2 0) = 0) → ((¬ (m.1 2 4) = 0) → Evv G (d + 6) mX10_keepStep [.ref (ga G 1)] m (fun m1 => ∀ m2 : Mem, m2 = wI m1 12 3 ((a0 * 2) + 101) → Gw G (d + 7) mX11_centuries 71 [.ref (ga G 0), .int a0, .int a1, .ref (ga G 2), .int 0] [] m2 (Qi K))) ∧ (((m.1 2 4) = 0) → K (-1) m))) ∧ (¬ (1 ≤ a1 ∧ a1 ≤ 40) → K (-1) m)) ∧ (¬ (0 ≤ a0 ∧ a0 ≤ 9999) → K (-1) m)) : Evi G (d + 7) mX11_centuries [.ref (ga G 0), .int a0, .int a1] m K := by
  refine Ev.go [.ref (ga G 0), .int a0, .int a1, uu, uu] (by decide) (Nat.le_of_ble_eq_true rfl) rfl ?_
  refine go_aload_n dX11_centuries_0 rfl ?_
  refine go_getR (k := 0) (r := 1) dX11_centuries_1 sh_0 rfl inX11 (Nat.le_of_ble_eq_true rfl) lf_X11_10 rfl rfl ?_
  refine go_getR (k := 0) (r := 2) dX11_centuries_4 sh_1 rfl inX10 (Nat.le_of_ble_eq_true rfl) lf_X11_67 rfl rfl ?_
  refine go_astore_n (L' := [.ref (ga G 0), .int a0, .int a1, .ref (ga G 2), uu]) dX11_centuries_7 (Nat.le_of_ble_eq_true rfl) rfl ?_
  refine go_iload_n dX11_centuries_8 rfl ?_
  refine go_iconst (v := 0) dX11_centuries_9 (by decide) ?_
  refine go_sipush (v := 9999) dX11_centuries_10 (by decide) ?_
  rcases Classical.em (0 ≤ a0 ∧ a0 ≤ 9999) with hp | hp
  · have hF := hF.1 hp
    refine go_callS mX11_within dX11_centuries_13 lm_X11_81 okX11_within isX11_within (As := [.int a0, .int 0, .int 9999]) (S := []) rfl rfl (Nat.le_of_ble_eq_true rfl) (eX11_within G _ a0 0 9999 m (fun r m' => r = 1 ∧ m = m') ⟨fun _ => ⟨rfl, rfl⟩, fun q => absurd hp q⟩) (k_i (fun r m' hr => ?_))
    obtain ⟨hr1, hr2⟩ := hr
    subst hr1
    subst hr2
    refine go_if_eq 43 dX11_centuries_16 rfl ⟨fun hc => absurd hc (by decide), fun _ => ?_⟩
    refine go_iload_n dX11_centuries_19 rfl ?_
    refine go_iconst (v := 1) dX11_centuries_20 (by decide) ?_
    refine go_bipush (v := 40) dX11_centuries_21 (by decide) ?_
    rcases Classical.em (1 ≤ a1 ∧ a1 ≤ 40) with hp | hp
    · have hF := hF.1 hp
      refine go_callS mX11_within dX11_centuries_23 lm_X11_81 okX11_within isX11_within (As := [.int a1, .int 1, .int 40]) (S := []) rfl rfl (Nat.le_of_ble_eq_true rfl) (eX11_within G _ a1 1 40 m (fun r m' => r = 1 ∧ m = m') ⟨fun _ => ⟨rfl, rfl⟩, fun q => absurd hp q⟩) (k_i (fun r m' hr => ?_))
      obtain ⟨hr1, hr2⟩ := hr
      subst hr1
      subst hr2
      refine go_if_eq 43 dX11_centuries_26 rfl ⟨fun hc => absurd hc (by decide), fun _ => ?_⟩
      refine go_aload_n dX11_centuries_29 rfl ?_
      refine go_getI (k := 0) dX11_centuries_30 sh_2 rfl inX2 (Nat.le_of_ble_eq_true rfl) lf_X11_166 rfl ?_
      refine go_if_eq 43 dX11_centuries_33 rfl ⟨fun hc => ?_, fun hc => ?_⟩
      · have hF := hF.1 hc
        refine go_iconst (v := -1) dX11_centuries_43 (by decide) ?_
        exact go_iret (S := []) dX11_centuries_44 rfl ⟨_, rfl, hF⟩
      · have hF := hF.2 hc
        refine go_aload_n dX11_centuries_36 rfl ?_
        refine go_getI (k := 4) dX11_centuries_37 sh_2 rfl inX2 (Nat.le_of_ble_eq_true rfl) lf_X11_169 rfl ?_
        refine go_if_ne 45 dX11_centuries_40 rfl ⟨fun hc => ?_, fun hc => ?_⟩
        · have hF := hF.1 hc
          refine go_aload_n dX11_centuries_45 rfl ?_
          refine go_getR (k := 0) (r := 1) dX11_centuries_46 sh_0 rfl inX11 (Nat.le_of_ble_eq_true rfl) lf_X11_10 rfl rfl ?_
          refine go_callV mX10_keepStep dX11_centuries_49 lm_X11_121 okX10_keepStep isX10_keepStep sh_1 rfl (As := []) (S := []) rfl rfl (Nat.le_of_ble_eq_true rfl) hF (k_v (fun m1 hF => ?_))
          refine go_aload_n dX11_centuries_52 rfl ?_
          refine go_getR (k := 0) (r := 1) dX11_centuries_53 sh_0 rfl inX11 (Nat.le_of_ble_eq_true rfl) lf_X11_10 rfl rfl ?_
          refine go_getR (k := 1) (r := 12) dX11_centuries_56 sh_1 rfl inX10 (Nat.le_of_ble_eq_true rfl) lf_X11_134 rfl rfl ?_
          refine go_iload_n dX11_centuries_59 rfl ?_
          refine go_iconst (v := 2) dX11_centuries_60 (by decide) ?_
          refine go_imul dX11_centuries_61 ?_
          refine go_bipush (v := 101) dX11_centuries_62 (by decide) ?_
          refine go_iadd dX11_centuries_64 ?_
          refine go_putI (k := 3) dX11_centuries_65 sh_12 rfl inX5 (Nat.le_of_ble_eq_true rfl) lf_X11_172 tyX5 tyX5_ok nmX5 rfl rfl (by decide +kernel) ?_
          obtain ⟨m2, em2⟩ : ∃ z : Mem, z = wI m1 12 3 ((a0 * 2) + 101) := ⟨_, rfl⟩
          rw [← em2]
          have hF := hF m2 em2
          refine go_iconst (v := 0) dX11_centuries_68 (by decide) ?_
          refine go_istore (L' := [.ref (ga G 0), .int a0, .int a1, .ref (ga G 2), .int 0]) dX11_centuries_69 (Nat.le_of_ble_eq_true rfl) rfl ?_
          exact hF
        · have hF := hF.2 hc
          refine go_iconst (v := -1) dX11_centuries_43 (by decide) ?_
          exact go_iret (S := []) dX11_centuries_44 rfl ⟨_, rfl, hF⟩
    · have hF := hF.2 hp
      refine go_callS mX11_within dX11_centuries_23 lm_X11_81 okX11_within isX11_within (As := [.int a1, .int 1, .int 40]) (S := []) rfl rfl (Nat.le_of_ble_eq_true rfl) (eX11_within G _ a1 1 40 m (fun r m' => r = 0 ∧ m = m') ⟨fun q => absurd q hp, fun _ => ⟨rfl, rfl⟩⟩) (k_i (fun r m' hr => ?_))
      obtain ⟨hr1, hr2⟩ := hr
      subst hr1
      subst hr2
      refine go_if_eq 43 dX11_centuries_26 rfl ⟨fun _ => ?_, fun hc => absurd hc (by decide)⟩
      refine go_iconst (v := -1) dX11_centuries_43 (by decide) ?_
      exact go_iret (S := []) dX11_centuries_44 rfl ⟨_, rfl, hF⟩
  · have hF := hF.2 hp
    refine go_callS mX11_within dX11_centuries_13 lm_X11_81 okX11_within isX11_within (As := [.int a0, .int 0, .int 9999]) (S := []) rfl rfl (Nat.le_of_ble_eq_true rfl) (eX11_within G _ a0 0 9999 m (fun r m' => r = 0 ∧ m = m') ⟨fun q => absurd q hp, fun _ => ⟨rfl, rfl⟩⟩) (k_i (fun r m' hr => ?_))
    obtain ⟨hr1, hr2⟩ := hr
    subst hr1
    subst hr2
    refine go_if_eq 43 dX11_centuries_16 rfl ⟨fun _ => ?_, fun hc => absurd hc (by decide)⟩
    refine go_iconst (v := -1) dX11_centuries_43 (by decide) ?_
    exact go_iret (S := []) dX11_centuries_44 rfl ⟨_, rfl, hF⟩
theorem vX11_centuries_71 (G : GP) (d : Nat) (u1 : Value) (l2 : Int32) (u3 : Value) (l4 : Int32) (m : Mem) (K : Int32 → Mem → Prop) (hF : ((l2 ≤ l4) → K (m.1 12 2) m) ∧ ((¬ l2 ≤ l4) → Evv G (d + 6) mX11_chance [.ref (ga G 0)] m (fun m3 => ∀ x4 : Int32, x4 = l4 + 1 → Gw G (d + 7) mX11_centuries 71 [.ref (ga G 0), uu, .int l2, uu, .int x4] [] m3 (Qi K)))) : Gw G (d + 7) mX11_centuries 71 [.ref (ga G 0), u1, .int l2, u3, .int l4] [] m (Qi K) := by
  refine Gw.weak (L' := [.ref (ga G 0), uu, .int l2, uu, .int l4]) ⟨Or.inl rfl, Or.inr rfl, Or.inl rfl, Or.inr rfl, Or.inl rfl, trivial⟩ ?_
  refine go_iload dX11_centuries_71 rfl ?_
  refine go_iload_n dX11_centuries_73 rfl ?_
  refine go_icmp_ge 87 dX11_centuries_74 rfl ⟨fun hc => ?_, fun hc => ?_⟩
  · have hF := hF.1 hc
    refine go_aload_n dX11_centuries_87 rfl ?_
    refine go_getR (k := 0) (r := 1) dX11_centuries_88 sh_0 rfl inX11 (Nat.le_of_ble_eq_true rfl) lf_X11_10 rfl rfl ?_
    refine go_getR (k := 1) (r := 12) dX11_centuries_91 sh_1 rfl inX10 (Nat.le_of_ble_eq_true rfl) lf_X11_134 rfl rfl ?_
    refine go_getI (k := 2) dX11_centuries_94 sh_12 rfl inX5 (Nat.le_of_ble_eq_true rfl) lf_X11_146 rfl ?_
    exact go_iret (S := []) dX11_centuries_97 rfl ⟨_, rfl, hF⟩
  · have hF := hF.2 hc
    refine go_aload_n dX11_centuries_77 rfl ?_
    refine go_callV mX11_chance dX11_centuries_78 lm_X11_175 okX11_chance isX11_chance sh_0 rfl (As := []) (S := []) rfl rfl (Nat.le_of_ble_eq_true rfl) hF (k_v (fun m3 hF => ?_))
    obtain ⟨x4, ex4⟩ : ∃ z : Int32, z = l4 + 1 := ⟨_, rfl⟩
    have hF := hF x4 ex4
    refine go_iinc (v := x4) (L' := [.ref (ga G 0), uu, .int l2, uu, .int x4]) dX11_centuries_81 rfl (by rw [ex4]; rfl) (Nat.le_of_ble_eq_true rfl) rfl ?_
    refine go_goto 71 dX11_centuries_84 rfl ?_
    exact hF
theorem vX11_undo (G : GP) (d : Nat)  (m : Mem) (K : Int32 → Mem → Prop) (hF : Evi G (d + 2) mX6_takeBack [.ref (ga G 15), .ref (ga G 12)] m (fun r2 m1 => K r2 m1)) : Evi G (d + 3) mX11_undo [.ref (ga G 0)] m K := by
  refine Ev.go [.ref (ga G 0)] (by decide) (Nat.le_of_ble_eq_true rfl) rfl ?_
  refine go_aload_n dX11_undo_0 rfl ?_
  refine go_getR (k := 0) (r := 1) dX11_undo_1 sh_0 rfl inX11 (Nat.le_of_ble_eq_true rfl) lf_X11_10 rfl rfl ?_
  refine go_getR (k := 2) (r := 15) dX11_undo_4 sh_1 rfl inX10 (Nat.le_of_ble_eq_true rfl) lf_X11_178 rfl rfl ?_
  refine go_aload_n dX11_undo_7 rfl ?_
  refine go_getR (k := 0) (r := 1) dX11_undo_8 sh_0 rfl inX11 (Nat.le_of_ble_eq_true rfl) lf_X11_10 rfl rfl ?_
  refine go_getR (k := 1) (r := 12) dX11_undo_11 sh_1 rfl inX10 (Nat.le_of_ble_eq_true rfl) lf_X11_134 rfl rfl ?_
  refine go_callV mX6_takeBack dX11_undo_14 lm_X11_182 okX6_takeBack isX6_takeBack sh_15 rfl (As := [.ref (ga G 12)]) (S := []) rfl rfl (Nat.le_of_ble_eq_true rfl) hF (k_i (fun r2 m1 hF => ?_))
  exact go_iret (S := []) dX11_undo_17 rfl ⟨_, rfl, hF⟩
theorem vX11_strike (G : GP) (d : Nat) (a0 : Int32) (m : Mem) (K : Int32 → Mem → Prop) (hF : Evi G (d + 3) mX1_getsOver [.ref (ga G 262), .int a0, .int (m.1 12 4), .int (m.1 12 0)] m (fun r2 m1 => Evi G (d + 3) mX5_addStroke [.ref (ga G 12), .int a0, .int r2] m1 (fun r4 m3 => K r4 m3))) : Evi G (d + 4) mX11_strike [.ref (ga G 0), .int a0] m K := by
  refine Ev.go [.ref (ga G 0), .int a0, uu] (by decide) (Nat.le_of_ble_eq_true rfl) rfl ?_
  refine go_aload_n dX11_strike_0 rfl ?_
  refine go_getR (k := 0) (r := 1) dX11_strike_1 sh_0 rfl inX11 (Nat.le_of_ble_eq_true rfl) lf_X11_10 rfl rfl ?_
  refine go_getR (k := 1) (r := 12) dX11_strike_4 sh_1 rfl inX10 (Nat.le_of_ble_eq_true rfl) lf_X11_134 rfl rfl ?_
  refine go_astore_n (L' := [.ref (ga G 0), .int a0, .ref (ga G 12)]) dX11_strike_7 (Nat.le_of_ble_eq_true rfl) rfl ?_
  refine go_aload_n dX11_strike_8 rfl ?_
  refine go_iload_n dX11_strike_9 rfl ?_
  refine go_aload_n dX11_strike_10 rfl ?_
  refine go_getR (k := 6) (r := 262) dX11_strike_11 sh_0 rfl inX11 (Nat.le_of_ble_eq_true rfl) lf_X11_54 rfl rfl ?_
  refine go_iload_n dX11_strike_14 rfl ?_
  refine go_aload_n dX11_strike_15 rfl ?_
  refine go_getI (k := 4) dX11_strike_16 sh_12 rfl inX5 (Nat.le_of_ble_eq_true rfl) lf_X11_188 rfl ?_
  refine go_aload_n dX11_strike_19 rfl ?_
  refine go_getI (k := 0) dX11_strike_20 sh_12 rfl inX5 (Nat.le_of_ble_eq_true rfl) lf_X11_143 rfl ?_
  refine go_callV mX1_getsOver dX11_strike_23 lm_X11_191 okX1_getsOver isX1_getsOver sh_262 rfl (As := [.int a0, .int (m.1 12 4), .int (m.1 12 0)]) (S := [.int a0, .ref (ga G 12)]) rfl rfl (Nat.le_of_ble_eq_true rfl) hF (k_i (fun r2 m1 hF => ?_))
  refine go_callV mX5_addStroke dX11_strike_26 lm_X11_194 okX5_addStroke isX5_addStroke sh_12 rfl (As := [.int a0, .int r2]) (S := []) rfl rfl (Nat.le_of_ble_eq_true rfl) hF (k_i (fun r4 m3 hF => ?_))
  exact go_iret (S := []) dX11_strike_29 rfl ⟨_, rfl, hF⟩
theorem vX11_say (G : GP) (d : Nat) (a0 : Int32) (m : Mem) (K : Int32 → Mem → Prop) (hF : Gw G (d + 4) mX11_say 22 [.ref (ga G 0), .int a0, .ref (ga G 2), .ref (ga G 12), .int 0, .int 0, uu] [] m (Qi K)) : Evi G (d + 4) mX11_say [.ref (ga G 0), .int a0] m K := by
  refine Ev.go [.ref (ga G 0), .int a0, uu, uu, uu, uu, uu] (by decide) (Nat.le_of_ble_eq_true rfl) rfl ?_
  refine go_aload_n dX11_say_0 rfl ?_
  refine go_getR (k := 0) (r := 1) dX11_say_1 sh_0 rfl inX11 (Nat.le_of_ble_eq_true rfl) lf_X11_10 rfl rfl ?_
  refine go_getR (k := 0) (r := 2) dX11_say_4 sh_1 rfl inX10 (Nat.le_of_ble_eq_true rfl) lf_X11_67 rfl rfl ?_
  refine go_astore_n (L' := [.ref (ga G 0), .int a0, .ref (ga G 2), uu, uu, uu, uu]) dX11_say_7 (Nat.le_of_ble_eq_true rfl) rfl ?_
  refine go_aload_n dX11_say_8 rfl ?_
  refine go_getR (k := 0) (r := 1) dX11_say_9 sh_0 rfl inX11 (Nat.le_of_ble_eq_true rfl) lf_X11_10 rfl rfl ?_
  refine go_getR (k := 1) (r := 12) dX11_say_12 sh_1 rfl inX10 (Nat.le_of_ble_eq_true rfl) lf_X11_134 rfl rfl ?_
  refine go_astore_n (L' := [.ref (ga G 0), .int a0, .ref (ga G 2), .ref (ga G 12), uu, uu, uu]) dX11_say_15 (Nat.le_of_ble_eq_true rfl) rfl ?_
  refine go_iconst (v := 0) dX11_say_16 (by decide) ?_
  refine go_istore (L' := [.ref (ga G 0), .int a0, .ref (ga G 2), .ref (ga G 12), .int 0, uu, uu]) dX11_say_17 (Nat.le_of_ble_eq_true rfl) rfl ?_
  refine go_iconst (v := 0) dX11_say_19 (by decide) ?_
  refine go_istore (L' := [.ref (ga G 0), .int a0, .ref (ga G 2), .ref (ga G 12), .int 0, .int 0, uu]) dX11_say_20 (Nat.le_of_ble_eq_true rfl) rfl ?_
  exact hF
theorem vX11_say_22 (G : GP) (d : Nat) (l1 : Int32) (l4 : Int32) (l5 : Int32) (u6 : Value) (m : Mem) (K : Int32 → Mem → Prop) (hF : vp_in l1 10 ∧ (((m.1 7 l1.toNatClampNeg) ≤ l5) → K l4 m) ∧ ((¬ (m.1 7 l1.toNatClampNeg) ≤ l5) → ((0 ≤ l1 ∧ l1 < m.1 2 4) ∧ (0 ≤ l5 ∧ l5 ≤ 3) → vp_in (l1 * 4 + l5) 40) ∧ ∀ x1 : Int32, x1 = strC m l1 l5 → Evi G (d + 3) mX1_getsOver [.ref (ga G 262), .int x1, .int (m.1 12 4), .int (m.1 12 0)] m (fun r3 m2 => Evi G (d + 3) mX5_addStroke [.ref (ga G 12), .int x1, .int r3] m2 (fun r5 m4 => ∀ x6 : Int32, x6 = l4 + r5 → ∀ x7 : Int32, x7 = l5 + 1 → Gw G (d + 4) mX11_say 22 [.ref (ga G 0), .int l1, .ref (ga G 2), .ref (ga G 12), .int x6, .int x7, .int x1] [] m4 (Qi K))))) : Gw G (d + 4) mX11_say 22 [.ref (ga G 0), .int l1, .ref (ga G 2), .ref (ga G 12), .int l4, .int l5, u6] [] m (Qi K) := by
  refine Gw.weak (L' := [.ref (ga G 0), .int l1, .ref (ga G 2), .ref (ga G 12), .int l4, .int l5, uu]) ⟨Or.inl rfl, Or.inl rfl, Or.inl rfl, Or.inl rfl, Or.inl rfl, Or.inl rfl, Or.inr rfl, trivial⟩ ?_
  refine go_iload dX11_say_22 rfl ?_
  refine go_aload_n dX11_say_24 rfl ?_
  refine go_getR (k := 6) (r := 7) dX11_say_25 sh_2 rfl inX2 (Nat.le_of_ble_eq_true rfl) lf_X11_198 rfl rfl ?_
  refine go_iload_n dX11_say_28 rfl ?_
  obtain ⟨hi, hF⟩ := hF
  refine go_iald dX11_say_29 sh_7 hi ?_
  refine go_icmp_ge 76 dX11_say_30 rfl ⟨fun hc => ?_, fun hc => ?_⟩
  · have hF := hF.1 hc
    refine go_iload dX11_say_76 rfl ?_
    exact go_iret (S := []) dX11_say_78 rfl ⟨_, rfl, hF⟩
  · have hF := hF.2 hc
    refine go_aload_n dX11_say_33 rfl ?_
    refine go_iload_n dX11_say_34 rfl ?_
    refine go_iload dX11_say_35 rfl ?_
    obtain ⟨ho, hF⟩ := hF
    refine go_callV mX2_strokeOf dX11_say_37 lm_X11_201 okX2_strokeOf isX2_strokeOf sh_2 rfl (As := [.int l1, .int l5]) (S := []) rfl rfl (Nat.le_of_ble_eq_true rfl) (eX2_strokeOf G _ l1 l5 m (fun r m' => r = strC m l1 l5 ∧ m = m') ho ⟨rfl, rfl⟩) (k_i (fun r m' hr => ?_))
    obtain ⟨hr1, hr2⟩ := hr
    subst hr1
    subst hr2
    refine Gw.namei (fun x1 ex1 => ?_)
    have hF := hF x1 ex1
    refine go_istore (L' := [.ref (ga G 0), .int l1, .ref (ga G 2), .ref (ga G 12), .int l4, .int l5, .int x1]) dX11_say_40 (Nat.le_of_ble_eq_true rfl) rfl ?_
    refine go_iload dX11_say_42 rfl ?_
    refine go_aload_n dX11_say_44 rfl ?_
    refine go_iload dX11_say_45 rfl ?_
    refine go_aload_n dX11_say_47 rfl ?_
    refine go_getR (k := 6) (r := 262) dX11_say_48 sh_0 rfl inX11 (Nat.le_of_ble_eq_true rfl) lf_X11_54 rfl rfl ?_
    refine go_iload dX11_say_51 rfl ?_
    refine go_aload_n dX11_say_53 rfl ?_
    refine go_getI (k := 4) dX11_say_54 sh_12 rfl inX5 (Nat.le_of_ble_eq_true rfl) lf_X11_188 rfl ?_
    refine go_aload_n dX11_say_57 rfl ?_
    refine go_getI (k := 0) dX11_say_58 sh_12 rfl inX5 (Nat.le_of_ble_eq_true rfl) lf_X11_143 rfl ?_
    refine go_callV mX1_getsOver dX11_say_61 lm_X11_191 okX1_getsOver isX1_getsOver sh_262 rfl (As := [.int x1, .int (m.1 12 4), .int (m.1 12 0)]) (S := [.int x1, .ref (ga G 12), .int l4]) rfl rfl (Nat.le_of_ble_eq_true rfl) hF (k_i (fun r3 m2 hF => ?_))
    refine go_callV mX5_addStroke dX11_say_64 lm_X11_194 okX5_addStroke isX5_addStroke sh_12 rfl (As := [.int x1, .int r3]) (S := [.int l4]) rfl rfl (Nat.le_of_ble_eq_true rfl) hF (k_i (fun r5 m4 hF => ?_))
    refine go_iadd dX11_say_67 ?_
    refine Gw.namei (fun x6 ex6 => ?_)
    have hF := hF x6 ex6
    refine go_istore (L' := [.ref (ga G 0), .int l1, .ref (ga G 2), .ref (ga G 12), .int x6, .int l5, .int x1]) dX11_say_68 (Nat.le_of_ble_eq_true rfl) rfl ?_
    obtain ⟨x7, ex7⟩ : ∃ z : Int32, z = l5 + 1 := ⟨_, rfl⟩
    have hF := hF x7 ex7
    refine go_iinc (v := x7) (L' := [.ref (ga G 0), .int l1, .ref (ga G 2), .ref (ga G 12), .int x6, .int x7, .int x1]) dX11_say_70 rfl (by rw [ex7]; rfl) (Nat.le_of_ble_eq_true rfl) rfl ?_
    refine go_goto 22 dX11_say_73 rfl ?_
    exact hF
theorem vX11_passHours (G : GP) (d : Nat) (a0 : Int32) (m : Mem) (K : Int32 → Mem → Prop) (hF : Gw G (d + 4) mX11_passHours 2 [.ref (ga G 0), .int a0, .int 0] [] m (Qi K)) : Evi G (d + 4) mX11_passHours [.ref (ga G 0), .int a0] m K := by
  refine Ev.go [.ref (ga G 0), .int a0, uu] (by decide) (Nat.le_of_ble_eq_true rfl) rfl ?_
  refine go_iconst (v := 0) dX11_passHours_0 (by decide) ?_
  refine go_istore_n (L' := [.ref (ga G 0), .int a0, .int 0]) dX11_passHours_1 (Nat.le_of_ble_eq_true rfl) rfl ?_
  exact hF
theorem vX11_passHours_2 (G : GP) (d : Nat) (l1 : Int32) (l2 : Int32) (m : Mem) (K : Int32 → Mem → Prop) (hF : ((l1 ≤ l2) → K 1 m) ∧ ((¬ l1 ≤ l2) → (((m.1 12 2) < 9999) → Evv G (d + 3) mX10_keepStep [.ref (ga G 1)] m (fun m1 => Evv G (d + 3) mX5_passHour [.ref (ga G 12)] m1 (fun m2 => ∀ x3 : Int32, x3 = l2 + 1 → Gw G (d + 4) mX11_passHours 2 [.ref (ga G 0), .int l1, .int x3] [] m2 (Qi K)))) ∧ ((¬ (m.1 12 2) < 9999) → K 0 m))) : Gw G (d + 4) mX11_passHours 2 [.ref (ga G 0), .int l1, .int l2] [] m (Qi K) := by
  refine go_iload_n dX11_passHours_2 rfl ?_
  refine go_iload_n dX11_passHours_3 rfl ?_
  refine go_icmp_ge 48 dX11_passHours_4 rfl ⟨fun hc => ?_, fun hc => ?_⟩
  · have hF := hF.1 hc
    refine go_iconst (v := 1) dX11_passHours_48 (by decide) ?_
    exact go_zret (S := []) dX11_passHours_49 rfl (by decide) ⟨_, rfl, hF⟩
  · have hF := hF.2 hc
    refine go_aload_n dX11_passHours_7 rfl ?_
    refine go_getR (k := 0) (r := 1) dX11_passHours_8 sh_0 rfl inX11 (Nat.le_of_ble_eq_true rfl) lf_X11_10 rfl rfl ?_
    refine go_getR (k := 1) (r := 12) dX11_passHours_11 sh_1 rfl inX10 (Nat.le_of_ble_eq_true rfl) lf_X11_134 rfl rfl ?_
    refine go_getI (k := 2) dX11_passHours_14 sh_12 rfl inX5 (Nat.le_of_ble_eq_true rfl) lf_X11_146 rfl ?_
    refine go_sipush (v := 9999) dX11_passHours_17 (by decide) ?_
    refine go_icmp_lt 25 dX11_passHours_20 rfl ⟨fun hc => ?_, fun hc => ?_⟩
    · have hF := hF.1 hc
      refine go_aload_n dX11_passHours_25 rfl ?_
      refine go_getR (k := 0) (r := 1) dX11_passHours_26 sh_0 rfl inX11 (Nat.le_of_ble_eq_true rfl) lf_X11_10 rfl rfl ?_
      refine go_callV mX10_keepStep dX11_passHours_29 lm_X11_121 okX10_keepStep isX10_keepStep sh_1 rfl (As := []) (S := []) rfl rfl (Nat.le_of_ble_eq_true rfl) hF (k_v (fun m1 hF => ?_))
      refine go_aload_n dX11_passHours_32 rfl ?_
      refine go_getR (k := 0) (r := 1) dX11_passHours_33 sh_0 rfl inX11 (Nat.le_of_ble_eq_true rfl) lf_X11_10 rfl rfl ?_
      refine go_getR (k := 1) (r := 12) dX11_passHours_36 sh_1 rfl inX10 (Nat.le_of_ble_eq_true rfl) lf_X11_134 rfl rfl ?_
      refine go_callV mX5_passHour dX11_passHours_39 lm_X11_205 okX5_passHour isX5_passHour sh_12 rfl (As := []) (S := []) rfl rfl (Nat.le_of_ble_eq_true rfl) hF (k_v (fun m2 hF => ?_))
      obtain ⟨x3, ex3⟩ : ∃ z : Int32, z = l2 + 1 := ⟨_, rfl⟩
      have hF := hF x3 ex3
      refine go_iinc (v := x3) (L' := [.ref (ga G 0), .int l1, .int x3]) dX11_passHours_42 rfl (by rw [ex3]; rfl) (Nat.le_of_ble_eq_true rfl) rfl ?_
      refine go_goto 2 dX11_passHours_45 rfl ?_
      exact hF
    · have hF := hF.2 hc
      refine go_iconst (v := 0) dX11_passHours_23 (by decide) ?_
      exact go_zret (S := []) dX11_passHours_24 rfl (by decide) ⟨_, rfl, hF⟩
theorem vX11_plays (G : GP) (d : Nat) (p0 : Nat) (hp0 : TxAt p0) (a1 : Int32) (m : Mem) (K : Int32 → Mem → Prop) (hF : Evi G (d + 5) mX8_told [.ref (ga G p0), .int a1, .int 0] m (fun r2 m1 => Evi G (d + 5) mX8_what [.ref (ga G p0), .int a1] m1 (fun r4 m3 => (r4 = 103 → Evi G (d + 5) mX8_told [.ref (ga G p0), .int a1, .int 1] m3 (fun r6 m5 => Evi G (d + 5) mX8_told [.ref (ga G p0), .int a1, .int 2] m5 (fun r8 m7 => Evi G (d + 5) mX11_bell [.ref (ga G 0), .int r2, .int r6, .int r8] m7 (fun r10 m9 => ((r10 = (-1)) → K 0 m9) ∧ ((¬ r10 = (-1)) → K 1 m9))))) ∧ (r4 = 104 → Evi G (d + 5) mX8_told [.ref (ga G p0), .int a1, .int 2] m3 (fun r12 m11 => Evi G (d + 5) mX8_told [.ref (ga G p0), .int a1, .int 3] m11 (fun r14 m13 => Evi G (d + 5) mX8_told [.ref (ga G p0), .int a1, .int 4] m13 (fun r16 m15 => Evi G (d + 5) mX8_told [.ref (ga G p0), .int a1, .int 5] m15 (fun r18 m17 => Evi G (d + 5) mX8_told [.ref (ga G p0), .int a1, .int 1] m17 (fun r20 m19 => Evi G (d + 5) mX10_addWord [.ref (ga G 1), .int r12, .int r14, .int r16, .int r18, .int r2, .int r20] m19 (fun r22 m21 => ((r22 = (-1)) → K 0 m21) ∧ ((¬ r22 = (-1)) → K 1 m21)))))))) ∧ (r4 = 105 → Evi G (d + 5) mX11_ring [.ref (ga G 0), .int r2] m3 (fun r24 m23 => ((r24 = (-1)) → K 0 m23) ∧ ((¬ r24 = (-1)) → K 1 m23))) ∧ (r4 = 106 → Evi G (d + 5) mX11_speak [.ref (ga G 0), .int r2] m3 (fun r26 m25 => ((r26 = (-1)) → K 0 m25) ∧ ((¬ r26 = (-1)) → K 1 m25))) ∧ (r4 = 107 → Evi G (d + 5) mX11_set [.ref (ga G 0), .int 0, .int r2] m3 (fun r28 m27 => (r28 = 0 ∨ r28 = 1) ∧ K r28 m27)) ∧ (r4 = 108 → Evi G (d + 5) mX11_set [.ref (ga G 0), .int 1, .int r2] m3 (fun r30 m29 => (r30 = 0 ∨ r30 = 1) ∧ K r30 m29)) ∧ (r4 = 109 → Evi G (d + 5) mX11_passHours [.ref (ga G 0), .int r2] m3 (fun r32 m31 => (r32 = 0 ∨ r32 = 1) ∧ K r32 m31)) ∧ (r4 = 110 → Evv G (d + 5) mX10_keepStep [.ref (ga G 1)] m3 (fun m33 => Evi G (d + 5) mX0_waysToRead [.ref (ga G 266), .int 1] m33 (fun r35 m34 => Evi G (d + 5) mX5_writeSunday [.ref (ga G 12), .int r35] m34 (fun r37 m36 => K 1 m36)))) ∧ (¬ r4 = 103 ∧ ¬ r4 = 104 ∧ ¬ r4 = 105 ∧ ¬ r4 = 106 ∧ ¬ r4 = 107 ∧ ¬ r4 = 108 ∧ ¬ r4 = 109 ∧ ¬ r4 = 110 → K 1 m3)))) : Evi G (d + 6) mX11_plays [.ref (ga G 0), .ref (ga G p0), .int a1] m K := by
  refine Ev.go [.ref (ga G 0), .ref (ga G p0), .int a1, uu] (by decide) (Nat.le_of_ble_eq_true rfl) rfl ?_
  refine go_aload_n dX11_plays_0 rfl ?_
  refine go_iload_n dX11_plays_1 rfl ?_
  refine go_iconst (v := 0) dX11_plays_2 (by decide) ?_
  refine go_callV mX8_told dX11_plays_3 lm_X11_208 okX8_told isX8_told hp0.1 rfl (As := [.int a1, .int 0]) (S := []) rfl rfl (Nat.le_of_ble_eq_true rfl) hF (k_i (fun r2 m1 hF => ?_))
  refine go_istore_n (L' := [.ref (ga G 0), .ref (ga G p0), .int a1, .int r2]) dX11_plays_6 (Nat.le_of_ble_eq_true rfl) rfl ?_
  refine go_aload_n dX11_plays_7 rfl ?_
  refine go_iload_n dX11_plays_8 rfl ?_
  refine go_callV mX8_what dX11_plays_9 lm_X11_211 okX8_what isX8_what hp0.1 rfl (As := [.int a1]) (S := []) rfl rfl (Nat.le_of_ble_eq_true rfl) hF (k_i (fun r4 m3 hF => ?_))
  rcases Decidable.em (r4 = 103) with hc0 | hc0
  · have hF := hF.1 hc0
    refine go_tabIn (off := 48) 60 dX11_plays_12 (by rw [hc0]; decide) (by rw [hc0]; decide) (by rw [hc0]; rfl) rfl ?_
    refine go_aload_n dX11_plays_60 rfl ?_
    refine go_iload_n dX11_plays_61 rfl ?_
    refine go_aload_n dX11_plays_62 rfl ?_
    refine go_iload_n dX11_plays_63 rfl ?_
    refine go_iconst (v := 1) dX11_plays_64 (by decide) ?_
    refine go_callV mX8_told dX11_plays_65 lm_X11_208 okX8_told isX8_told hp0.1 rfl (As := [.int a1, .int 1]) (S := [.int r2, .ref (ga G 0)]) rfl rfl (Nat.le_of_ble_eq_true rfl) hF (k_i (fun r6 m5 hF => ?_))
    refine go_aload_n dX11_plays_68 rfl ?_
    refine go_iload_n dX11_plays_69 rfl ?_
    refine go_iconst (v := 2) dX11_plays_70 (by decide) ?_
    refine go_callV mX8_told dX11_plays_71 lm_X11_208 okX8_told isX8_told hp0.1 rfl (As := [.int a1, .int 2]) (S := [.int r6, .int r2, .ref (ga G 0)]) rfl rfl (Nat.le_of_ble_eq_true rfl) hF (k_i (fun r8 m7 hF => ?_))
    refine go_callV mX11_bell dX11_plays_74 lm_X11_214 okX11_bell isX11_bell sh_0 rfl (As := [.int r2, .int r6, .int r8]) (S := []) rfl rfl (Nat.le_of_ble_eq_true rfl) hF (k_i (fun r10 m9 hF => ?_))
    refine go_iconst (v := -1) dX11_plays_77 (by decide) ?_
    refine go_icmp_eq 85 dX11_plays_78 rfl ⟨fun hc => ?_, fun hc => ?_⟩
    · have hF := hF.1 hc
      refine go_iconst (v := 0) dX11_plays_85 (by decide) ?_
      exact go_zret (S := []) dX11_plays_86 rfl (by decide) ⟨_, rfl, hF⟩
    · have hF := hF.2 hc
      refine go_iconst (v := 1) dX11_plays_81 (by decide) ?_
      refine go_goto 86 dX11_plays_82 rfl ?_
      exact go_zret (S := []) dX11_plays_86 rfl (by decide) ⟨_, rfl, hF⟩
  rcases Decidable.em (r4 = 104) with hc1 | hc1
  · have hF := hF.2.1 hc1
    refine go_tabIn (off := 75) 87 dX11_plays_12 (by rw [hc1]; decide) (by rw [hc1]; decide) (by rw [hc1]; rfl) rfl ?_
    refine go_aload_n dX11_plays_87 rfl ?_
    refine go_getR (k := 0) (r := 1) dX11_plays_88 sh_0 rfl inX11 (Nat.le_of_ble_eq_true rfl) lf_X11_10 rfl rfl ?_
    refine go_aload_n dX11_plays_91 rfl ?_
    refine go_iload_n dX11_plays_92 rfl ?_
    refine go_iconst (v := 2) dX11_plays_93 (by decide) ?_
    refine go_callV mX8_told dX11_plays_94 lm_X11_208 okX8_told isX8_told hp0.1 rfl (As := [.int a1, .int 2]) (S := [.ref (ga G 1)]) rfl rfl (Nat.le_of_ble_eq_true rfl) hF (k_i (fun r12 m11 hF => ?_))
    refine go_aload_n dX11_plays_97 rfl ?_
    refine go_iload_n dX11_plays_98 rfl ?_
    refine go_iconst (v := 3) dX11_plays_99 (by decide) ?_
    refine go_callV mX8_told dX11_plays_100 lm_X11_208 okX8_told isX8_told hp0.1 rfl (As := [.int a1, .int 3]) (S := [.int r12, .ref (ga G 1)]) rfl rfl (Nat.le_of_ble_eq_true rfl) hF (k_i (fun r14 m13 hF => ?_))
    refine go_aload_n dX11_plays_103 rfl ?_
    refine go_iload_n dX11_plays_104 rfl ?_
    refine go_iconst (v := 4) dX11_plays_105 (by decide) ?_
    refine go_callV mX8_told dX11_plays_106 lm_X11_208 okX8_told isX8_told hp0.1 rfl (As := [.int a1, .int 4]) (S := [.int r14, .int r12, .ref (ga G 1)]) rfl rfl (Nat.le_of_ble_eq_true rfl) hF (k_i (fun r16 m15 hF => ?_))
    refine go_aload_n dX11_plays_109 rfl ?_
    refine go_iload_n dX11_plays_110 rfl ?_
    refine go_iconst (v := 5) dX11_plays_111 (by decide) ?_
    refine go_callV mX8_told dX11_plays_112 lm_X11_208 okX8_told isX8_told hp0.1 rfl (As := [.int a1, .int 5]) (S := [.int r16, .int r14, .int r12, .ref (ga G 1)]) rfl rfl (Nat.le_of_ble_eq_true rfl) hF (k_i (fun r18 m17 hF => ?_))
    refine go_iload_n dX11_plays_115 rfl ?_
    refine go_aload_n dX11_plays_116 rfl ?_
    refine go_iload_n dX11_plays_117 rfl ?_
    refine go_iconst (v := 1) dX11_plays_118 (by decide) ?_
    refine go_callV mX8_told dX11_plays_119 lm_X11_208 okX8_told isX8_told hp0.1 rfl (As := [.int a1, .int 1]) (S := [.int r2, .int r18, .int r16, .int r14, .int r12, .ref (ga G 1)]) rfl rfl (Nat.le_of_ble_eq_true rfl) hF (k_i (fun r20 m19 hF => ?_))
    refine go_callV mX10_addWord dX11_plays_122 lm_X11_77 okX10_addWord isX10_addWord sh_1 rfl (As := [.int r12, .int r14, .int r16, .int r18, .int r2, .int r20]) (S := []) rfl rfl (Nat.le_of_ble_eq_true rfl) hF (k_i (fun r22 m21 hF => ?_))
    refine go_iconst (v := -1) dX11_plays_125 (by decide) ?_
    refine go_icmp_eq 133 dX11_plays_126 rfl ⟨fun hc => ?_, fun hc => ?_⟩
    · have hF := hF.1 hc
      refine go_iconst (v := 0) dX11_plays_133 (by decide) ?_
      exact go_zret (S := []) dX11_plays_134 rfl (by decide) ⟨_, rfl, hF⟩
    · have hF := hF.2 hc
      refine go_iconst (v := 1) dX11_plays_129 (by decide) ?_
      refine go_goto 134 dX11_plays_130 rfl ?_
      exact go_zret (S := []) dX11_plays_134 rfl (by decide) ⟨_, rfl, hF⟩
  rcases Decidable.em (r4 = 105) with hc2 | hc2
  · have hF := hF.2.2.1 hc2
    refine go_tabIn (off := 123) 135 dX11_plays_12 (by rw [hc2]; decide) (by rw [hc2]; decide) (by rw [hc2]; rfl) rfl ?_
    refine go_aload_n dX11_plays_135 rfl ?_
    refine go_iload_n dX11_plays_136 rfl ?_
    refine go_callV mX11_ring dX11_plays_137 lm_X11_217 okX11_ring isX11_ring sh_0 rfl (As := [.int r2]) (S := []) rfl rfl (Nat.le_of_ble_eq_true rfl) hF (k_i (fun r24 m23 hF => ?_))
    refine go_iconst (v := -1) dX11_plays_140 (by decide) ?_
    refine go_icmp_eq 148 dX11_plays_141 rfl ⟨fun hc => ?_, fun hc => ?_⟩
    · have hF := hF.1 hc
      refine go_iconst (v := 0) dX11_plays_148 (by decide) ?_
      exact go_zret (S := []) dX11_plays_149 rfl (by decide) ⟨_, rfl, hF⟩
    · have hF := hF.2 hc
      refine go_iconst (v := 1) dX11_plays_144 (by decide) ?_
      refine go_goto 149 dX11_plays_145 rfl ?_
      exact go_zret (S := []) dX11_plays_149 rfl (by decide) ⟨_, rfl, hF⟩
  rcases Decidable.em (r4 = 106) with hc3 | hc3
  · have hF := hF.2.2.2.1 hc3
    refine go_tabIn (off := 138) 150 dX11_plays_12 (by rw [hc3]; decide) (by rw [hc3]; decide) (by rw [hc3]; rfl) rfl ?_
    refine go_aload_n dX11_plays_150 rfl ?_
    refine go_iload_n dX11_plays_151 rfl ?_
    refine go_callV mX11_speak dX11_plays_152 lm_X11_220 okX11_speak isX11_speak sh_0 rfl (As := [.int r2]) (S := []) rfl rfl (Nat.le_of_ble_eq_true rfl) hF (k_i (fun r26 m25 hF => ?_))
    refine go_iconst (v := -1) dX11_plays_155 (by decide) ?_
    refine go_icmp_eq 163 dX11_plays_156 rfl ⟨fun hc => ?_, fun hc => ?_⟩
    · have hF := hF.1 hc
      refine go_iconst (v := 0) dX11_plays_163 (by decide) ?_
      exact go_zret (S := []) dX11_plays_164 rfl (by decide) ⟨_, rfl, hF⟩
    · have hF := hF.2 hc
      refine go_iconst (v := 1) dX11_plays_159 (by decide) ?_
      refine go_goto 164 dX11_plays_160 rfl ?_
      exact go_zret (S := []) dX11_plays_164 rfl (by decide) ⟨_, rfl, hF⟩
  rcases Decidable.em (r4 = 107) with hc4 | hc4
  · have hF := hF.2.2.2.2.1 hc4
    refine go_tabIn (off := 153) 165 dX11_plays_12 (by rw [hc4]; decide) (by rw [hc4]; decide) (by rw [hc4]; rfl) rfl ?_
    refine go_aload_n dX11_plays_165 rfl ?_
    refine go_iconst (v := 0) dX11_plays_166 (by decide) ?_
    refine go_iload_n dX11_plays_167 rfl ?_
    refine go_callV mX11_set dX11_plays_168 lm_X11_223 okX11_set isX11_set sh_0 rfl (As := [.int 0, .int r2]) (S := []) rfl rfl (Nat.le_of_ble_eq_true rfl) hF (k_i (fun r28 m27 hF => ?_))
    exact go_zret (S := []) dX11_plays_171 rfl hF.1 ⟨_, rfl, hF.2⟩
  rcases Decidable.em (r4 = 108) with hc5 | hc5
  · have hF := hF.2.2.2.2.2.1 hc5
    refine go_tabIn (off := 160) 172 dX11_plays_12 (by rw [hc5]; decide) (by rw [hc5]; decide) (by rw [hc5]; rfl) rfl ?_
    refine go_aload_n dX11_plays_172 rfl ?_
    refine go_iconst (v := 1) dX11_plays_173 (by decide) ?_
    refine go_iload_n dX11_plays_174 rfl ?_
    refine go_callV mX11_set dX11_plays_175 lm_X11_223 okX11_set isX11_set sh_0 rfl (As := [.int 1, .int r2]) (S := []) rfl rfl (Nat.le_of_ble_eq_true rfl) hF (k_i (fun r30 m29 hF => ?_))
    exact go_zret (S := []) dX11_plays_178 rfl hF.1 ⟨_, rfl, hF.2⟩
  rcases Decidable.em (r4 = 109) with hc6 | hc6
  · have hF := hF.2.2.2.2.2.2.1 hc6
    refine go_tabIn (off := 167) 179 dX11_plays_12 (by rw [hc6]; decide) (by rw [hc6]; decide) (by rw [hc6]; rfl) rfl ?_
    refine go_aload_n dX11_plays_179 rfl ?_
    refine go_iload_n dX11_plays_180 rfl ?_
    refine go_callV mX11_passHours dX11_plays_181 lm_X11_149 okX11_passHours isX11_passHours sh_0 rfl (As := [.int r2]) (S := []) rfl rfl (Nat.le_of_ble_eq_true rfl) hF (k_i (fun r32 m31 hF => ?_))
    exact go_zret (S := []) dX11_plays_184 rfl hF.1 ⟨_, rfl, hF.2⟩
  rcases Decidable.em (r4 = 110) with hc7 | hc7
  · have hF := hF.2.2.2.2.2.2.2.1 hc7
    refine go_tabIn (off := 173) 185 dX11_plays_12 (by rw [hc7]; decide) (by rw [hc7]; decide) (by rw [hc7]; rfl) rfl ?_
    refine go_aload_n dX11_plays_185 rfl ?_
    refine go_getR (k := 0) (r := 1) dX11_plays_186 sh_0 rfl inX11 (Nat.le_of_ble_eq_true rfl) lf_X11_10 rfl rfl ?_
    refine go_callV mX10_keepStep dX11_plays_189 lm_X11_121 okX10_keepStep isX10_keepStep sh_1 rfl (As := []) (S := []) rfl rfl (Nat.le_of_ble_eq_true rfl) hF (k_v (fun m33 hF => ?_))
    refine go_aload_n dX11_plays_192 rfl ?_
    refine go_getR (k := 0) (r := 1) dX11_plays_193 sh_0 rfl inX11 (Nat.le_of_ble_eq_true rfl) lf_X11_10 rfl rfl ?_
    refine go_getR (k := 1) (r := 12) dX11_plays_196 sh_1 rfl inX10 (Nat.le_of_ble_eq_true rfl) lf_X11_134 rfl rfl ?_
    refine go_aload_n dX11_plays_199 rfl ?_
    refine go_getR (k := 7) (r := 266) dX11_plays_200 sh_0 rfl inX11 (Nat.le_of_ble_eq_true rfl) lf_X11_63 rfl rfl ?_
    refine go_iconst (v := 1) dX11_plays_203 (by decide) ?_
    refine go_callV mX0_waysToRead dX11_plays_204 lm_X11_152 okX0_waysToRead isX0_waysToRead sh_266 rfl (As := [.int 1]) (S := [.ref (ga G 12)]) rfl rfl (Nat.le_of_ble_eq_true rfl) hF (k_i (fun r35 m34 hF => ?_))
    refine go_callV mX5_writeSunday dX11_plays_207 lm_X11_156 okX5_writeSunday isX5_writeSunday sh_12 rfl (As := [.int r35]) (S := []) rfl rfl (Nat.le_of_ble_eq_true rfl) hF (k_i (fun r37 m36 hF => ?_))
    refine go_pop dX11_plays_210 rfl ?_
    refine go_iconst (v := 1) dX11_plays_211 (by decide) ?_
    exact go_zret (S := []) dX11_plays_212 rfl (by decide) ⟨_, rfl, hF⟩
  have hF := hF.2.2.2.2.2.2.2.2 ⟨hc0, hc1, hc2, hc3, hc4, hc5, hc6, hc7⟩
  refine go_tabOut 213 dX11_plays_12 (tab_out [103, 104, 105, 106, 107, 108, 109, 110] 103 110 r4 (by decide) (by simp only [List.forall_mem_cons, List.not_mem_nil, false_implies, implies_true, and_true]; exact ⟨hc0, hc1, hc2, hc3, hc4, hc5, hc6, hc7⟩)) rfl ?_
  refine go_iconst (v := 1) dX11_plays_213 (by decide) ?_
  exact go_zret (S := []) dX11_plays_214 rfl (by decide) ⟨_, rfl, hF⟩
theorem vX11_chance (G : GP) (d : Nat)  (m : Mem) (K : Mem → Prop) (hF : (((m.1 2 0) = 0) → K m) ∧ ((¬ (m.1 2 0) = 0) → ((¬ (m.1 2 4) = 0) → ∀ x1 : Int32, x1 = m.1 12 3 → Evv G (d + 5) mX5_turn [.ref (ga G 12)] m (fun m2 => ((x1 - x1 / 5 * 5) = 0 → ¬ (m2.1 2 0) = 0 ∧ Evi G (d + 5) mX10_canStrike [.ref (ga G 1), .int (x1 - x1 / (m2.1 2 0) * (m2.1 2 0))] m2 (fun r4 m3 => ((r4 = 0) → K m3) ∧ ((¬ r4 = 0) → ¬ (m3.1 2 0) = 0 ∧ Evi G (d + 5) mX11_strike [.ref (ga G 0), .int (x1 - x1 / (m3.1 2 0) * (m3.1 2 0))] m3 (fun r6 m5 => K m5)))) ∧ ((x1 - x1 / 5 * 5) = 1 → ¬ (m2.1 2 4) = 0 ∧ Evi G (d + 5) mX10_canSay [.ref (ga G 1), .int (x1 - x1 / (m2.1 2 4) * (m2.1 2 4))] m2 (fun r8 m7 => ((r8 = 0) → K m7) ∧ ((¬ r8 = 0) → ¬ (m7.1 2 4) = 0 ∧ Evi G (d + 5) mX11_say [.ref (ga G 0), .int (x1 - x1 / (m7.1 2 4) * (m7.1 2 4))] m7 (fun r10 m9 => K m9)))) ∧ ((x1 - x1 / 5 * 5) = 2 → Evi G (d + 5) mX0_waysToRead [.ref (ga G 266), .int 1] m2 (fun r12 m11 => Evi G (d + 5) mX5_writeSunday [.ref (ga G 12), .int r12] m11 (fun r14 m13 => K m13))) ∧ (¬ (x1 - x1 / 5 * 5) = 0 ∧ ¬ (x1 - x1 / 5 * 5) = 1 ∧ ¬ (x1 - x1 / 5 * 5) = 2 → ((9999 ≤ (m2.1 12 2)) → K m2) ∧ ((¬ 9999 ≤ (m2.1 12 2)) → Evv G (d + 5) mX5_passHour [.ref (ga G 12)] m2 (fun m15 => K m15))))) ∧ (((m.1 2 4) = 0) → K m))) : Evv G (d + 6) mX11_chance [.ref (ga G 0)] m K := by
  refine Ev.go [.ref (ga G 0), uu, uu, uu] (by decide) (Nat.le_of_ble_eq_true rfl) rfl ?_
  refine go_aload_n dX11_chance_0 rfl ?_
  refine go_getR (k := 0) (r := 1) dX11_chance_1 sh_0 rfl inX11 (Nat.le_of_ble_eq_true rfl) lf_X11_10 rfl rfl ?_
  refine go_getR (k := 1) (r := 12) dX11_chance_4 sh_1 rfl inX10 (Nat.le_of_ble_eq_true rfl) lf_X11_134 rfl rfl ?_
  refine go_astore_n (L' := [.ref (ga G 0), .ref (ga G 12), uu, uu]) dX11_chance_7 (Nat.le_of_ble_eq_true rfl) rfl ?_
  refine go_aload_n dX11_chance_8 rfl ?_
  refine go_getR (k := 0) (r := 1) dX11_chance_9 sh_0 rfl inX11 (Nat.le_of_ble_eq_true rfl) lf_X11_10 rfl rfl ?_
  refine go_getR (k := 0) (r := 2) dX11_chance_12 sh_1 rfl inX10 (Nat.le_of_ble_eq_true rfl) lf_X11_67 rfl rfl ?_
  refine go_astore_n (L' := [.ref (ga G 0), .ref (ga G 12), .ref (ga G 2), uu]) dX11_chance_15 (Nat.le_of_ble_eq_true rfl) rfl ?_
  refine go_aload_n dX11_chance_16 rfl ?_
  refine go_getI (k := 0) dX11_chance_17 sh_2 rfl inX2 (Nat.le_of_ble_eq_true rfl) lf_X11_166 rfl ?_
  refine go_if_eq 30 dX11_chance_20 rfl ⟨fun hc => ?_, fun hc => ?_⟩
  · have hF := hF.1 hc
    exact go_vret (S := []) dX11_chance_30 rfl ⟨rfl, hF⟩
  · have hF := hF.2 hc
    refine go_aload_n dX11_chance_23 rfl ?_
    refine go_getI (k := 4) dX11_chance_24 sh_2 rfl inX2 (Nat.le_of_ble_eq_true rfl) lf_X11_169 rfl ?_
    refine go_if_ne 31 dX11_chance_27 rfl ⟨fun hc => ?_, fun hc => ?_⟩
    · have hF := hF.1 hc
      refine go_aload_n dX11_chance_31 rfl ?_
      refine go_getI (k := 3) dX11_chance_32 sh_12 rfl inX5 (Nat.le_of_ble_eq_true rfl) lf_X11_172 rfl ?_
      refine Gw.namei (fun x1 ex1 => ?_)
      have hF := hF x1 ex1
      refine go_istore_n (L' := [.ref (ga G 0), .ref (ga G 12), .ref (ga G 2), .int x1]) dX11_chance_35 (Nat.le_of_ble_eq_true rfl) rfl ?_
      refine go_aload_n dX11_chance_36 rfl ?_
      refine go_callV mX5_turn dX11_chance_37 lm_X11_227 okX5_turn isX5_turn sh_12 rfl (As := []) (S := []) rfl rfl (Nat.le_of_ble_eq_true rfl) hF (k_v (fun m2 hF => ?_))
      refine go_iload_n dX11_chance_40 rfl ?_
      refine go_iconst (v := 5) dX11_chance_41 (by decide) ?_
      refine go_irem dX11_chance_42 (by decide) ?_
      rcases Decidable.em ((x1 - x1 / 5 * 5) = 0) with hc0 | hc0
      · have hF := hF.1 hc0
        refine go_tabIn (off := 25) 68 dX11_chance_43 (by rw [hc0]; decide) (by rw [hc0]; decide) (by rw [hc0]; rfl) rfl ?_
        refine go_aload_n dX11_chance_68 rfl ?_
        refine go_getR (k := 0) (r := 1) dX11_chance_69 sh_0 rfl inX11 (Nat.le_of_ble_eq_true rfl) lf_X11_10 rfl rfl ?_
        refine go_iload_n dX11_chance_72 rfl ?_
        refine go_aload_n dX11_chance_73 rfl ?_
        refine go_getI (k := 0) dX11_chance_74 sh_2 rfl inX2 (Nat.le_of_ble_eq_true rfl) lf_X11_166 rfl ?_
        obtain ⟨h0, hF⟩ := hF
        refine go_irem dX11_chance_77 h0 ?_
        refine go_callV mX10_canStrike dX11_chance_78 lm_X11_118 okX10_canStrike isX10_canStrike sh_1 rfl (As := [.int (x1 - x1 / (m2.1 2 0) * (m2.1 2 0))]) (S := []) rfl rfl (Nat.le_of_ble_eq_true rfl) hF (k_i (fun r4 m3 hF => ?_))
        refine go_if_eq 158 dX11_chance_81 rfl ⟨fun hc => ?_, fun hc => ?_⟩
        · have hF := hF.1 hc
          exact go_vret (S := []) dX11_chance_158 rfl ⟨rfl, hF⟩
        · have hF := hF.2 hc
          refine go_aload_n dX11_chance_84 rfl ?_
          refine go_iload_n dX11_chance_85 rfl ?_
          refine go_aload_n dX11_chance_86 rfl ?_
          refine go_getI (k := 0) dX11_chance_87 sh_2 rfl inX2 (Nat.le_of_ble_eq_true rfl) lf_X11_166 rfl ?_
          obtain ⟨h0, hF⟩ := hF
          refine go_irem dX11_chance_90 h0 ?_
          refine go_callV mX11_strike dX11_chance_91 lm_X11_124 okX11_strike isX11_strike sh_0 rfl (As := [.int (x1 - x1 / (m3.1 2 0) * (m3.1 2 0))]) (S := []) rfl rfl (Nat.le_of_ble_eq_true rfl) hF (k_i (fun r6 m5 hF => ?_))
          refine go_pop dX11_chance_94 rfl ?_
          refine go_goto 158 dX11_chance_95 rfl ?_
          exact go_vret (S := []) dX11_chance_158 rfl ⟨rfl, hF⟩
      rcases Decidable.em ((x1 - x1 / 5 * 5) = 1) with hc1 | hc1
      · have hF := hF.2.1 hc1
        refine go_tabIn (off := 55) 98 dX11_chance_43 (by rw [hc1]; decide) (by rw [hc1]; decide) (by rw [hc1]; rfl) rfl ?_
        refine go_aload_n dX11_chance_98 rfl ?_
        refine go_getR (k := 0) (r := 1) dX11_chance_99 sh_0 rfl inX11 (Nat.le_of_ble_eq_true rfl) lf_X11_10 rfl rfl ?_
        refine go_iload_n dX11_chance_102 rfl ?_
        refine go_aload_n dX11_chance_103 rfl ?_
        refine go_getI (k := 4) dX11_chance_104 sh_2 rfl inX2 (Nat.le_of_ble_eq_true rfl) lf_X11_169 rfl ?_
        obtain ⟨h0, hF⟩ := hF
        refine go_irem dX11_chance_107 h0 ?_
        refine go_callV mX10_canSay dX11_chance_108 lm_X11_128 okX10_canSay isX10_canSay sh_1 rfl (As := [.int (x1 - x1 / (m2.1 2 4) * (m2.1 2 4))]) (S := []) rfl rfl (Nat.le_of_ble_eq_true rfl) hF (k_i (fun r8 m7 hF => ?_))
        refine go_if_eq 158 dX11_chance_111 rfl ⟨fun hc => ?_, fun hc => ?_⟩
        · have hF := hF.1 hc
          exact go_vret (S := []) dX11_chance_158 rfl ⟨rfl, hF⟩
        · have hF := hF.2 hc
          refine go_aload_n dX11_chance_114 rfl ?_
          refine go_iload_n dX11_chance_115 rfl ?_
          refine go_aload_n dX11_chance_116 rfl ?_
          refine go_getI (k := 4) dX11_chance_117 sh_2 rfl inX2 (Nat.le_of_ble_eq_true rfl) lf_X11_169 rfl ?_
          obtain ⟨h0, hF⟩ := hF
          refine go_irem dX11_chance_120 h0 ?_
          refine go_callV mX11_say dX11_chance_121 lm_X11_131 okX11_say isX11_say sh_0 rfl (As := [.int (x1 - x1 / (m7.1 2 4) * (m7.1 2 4))]) (S := []) rfl rfl (Nat.le_of_ble_eq_true rfl) hF (k_i (fun r10 m9 hF => ?_))
          refine go_pop dX11_chance_124 rfl ?_
          refine go_goto 158 dX11_chance_125 rfl ?_
          exact go_vret (S := []) dX11_chance_158 rfl ⟨rfl, hF⟩
      rcases Decidable.em ((x1 - x1 / 5 * 5) = 2) with hc2 | hc2
      · have hF := hF.2.2.1 hc2
        refine go_tabIn (off := 85) 128 dX11_chance_43 (by rw [hc2]; decide) (by rw [hc2]; decide) (by rw [hc2]; rfl) rfl ?_
        refine go_aload_n dX11_chance_128 rfl ?_
        refine go_aload_n dX11_chance_129 rfl ?_
        refine go_getR (k := 7) (r := 266) dX11_chance_130 sh_0 rfl inX11 (Nat.le_of_ble_eq_true rfl) lf_X11_63 rfl rfl ?_
        refine go_iconst (v := 1) dX11_chance_133 (by decide) ?_
        refine go_callV mX0_waysToRead dX11_chance_134 lm_X11_152 okX0_waysToRead isX0_waysToRead sh_266 rfl (As := [.int 1]) (S := [.ref (ga G 12)]) rfl rfl (Nat.le_of_ble_eq_true rfl) hF (k_i (fun r12 m11 hF => ?_))
        refine go_callV mX5_writeSunday dX11_chance_137 lm_X11_156 okX5_writeSunday isX5_writeSunday sh_12 rfl (As := [.int r12]) (S := []) rfl rfl (Nat.le_of_ble_eq_true rfl) hF (k_i (fun r14 m13 hF => ?_))
        refine go_pop dX11_chance_140 rfl ?_
        refine go_goto 158 dX11_chance_141 rfl ?_
        exact go_vret (S := []) dX11_chance_158 rfl ⟨rfl, hF⟩
      have hF := hF.2.2.2 ⟨hc0, hc1, hc2⟩
      refine go_tabOut 144 dX11_chance_43 (tab_out [0, 1, 2] 0 2 (x1 - x1 / 5 * 5) (by decide) (by simp only [List.forall_mem_cons, List.not_mem_nil, false_implies, implies_true, and_true]; exact ⟨hc0, hc1, hc2⟩)) rfl ?_
      refine go_aload_n dX11_chance_144 rfl ?_
      refine go_getI (k := 2) dX11_chance_145 sh_12 rfl inX5 (Nat.le_of_ble_eq_true rfl) lf_X11_146 rfl ?_
      refine go_sipush (v := 9999) dX11_chance_148 (by decide) ?_
      refine go_icmp_ge 158 dX11_chance_151 rfl ⟨fun hc => ?_, fun hc => ?_⟩
      · have hF := hF.1 hc
        exact go_vret (S := []) dX11_chance_158 rfl ⟨rfl, hF⟩
      · have hF := hF.2 hc
        refine go_aload_n dX11_chance_154 rfl ?_
        refine go_callV mX5_passHour dX11_chance_155 lm_X11_205 okX5_passHour isX5_passHour sh_12 rfl (As := []) (S := []) rfl rfl (Nat.le_of_ble_eq_true rfl) hF (k_v (fun m15 hF => ?_))
        exact go_vret (S := []) dX11_chance_158 rfl ⟨rfl, hF⟩
    · have hF := hF.2 hc
      exact go_vret (S := []) dX11_chance_30 rfl ⟨rfl, hF⟩
theorem vX11_ofBell (G : GP) (d : Nat) (a0 : Int32) (a1 : Int32) (m : Mem) (K : Int32 → Mem → Prop) (hF : ((0 ≤ a0 ∧ a0 < m.1 2 0) → (a1 = 0 → vp_in a0 6 ∧ K (m.1 3 a0.toNatClampNeg) m) ∧ (a1 = 1 → vp_in a0 6 ∧ K (m.1 4 a0.toNatClampNeg) m) ∧ (a1 = 2 → vp_in a0 6 ∧ K (m.1 5 a0.toNatClampNeg) m) ∧ (a1 = 3 → Evi G (d + 3) mX1_getsOver [.ref (ga G 262), .int a0, .int (m.1 12 4), .int (m.1 12 0)] m (fun r2 m1 => ((r2 = 0) → K 0 m1) ∧ ((¬ r2 = 0) → K 1 m1))) ∧ (¬ a1 = 0 ∧ ¬ a1 = 1 ∧ ¬ a1 = 2 ∧ ¬ a1 = 3 → K (-1) m)) ∧ (¬ (0 ≤ a0 ∧ a0 < m.1 2 0) → K (-1) m)) : Evi G (d + 4) mX11_ofBell [.ref (ga G 0), .int a0, .int a1] m K := by
  refine Ev.go [.ref (ga G 0), .int a0, .int a1, uu] (by decide) (Nat.le_of_ble_eq_true rfl) rfl ?_
  refine go_aload_n dX11_ofBell_0 rfl ?_
  refine go_getR (k := 0) (r := 1) dX11_ofBell_1 sh_0 rfl inX11 (Nat.le_of_ble_eq_true rfl) lf_X11_10 rfl rfl ?_
  refine go_getR (k := 0) (r := 2) dX11_ofBell_4 sh_1 rfl inX10 (Nat.le_of_ble_eq_true rfl) lf_X11_67 rfl rfl ?_
  refine go_astore_n (L' := [.ref (ga G 0), .int a0, .int a1, .ref (ga G 2)]) dX11_ofBell_7 (Nat.le_of_ble_eq_true rfl) rfl ?_
  refine go_aload_n dX11_ofBell_8 rfl ?_
  refine go_iload_n dX11_ofBell_9 rfl ?_
  rcases Classical.em (0 ≤ a0 ∧ a0 < m.1 2 0) with hp | hp
  · have hF := hF.1 hp
    refine go_callV mX2_hasBell dX11_ofBell_10 lm_X11_230 okX2_hasBell isX2_hasBell sh_2 rfl (As := [.int a0]) (S := []) rfl rfl (Nat.le_of_ble_eq_true rfl) (eX2_hasBell G _ a0 m (fun r m' => r = 1 ∧ m = m') ⟨fun _ => ⟨rfl, rfl⟩, fun q => absurd hp q⟩) (k_i (fun r m' hr => ?_))
    obtain ⟨hr1, hr2⟩ := hr
    subst hr1
    subst hr2
    refine go_if_ne 18 dX11_ofBell_13 rfl ⟨fun _ => ?_, fun hc => absurd hc (by decide)⟩
    refine go_iload_n dX11_ofBell_18 rfl ?_
    rcases Decidable.em (a1 = 0) with hc0 | hc0
    · have hF := hF.1 hc0
      refine go_tabIn (off := 29) 48 dX11_ofBell_19 (by rw [hc0]; decide) (by rw [hc0]; decide) (by rw [hc0]; rfl) rfl ?_
      refine go_aload_n dX11_ofBell_48 rfl ?_
      refine go_getR (k := 1) (r := 3) dX11_ofBell_49 sh_2 rfl inX2 (Nat.le_of_ble_eq_true rfl) lf_X11_233 rfl rfl ?_
      refine go_iload_n dX11_ofBell_52 rfl ?_
      obtain ⟨hi, hF⟩ := hF
      refine go_iald dX11_ofBell_53 sh_3 hi ?_
      exact go_iret (S := []) dX11_ofBell_54 rfl ⟨_, rfl, hF⟩
    rcases Decidable.em (a1 = 1) with hc1 | hc1
    · have hF := hF.2.1 hc1
      refine go_tabIn (off := 36) 55 dX11_ofBell_19 (by rw [hc1]; decide) (by rw [hc1]; decide) (by rw [hc1]; rfl) rfl ?_
      refine go_aload_n dX11_ofBell_55 rfl ?_
      refine go_getR (k := 2) (r := 4) dX11_ofBell_56 sh_2 rfl inX2 (Nat.le_of_ble_eq_true rfl) lf_X11_236 rfl rfl ?_
      refine go_iload_n dX11_ofBell_59 rfl ?_
      obtain ⟨hi, hF⟩ := hF
      refine go_iald dX11_ofBell_60 sh_4 hi ?_
      exact go_iret (S := []) dX11_ofBell_61 rfl ⟨_, rfl, hF⟩
    rcases Decidable.em (a1 = 2) with hc2 | hc2
    · have hF := hF.2.2.1 hc2
      refine go_tabIn (off := 43) 62 dX11_ofBell_19 (by rw [hc2]; decide) (by rw [hc2]; decide) (by rw [hc2]; rfl) rfl ?_
      refine go_aload_n dX11_ofBell_62 rfl ?_
      refine go_getR (k := 3) (r := 5) dX11_ofBell_63 sh_2 rfl inX2 (Nat.le_of_ble_eq_true rfl) lf_X11_239 rfl rfl ?_
      refine go_iload_n dX11_ofBell_66 rfl ?_
      obtain ⟨hi, hF⟩ := hF
      refine go_iald dX11_ofBell_67 sh_5 hi ?_
      exact go_iret (S := []) dX11_ofBell_68 rfl ⟨_, rfl, hF⟩
    rcases Decidable.em (a1 = 3) with hc3 | hc3
    · have hF := hF.2.2.2.1 hc3
      refine go_tabIn (off := 50) 69 dX11_ofBell_19 (by rw [hc3]; decide) (by rw [hc3]; decide) (by rw [hc3]; rfl) rfl ?_
      refine go_aload_n dX11_ofBell_69 rfl ?_
      refine go_getR (k := 6) (r := 262) dX11_ofBell_70 sh_0 rfl inX11 (Nat.le_of_ble_eq_true rfl) lf_X11_54 rfl rfl ?_
      refine go_iload_n dX11_ofBell_73 rfl ?_
      refine go_aload_n dX11_ofBell_74 rfl ?_
      refine go_getR (k := 0) (r := 1) dX11_ofBell_75 sh_0 rfl inX11 (Nat.le_of_ble_eq_true rfl) lf_X11_10 rfl rfl ?_
      refine go_getR (k := 1) (r := 12) dX11_ofBell_78 sh_1 rfl inX10 (Nat.le_of_ble_eq_true rfl) lf_X11_134 rfl rfl ?_
      refine go_getI (k := 4) dX11_ofBell_81 sh_12 rfl inX5 (Nat.le_of_ble_eq_true rfl) lf_X11_188 rfl ?_
      refine go_aload_n dX11_ofBell_84 rfl ?_
      refine go_getR (k := 0) (r := 1) dX11_ofBell_85 sh_0 rfl inX11 (Nat.le_of_ble_eq_true rfl) lf_X11_10 rfl rfl ?_
      refine go_getR (k := 1) (r := 12) dX11_ofBell_88 sh_1 rfl inX10 (Nat.le_of_ble_eq_true rfl) lf_X11_134 rfl rfl ?_
      refine go_getI (k := 0) dX11_ofBell_91 sh_12 rfl inX5 (Nat.le_of_ble_eq_true rfl) lf_X11_143 rfl ?_
      refine go_callV mX1_getsOver dX11_ofBell_94 lm_X11_191 okX1_getsOver isX1_getsOver sh_262 rfl (As := [.int a0, .int (m.1 12 4), .int (m.1 12 0)]) (S := []) rfl rfl (Nat.le_of_ble_eq_true rfl) hF (k_i (fun r2 m1 hF => ?_))
      refine go_if_eq 104 dX11_ofBell_97 rfl ⟨fun hc => ?_, fun hc => ?_⟩
      · have hF := hF.1 hc
        refine go_iconst (v := 0) dX11_ofBell_104 (by decide) ?_
        exact go_iret (S := []) dX11_ofBell_105 rfl ⟨_, rfl, hF⟩
      · have hF := hF.2 hc
        refine go_iconst (v := 1) dX11_ofBell_100 (by decide) ?_
        refine go_goto 105 dX11_ofBell_101 rfl ?_
        exact go_iret (S := []) dX11_ofBell_105 rfl ⟨_, rfl, hF⟩
    have hF := hF.2.2.2.2 ⟨hc0, hc1, hc2, hc3⟩
    refine go_tabOut 106 dX11_ofBell_19 (tab_out [0, 1, 2, 3] 0 3 a1 (by decide) (by simp only [List.forall_mem_cons, List.not_mem_nil, false_implies, implies_true, and_true]; exact ⟨hc0, hc1, hc2, hc3⟩)) rfl ?_
    refine go_iconst (v := -1) dX11_ofBell_106 (by decide) ?_
    exact go_iret (S := []) dX11_ofBell_107 rfl ⟨_, rfl, hF⟩
  · have hF := hF.2 hp
    refine go_callV mX2_hasBell dX11_ofBell_10 lm_X11_230 okX2_hasBell isX2_hasBell sh_2 rfl (As := [.int a0]) (S := []) rfl rfl (Nat.le_of_ble_eq_true rfl) (eX2_hasBell G _ a0 m (fun r m' => r = 0 ∧ m = m') ⟨fun q => absurd q hp, fun _ => ⟨rfl, rfl⟩⟩) (k_i (fun r m' hr => ?_))
    obtain ⟨hr1, hr2⟩ := hr
    subst hr1
    subst hr2
    refine go_if_ne 18 dX11_ofBell_13 rfl ⟨fun hc => absurd hc (by decide), fun _ => ?_⟩
    refine go_iconst (v := -1) dX11_ofBell_16 (by decide) ?_
    exact go_iret (S := []) dX11_ofBell_17 rfl ⟨_, rfl, hF⟩
theorem vX11_ofWord (G : GP) (d : Nat) (a0 : Int32) (a1 : Int32) (m : Mem) (K : Int32 → Mem → Prop) (hF : ((0 ≤ a0 ∧ a0 < m.1 2 4) → (a1 = 0 → vp_in a0 10 ∧ K (m.1 8 a0.toNatClampNeg) m) ∧ (a1 = 1 → vp_in a0 10 ∧ K (m.1 9 a0.toNatClampNeg) m) ∧ (a1 = 2 → vp_in a0 10 ∧ K (m.1 7 a0.toNatClampNeg) m) ∧ (a1 = 3 → Evi G (d + 1) mX2_menFor [.ref (ga G 2), .int a0] m (fun r2 m1 => K r2 m1)) ∧ (¬ a1 = 0 ∧ ¬ a1 = 1 ∧ ¬ a1 = 2 ∧ ¬ a1 = 3 → ((4 ≤ a1 ∧ a1 ≤ 7) → ((0 ≤ a0 ∧ a0 < m.1 2 4) ∧ (0 ≤ (a1 - 4) ∧ (a1 - 4) ≤ 3) → vp_in (a0 * 4 + (a1 - 4)) 40) ∧ K (strC m a0 (a1 - 4)) m) ∧ (¬ (4 ≤ a1 ∧ a1 ≤ 7) → K (-2) m))) ∧ (¬ (0 ≤ a0 ∧ a0 < m.1 2 4) → K (-2) m)) : Evi G (d + 2) mX11_ofWord [.ref (ga G 0), .int a0, .int a1] m K := by
  refine Ev.go [.ref (ga G 0), .int a0, .int a1, uu] (by decide) (Nat.le_of_ble_eq_true rfl) rfl ?_
  refine go_aload_n dX11_ofWord_0 rfl ?_
  refine go_getR (k := 0) (r := 1) dX11_ofWord_1 sh_0 rfl inX11 (Nat.le_of_ble_eq_true rfl) lf_X11_10 rfl rfl ?_
  refine go_getR (k := 0) (r := 2) dX11_ofWord_4 sh_1 rfl inX10 (Nat.le_of_ble_eq_true rfl) lf_X11_67 rfl rfl ?_
  refine go_astore_n (L' := [.ref (ga G 0), .int a0, .int a1, .ref (ga G 2)]) dX11_ofWord_7 (Nat.le_of_ble_eq_true rfl) rfl ?_
  refine go_aload_n dX11_ofWord_8 rfl ?_
  refine go_iload_n dX11_ofWord_9 rfl ?_
  rcases Classical.em (0 ≤ a0 ∧ a0 < m.1 2 4) with hp | hp
  · have hF := hF.1 hp
    refine go_callV mX2_hasWord dX11_ofWord_10 lm_X11_242 okX2_hasWord isX2_hasWord sh_2 rfl (As := [.int a0]) (S := []) rfl rfl (Nat.le_of_ble_eq_true rfl) (eX2_hasWord G _ a0 m (fun r m' => r = 1 ∧ m = m') ⟨fun _ => ⟨rfl, rfl⟩, fun q => absurd hp q⟩) (k_i (fun r m' hr => ?_))
    obtain ⟨hr1, hr2⟩ := hr
    subst hr1
    subst hr2
    refine go_if_ne 19 dX11_ofWord_13 rfl ⟨fun _ => ?_, fun hc => absurd hc (by decide)⟩
    refine go_iload_n dX11_ofWord_19 rfl ?_
    rcases Decidable.em (a1 = 0) with hc0 | hc0
    · have hF := hF.1 hc0
      refine go_tabIn (off := 32) 52 dX11_ofWord_20 (by rw [hc0]; decide) (by rw [hc0]; decide) (by rw [hc0]; rfl) rfl ?_
      refine go_aload_n dX11_ofWord_52 rfl ?_
      refine go_getR (k := 7) (r := 8) dX11_ofWord_53 sh_2 rfl inX2 (Nat.le_of_ble_eq_true rfl) lf_X11_245 rfl rfl ?_
      refine go_iload_n dX11_ofWord_56 rfl ?_
      obtain ⟨hi, hF⟩ := hF
      refine go_iald dX11_ofWord_57 sh_8 hi ?_
      exact go_iret (S := []) dX11_ofWord_58 rfl ⟨_, rfl, hF⟩
    rcases Decidable.em (a1 = 1) with hc1 | hc1
    · have hF := hF.2.1 hc1
      refine go_tabIn (off := 39) 59 dX11_ofWord_20 (by rw [hc1]; decide) (by rw [hc1]; decide) (by rw [hc1]; rfl) rfl ?_
      refine go_aload_n dX11_ofWord_59 rfl ?_
      refine go_getR (k := 8) (r := 9) dX11_ofWord_60 sh_2 rfl inX2 (Nat.le_of_ble_eq_true rfl) lf_X11_248 rfl rfl ?_
      refine go_iload_n dX11_ofWord_63 rfl ?_
      obtain ⟨hi, hF⟩ := hF
      refine go_iald dX11_ofWord_64 sh_9 hi ?_
      exact go_iret (S := []) dX11_ofWord_65 rfl ⟨_, rfl, hF⟩
    rcases Decidable.em (a1 = 2) with hc2 | hc2
    · have hF := hF.2.2.1 hc2
      refine go_tabIn (off := 46) 66 dX11_ofWord_20 (by rw [hc2]; decide) (by rw [hc2]; decide) (by rw [hc2]; rfl) rfl ?_
      refine go_aload_n dX11_ofWord_66 rfl ?_
      refine go_getR (k := 6) (r := 7) dX11_ofWord_67 sh_2 rfl inX2 (Nat.le_of_ble_eq_true rfl) lf_X11_198 rfl rfl ?_
      refine go_iload_n dX11_ofWord_70 rfl ?_
      obtain ⟨hi, hF⟩ := hF
      refine go_iald dX11_ofWord_71 sh_7 hi ?_
      exact go_iret (S := []) dX11_ofWord_72 rfl ⟨_, rfl, hF⟩
    rcases Decidable.em (a1 = 3) with hc3 | hc3
    · have hF := hF.2.2.2.1 hc3
      refine go_tabIn (off := 53) 73 dX11_ofWord_20 (by rw [hc3]; decide) (by rw [hc3]; decide) (by rw [hc3]; rfl) rfl ?_
      refine go_aload_n dX11_ofWord_73 rfl ?_
      refine go_iload_n dX11_ofWord_74 rfl ?_
      refine go_callV mX2_menFor dX11_ofWord_75 lm_X11_251 okX2_menFor isX2_menFor sh_2 rfl (As := [.int a0]) (S := []) rfl rfl (Nat.le_of_ble_eq_true rfl) hF (k_i (fun r2 m1 hF => ?_))
      exact go_iret (S := []) dX11_ofWord_78 rfl ⟨_, rfl, hF⟩
    have hF := hF.2.2.2.2 ⟨hc0, hc1, hc2, hc3⟩
    refine go_tabOut 79 dX11_ofWord_20 (tab_out [0, 1, 2, 3] 0 3 a1 (by decide) (by simp only [List.forall_mem_cons, List.not_mem_nil, false_implies, implies_true, and_true]; exact ⟨hc0, hc1, hc2, hc3⟩)) rfl ?_
    refine go_iload_n dX11_ofWord_79 rfl ?_
    refine go_iconst (v := 4) dX11_ofWord_80 (by decide) ?_
    refine go_bipush (v := 7) dX11_ofWord_81 (by decide) ?_
    rcases Classical.em (4 ≤ a1 ∧ a1 ≤ 7) with hp | hp
    · have hF := hF.1 hp
      refine go_callS mX11_within dX11_ofWord_83 lm_X11_81 okX11_within isX11_within (As := [.int a1, .int 4, .int 7]) (S := []) rfl rfl (Nat.le_of_ble_eq_true rfl) (eX11_within G _ a1 4 7 m (fun r m' => r = 1 ∧ m = m') ⟨fun _ => ⟨rfl, rfl⟩, fun q => absurd hp q⟩) (k_i (fun r m' hr => ?_))
      obtain ⟨hr1, hr2⟩ := hr
      subst hr1
      subst hr2
      refine go_if_eq 100 dX11_ofWord_86 rfl ⟨fun hc => absurd hc (by decide), fun _ => ?_⟩
      refine go_aload_n dX11_ofWord_89 rfl ?_
      refine go_iload_n dX11_ofWord_90 rfl ?_
      refine go_iload_n dX11_ofWord_91 rfl ?_
      refine go_iconst (v := 4) dX11_ofWord_92 (by decide) ?_
      refine go_isub dX11_ofWord_93 ?_
      obtain ⟨ho, hF⟩ := hF
      refine go_callV mX2_strokeOf dX11_ofWord_94 lm_X11_201 okX2_strokeOf isX2_strokeOf sh_2 rfl (As := [.int a0, .int (a1 - 4)]) (S := []) rfl rfl (Nat.le_of_ble_eq_true rfl) (eX2_strokeOf G _ a0 (a1 - 4) m (fun r m' => r = strC m a0 (a1 - 4) ∧ m = m') ho ⟨rfl, rfl⟩) (k_i (fun r m' hr => ?_))
      obtain ⟨hr1, hr2⟩ := hr
      subst hr1
      subst hr2
      refine go_goto 102 dX11_ofWord_97 rfl ?_
      exact go_iret (S := []) dX11_ofWord_102 rfl ⟨_, rfl, hF⟩
    · have hF := hF.2 hp
      refine go_callS mX11_within dX11_ofWord_83 lm_X11_81 okX11_within isX11_within (As := [.int a1, .int 4, .int 7]) (S := []) rfl rfl (Nat.le_of_ble_eq_true rfl) (eX11_within G _ a1 4 7 m (fun r m' => r = 0 ∧ m = m') ⟨fun q => absurd q hp, fun _ => ⟨rfl, rfl⟩⟩) (k_i (fun r m' hr => ?_))
      obtain ⟨hr1, hr2⟩ := hr
      subst hr1
      subst hr2
      refine go_if_eq 100 dX11_ofWord_86 rfl ⟨fun _ => ?_, fun hc => absurd hc (by decide)⟩
      refine go_bipush (v := -2) dX11_ofWord_100 (by decide) ?_
      exact go_iret (S := []) dX11_ofWord_102 rfl ⟨_, rfl, hF⟩
  · have hF := hF.2 hp
    refine go_callV mX2_hasWord dX11_ofWord_10 lm_X11_242 okX2_hasWord isX2_hasWord sh_2 rfl (As := [.int a0]) (S := []) rfl rfl (Nat.le_of_ble_eq_true rfl) (eX2_hasWord G _ a0 m (fun r m' => r = 0 ∧ m = m') ⟨fun q => absurd q hp, fun _ => ⟨rfl, rfl⟩⟩) (k_i (fun r m' hr => ?_))
    obtain ⟨hr1, hr2⟩ := hr
    subst hr1
    subst hr2
    refine go_if_ne 19 dX11_ofWord_13 rfl ⟨fun hc => absurd hc (by decide), fun _ => ?_⟩
    refine go_bipush (v := -2) dX11_ofWord_16 (by decide) ?_
    exact go_iret (S := []) dX11_ofWord_18 rfl ⟨_, rfl, hF⟩
theorem vX11_is (G : GP) (d : Nat) (a0 : Int32) (m : Mem) (K : Int32 → Mem → Prop) (hF : (a0 = 0 → K (m.1 12 0) m) ∧ (a0 = 1 → K (m.1 12 1) m) ∧ (a0 = 2 → K (m.1 12 2) m) ∧ (a0 = 3 → K (m.1 1 4) m) ∧ (a0 = 4 → K (m.1 12 3) m) ∧ (¬ a0 = 0 ∧ ¬ a0 = 1 ∧ ¬ a0 = 2 ∧ ¬ a0 = 3 ∧ ¬ a0 = 4 → K (-2) m)) : Evi G (d) mX11_is [.ref (ga G 0), .int a0] m K := by
  refine Ev.go [.ref (ga G 0), .int a0, uu] (by decide) (Nat.le_of_ble_eq_true rfl) rfl ?_
  refine go_aload_n dX11_is_0 rfl ?_
  refine go_getR (k := 0) (r := 1) dX11_is_1 sh_0 rfl inX11 (Nat.le_of_ble_eq_true rfl) lf_X11_10 rfl rfl ?_
  refine go_getR (k := 1) (r := 12) dX11_is_4 sh_1 rfl inX10 (Nat.le_of_ble_eq_true rfl) lf_X11_134 rfl rfl ?_
  refine go_astore_n (L' := [.ref (ga G 0), .int a0, .ref (ga G 12)]) dX11_is_7 (Nat.le_of_ble_eq_true rfl) rfl ?_
  refine go_iload_n dX11_is_8 rfl ?_
  rcases Decidable.em (a0 = 0) with hc0 | hc0
  · have hF := hF.1 hc0
    refine go_tabIn (off := 35) 44 dX11_is_9 (by rw [hc0]; decide) (by rw [hc0]; decide) (by rw [hc0]; rfl) rfl ?_
    refine go_aload_n dX11_is_44 rfl ?_
    refine go_getI (k := 0) dX11_is_45 sh_12 rfl inX5 (Nat.le_of_ble_eq_true rfl) lf_X11_143 rfl ?_
    exact go_iret (S := []) dX11_is_48 rfl ⟨_, rfl, hF⟩
  rcases Decidable.em (a0 = 1) with hc1 | hc1
  · have hF := hF.2.1 hc1
    refine go_tabIn (off := 40) 49 dX11_is_9 (by rw [hc1]; decide) (by rw [hc1]; decide) (by rw [hc1]; rfl) rfl ?_
    refine go_aload_n dX11_is_49 rfl ?_
    refine go_getI (k := 1) dX11_is_50 sh_12 rfl inX5 (Nat.le_of_ble_eq_true rfl) lf_X11_138 rfl ?_
    exact go_iret (S := []) dX11_is_53 rfl ⟨_, rfl, hF⟩
  rcases Decidable.em (a0 = 2) with hc2 | hc2
  · have hF := hF.2.2.1 hc2
    refine go_tabIn (off := 45) 54 dX11_is_9 (by rw [hc2]; decide) (by rw [hc2]; decide) (by rw [hc2]; rfl) rfl ?_
    refine go_aload_n dX11_is_54 rfl ?_
    refine go_getI (k := 2) dX11_is_55 sh_12 rfl inX5 (Nat.le_of_ble_eq_true rfl) lf_X11_146 rfl ?_
    exact go_iret (S := []) dX11_is_58 rfl ⟨_, rfl, hF⟩
  rcases Decidable.em (a0 = 3) with hc3 | hc3
  · have hF := hF.2.2.2.1 hc3
    refine go_tabIn (off := 50) 59 dX11_is_9 (by rw [hc3]; decide) (by rw [hc3]; decide) (by rw [hc3]; rfl) rfl ?_
    refine go_aload_n dX11_is_59 rfl ?_
    refine go_getR (k := 0) (r := 1) dX11_is_60 sh_0 rfl inX11 (Nat.le_of_ble_eq_true rfl) lf_X11_10 rfl rfl ?_
    refine go_getI (k := 4) dX11_is_63 sh_1 rfl inX10 (Nat.le_of_ble_eq_true rfl) lf_X11_85 rfl ?_
    exact go_iret (S := []) dX11_is_66 rfl ⟨_, rfl, hF⟩
  rcases Decidable.em (a0 = 4) with hc4 | hc4
  · have hF := hF.2.2.2.2.1 hc4
    refine go_tabIn (off := 58) 67 dX11_is_9 (by rw [hc4]; decide) (by rw [hc4]; decide) (by rw [hc4]; rfl) rfl ?_
    refine go_aload_n dX11_is_67 rfl ?_
    refine go_getI (k := 3) dX11_is_68 sh_12 rfl inX5 (Nat.le_of_ble_eq_true rfl) lf_X11_172 rfl ?_
    exact go_iret (S := []) dX11_is_71 rfl ⟨_, rfl, hF⟩
  have hF := hF.2.2.2.2.2 ⟨hc0, hc1, hc2, hc3, hc4⟩
  refine go_tabOut 72 dX11_is_9 (tab_out [0, 1, 2, 3, 4] 0 4 a0 (by decide) (by simp only [List.forall_mem_cons, List.not_mem_nil, false_implies, implies_true, and_true]; exact ⟨hc0, hc1, hc2, hc3, hc4⟩)) rfl ?_
  refine go_bipush (v := -2) dX11_is_72 (by decide) ?_
  exact go_iret (S := []) dX11_is_74 rfl ⟨_, rfl, hF⟩
theorem vX11_rung (G : GP) (d : Nat) (a0 : Int32) (m : Mem) (K : Int32 → Mem → Prop) (hF : ((¬ a0 = (-1)) → ((0 ≤ a0 ∧ a0 ≤ ((m.1 12 4) - 1)) → vp_in a0 24 ∧ K (m.1 13 a0.toNatClampNeg) m) ∧ (¬ (0 ≤ a0 ∧ a0 ≤ ((m.1 12 4) - 1)) → K (-2) m)) ∧ ((a0 = (-1)) → K (m.1 12 4) m)) : Evi G (d + 1) mX11_rung [.ref (ga G 0), .int a0] m K := by
  refine Ev.go [.ref (ga G 0), .int a0, uu] (by decide) (Nat.le_of_ble_eq_true rfl) rfl ?_
  refine go_aload_n dX11_rung_0 rfl ?_
  refine go_getR (k := 0) (r := 1) dX11_rung_1 sh_0 rfl inX11 (Nat.le_of_ble_eq_true rfl) lf_X11_10 rfl rfl ?_
  refine go_getR (k := 1) (r := 12) dX11_rung_4 sh_1 rfl inX10 (Nat.le_of_ble_eq_true rfl) lf_X11_134 rfl rfl ?_
  refine go_astore_n (L' := [.ref (ga G 0), .int a0, .ref (ga G 12)]) dX11_rung_7 (Nat.le_of_ble_eq_true rfl) rfl ?_
  refine go_iload_n dX11_rung_8 rfl ?_
  refine go_iconst (v := -1) dX11_rung_9 (by decide) ?_
  refine go_icmp_ne 18 dX11_rung_10 rfl ⟨fun hc => ?_, fun hc => ?_⟩
  · have hF := hF.1 hc
    refine go_iload_n dX11_rung_18 rfl ?_
    refine go_iconst (v := 0) dX11_rung_19 (by decide) ?_
    refine go_aload_n dX11_rung_20 rfl ?_
    refine go_getI (k := 4) dX11_rung_21 sh_12 rfl inX5 (Nat.le_of_ble_eq_true rfl) lf_X11_188 rfl ?_
    refine go_iconst (v := 1) dX11_rung_24 (by decide) ?_
    refine go_isub dX11_rung_25 ?_
    rcases Classical.em (0 ≤ a0 ∧ a0 ≤ ((m.1 12 4) - 1)) with hp | hp
    · have hF := hF.1 hp
      refine go_callS mX11_within dX11_rung_26 lm_X11_81 okX11_within isX11_within (As := [.int a0, .int 0, .int ((m.1 12 4) - 1)]) (S := []) rfl rfl (Nat.le_of_ble_eq_true rfl) (eX11_within G _ a0 0 ((m.1 12 4) - 1) m (fun r m' => r = 1 ∧ m = m') ⟨fun _ => ⟨rfl, rfl⟩, fun q => absurd hp q⟩) (k_i (fun r m' hr => ?_))
      obtain ⟨hr1, hr2⟩ := hr
      subst hr1
      subst hr2
      refine go_if_eq 41 dX11_rung_29 rfl ⟨fun hc => absurd hc (by decide), fun _ => ?_⟩
      refine go_aload_n dX11_rung_32 rfl ?_
      refine go_getR (k := 5) (r := 13) dX11_rung_33 sh_12 rfl inX5 (Nat.le_of_ble_eq_true rfl) lf_X11_254 rfl rfl ?_
      refine go_iload_n dX11_rung_36 rfl ?_
      obtain ⟨hi, hF⟩ := hF
      refine go_iald dX11_rung_37 sh_13 hi ?_
      refine go_goto 43 dX11_rung_38 rfl ?_
      exact go_iret (S := []) dX11_rung_43 rfl ⟨_, rfl, hF⟩
    · have hF := hF.2 hp
      refine go_callS mX11_within dX11_rung_26 lm_X11_81 okX11_within isX11_within (As := [.int a0, .int 0, .int ((m.1 12 4) - 1)]) (S := []) rfl rfl (Nat.le_of_ble_eq_true rfl) (eX11_within G _ a0 0 ((m.1 12 4) - 1) m (fun r m' => r = 0 ∧ m = m') ⟨fun q => absurd q hp, fun _ => ⟨rfl, rfl⟩⟩) (k_i (fun r m' hr => ?_))
      obtain ⟨hr1, hr2⟩ := hr
      subst hr1
      subst hr2
      refine go_if_eq 41 dX11_rung_29 rfl ⟨fun _ => ?_, fun hc => absurd hc (by decide)⟩
      refine go_bipush (v := -2) dX11_rung_41 (by decide) ?_
      exact go_iret (S := []) dX11_rung_43 rfl ⟨_, rfl, hF⟩
  · have hF := hF.2 hc
    refine go_aload_n dX11_rung_13 rfl ?_
    refine go_getI (k := 4) dX11_rung_14 sh_12 rfl inX5 (Nat.le_of_ble_eq_true rfl) lf_X11_188 rfl ?_
    exact go_iret (S := []) dX11_rung_17 rfl ⟨_, rfl, hF⟩
theorem vX11_heard (G : GP) (d : Nat) (a0 : Int32) (m : Mem) (K : Int32 → Mem → Prop) (hF : Evv G (d) mX0_listen [.ref (ga G 266)] m (fun m1 => ((¬ a0 = (-1)) → ((0 ≤ a0 ∧ a0 ≤ ((m1.1 266 2) - 1)) → vp_in a0 24 ∧ K (m1.1 267 a0.toNatClampNeg) m1) ∧ (¬ (0 ≤ a0 ∧ a0 ≤ ((m1.1 266 2) - 1)) → K (-2) m1)) ∧ ((a0 = (-1)) → K (m1.1 266 2) m1))) : Evi G (d + 1) mX11_heard [.ref (ga G 0), .int a0] m K := by
  refine Ev.go [.ref (ga G 0), .int a0] (by decide) (Nat.le_of_ble_eq_true rfl) rfl ?_
  refine go_aload_n dX11_heard_0 rfl ?_
  refine go_getR (k := 7) (r := 266) dX11_heard_1 sh_0 rfl inX11 (Nat.le_of_ble_eq_true rfl) lf_X11_63 rfl rfl ?_
  refine go_callV mX0_listen dX11_heard_4 lm_X11_257 okX0_listen isX0_listen sh_266 rfl (As := []) (S := []) rfl rfl (Nat.le_of_ble_eq_true rfl) hF (k_v (fun m1 hF => ?_))
  refine go_iload_n dX11_heard_7 rfl ?_
  refine go_iconst (v := -1) dX11_heard_8 (by decide) ?_
  refine go_icmp_ne 20 dX11_heard_9 rfl ⟨fun hc => ?_, fun hc => ?_⟩
  · have hF := hF.1 hc
    refine go_iload_n dX11_heard_20 rfl ?_
    refine go_iconst (v := 0) dX11_heard_21 (by decide) ?_
    refine go_aload_n dX11_heard_22 rfl ?_
    refine go_getR (k := 7) (r := 266) dX11_heard_23 sh_0 rfl inX11 (Nat.le_of_ble_eq_true rfl) lf_X11_63 rfl rfl ?_
    refine go_getI (k := 2) dX11_heard_26 sh_266 rfl inX0 (Nat.le_of_ble_eq_true rfl) lf_X11_260 rfl ?_
    refine go_iconst (v := 1) dX11_heard_29 (by decide) ?_
    refine go_isub dX11_heard_30 ?_
    rcases Classical.em (0 ≤ a0 ∧ a0 ≤ ((m1.1 266 2) - 1)) with hp | hp
    · have hF := hF.1 hp
      refine go_callS mX11_within dX11_heard_31 lm_X11_81 okX11_within isX11_within (As := [.int a0, .int 0, .int ((m1.1 266 2) - 1)]) (S := []) rfl rfl (Nat.le_of_ble_eq_true rfl) (eX11_within G _ a0 0 ((m1.1 266 2) - 1) m1 (fun r m' => r = 1 ∧ m1 = m') ⟨fun _ => ⟨rfl, rfl⟩, fun q => absurd hp q⟩) (k_i (fun r m' hr => ?_))
      obtain ⟨hr1, hr2⟩ := hr
      subst hr1
      subst hr2
      refine go_if_eq 49 dX11_heard_34 rfl ⟨fun hc => absurd hc (by decide), fun _ => ?_⟩
      refine go_aload_n dX11_heard_37 rfl ?_
      refine go_getR (k := 7) (r := 266) dX11_heard_38 sh_0 rfl inX11 (Nat.le_of_ble_eq_true rfl) lf_X11_63 rfl rfl ?_
      refine go_getR (k := 3) (r := 267) dX11_heard_41 sh_266 rfl inX0 (Nat.le_of_ble_eq_true rfl) lf_X11_263 rfl rfl ?_
      refine go_iload_n dX11_heard_44 rfl ?_
      obtain ⟨hi, hF⟩ := hF
      refine go_iald dX11_heard_45 sh_267 hi ?_
      refine go_goto 51 dX11_heard_46 rfl ?_
      exact go_iret (S := []) dX11_heard_51 rfl ⟨_, rfl, hF⟩
    · have hF := hF.2 hp
      refine go_callS mX11_within dX11_heard_31 lm_X11_81 okX11_within isX11_within (As := [.int a0, .int 0, .int ((m1.1 266 2) - 1)]) (S := []) rfl rfl (Nat.le_of_ble_eq_true rfl) (eX11_within G _ a0 0 ((m1.1 266 2) - 1) m1 (fun r m' => r = 0 ∧ m1 = m') ⟨fun q => absurd q hp, fun _ => ⟨rfl, rfl⟩⟩) (k_i (fun r m' hr => ?_))
      obtain ⟨hr1, hr2⟩ := hr
      subst hr1
      subst hr2
      refine go_if_eq 49 dX11_heard_34 rfl ⟨fun _ => ?_, fun hc => absurd hc (by decide)⟩
      refine go_bipush (v := -2) dX11_heard_49 (by decide) ?_
      exact go_iret (S := []) dX11_heard_51 rfl ⟨_, rfl, hF⟩
  · have hF := hF.2 hc
    refine go_aload_n dX11_heard_12 rfl ?_
    refine go_getR (k := 7) (r := 266) dX11_heard_13 sh_0 rfl inX11 (Nat.le_of_ble_eq_true rfl) lf_X11_63 rfl rfl ?_
    refine go_getI (k := 2) dX11_heard_16 sh_266 rfl inX0 (Nat.le_of_ble_eq_true rfl) lf_X11_260 rfl ?_
    exact go_iret (S := []) dX11_heard_19 rfl ⟨_, rfl, hF⟩
theorem vX11_book (G : GP) (d : Nat) (a0 : Int32) (a1 : Int32) (m : Mem) (K : Int32 → Mem → Prop) (hF : ((¬ a0 = (-1)) → ((0 ≤ a0 ∧ a0 ≤ ((m.1 12 6) - 1)) → ((0 ≤ a1 ∧ a1 ≤ 3) → vp_in ((a0 * 4) + a1) 80 ∧ K (m.1 14 ((a0 * 4) + a1).toNatClampNeg) m) ∧ (¬ (0 ≤ a1 ∧ a1 ≤ 3) → K (-2) m)) ∧ (¬ (0 ≤ a0 ∧ a0 ≤ ((m.1 12 6) - 1)) → K (-2) m)) ∧ ((a0 = (-1)) → K (m.1 12 6) m)) : Evi G (d + 1) mX11_book [.ref (ga G 0), .int a0, .int a1] m K := by
  refine Ev.go [.ref (ga G 0), .int a0, .int a1, uu] (by decide) (Nat.le_of_ble_eq_true rfl) rfl ?_
  refine go_aload_n dX11_book_0 rfl ?_
  refine go_getR (k := 0) (r := 1) dX11_book_1 sh_0 rfl inX11 (Nat.le_of_ble_eq_true rfl) lf_X11_10 rfl rfl ?_
  refine go_getR (k := 1) (r := 12) dX11_book_4 sh_1 rfl inX10 (Nat.le_of_ble_eq_true rfl) lf_X11_134 rfl rfl ?_
  refine go_astore_n (L' := [.ref (ga G 0), .int a0, .int a1, .ref (ga G 12)]) dX11_book_7 (Nat.le_of_ble_eq_true rfl) rfl ?_
  refine go_iload_n dX11_book_8 rfl ?_
  refine go_iconst (v := -1) dX11_book_9 (by decide) ?_
  refine go_icmp_ne 18 dX11_book_10 rfl ⟨fun hc => ?_, fun hc => ?_⟩
  · have hF := hF.1 hc
    refine go_iload_n dX11_book_18 rfl ?_
    refine go_iconst (v := 0) dX11_book_19 (by decide) ?_
    refine go_aload_n dX11_book_20 rfl ?_
    refine go_getI (k := 6) dX11_book_21 sh_12 rfl inX5 (Nat.le_of_ble_eq_true rfl) lf_X11_264 rfl ?_
    refine go_iconst (v := 1) dX11_book_24 (by decide) ?_
    refine go_isub dX11_book_25 ?_
    rcases Classical.em (0 ≤ a0 ∧ a0 ≤ ((m.1 12 6) - 1)) with hp | hp
    · have hF := hF.1 hp
      refine go_callS mX11_within dX11_book_26 lm_X11_81 okX11_within isX11_within (As := [.int a0, .int 0, .int ((m.1 12 6) - 1)]) (S := []) rfl rfl (Nat.le_of_ble_eq_true rfl) (eX11_within G _ a0 0 ((m.1 12 6) - 1) m (fun r m' => r = 1 ∧ m = m') ⟨fun _ => ⟨rfl, rfl⟩, fun q => absurd hp q⟩) (k_i (fun r m' hr => ?_))
      obtain ⟨hr1, hr2⟩ := hr
      subst hr1
      subst hr2
      refine go_if_eq 41 dX11_book_29 rfl ⟨fun hc => absurd hc (by decide), fun _ => ?_⟩
      refine go_iload_n dX11_book_32 rfl ?_
      refine go_iconst (v := 0) dX11_book_33 (by decide) ?_
      refine go_iconst (v := 3) dX11_book_34 (by decide) ?_
      rcases Classical.em (0 ≤ a1 ∧ a1 ≤ 3) with hp | hp
      · have hF := hF.1 hp
        refine go_callS mX11_within dX11_book_35 lm_X11_81 okX11_within isX11_within (As := [.int a1, .int 0, .int 3]) (S := []) rfl rfl (Nat.le_of_ble_eq_true rfl) (eX11_within G _ a1 0 3 m (fun r m' => r = 1 ∧ m = m') ⟨fun _ => ⟨rfl, rfl⟩, fun q => absurd hp q⟩) (k_i (fun r m' hr => ?_))
        obtain ⟨hr1, hr2⟩ := hr
        subst hr1
        subst hr2
        refine go_if_ne 44 dX11_book_38 rfl ⟨fun _ => ?_, fun hc => absurd hc (by decide)⟩
        refine go_aload_n dX11_book_44 rfl ?_
        refine go_getR (k := 7) (r := 14) dX11_book_45 sh_12 rfl inX5 (Nat.le_of_ble_eq_true rfl) lf_X11_267 rfl rfl ?_
        refine go_iload_n dX11_book_48 rfl ?_
        refine go_iconst (v := 4) dX11_book_49 (by decide) ?_
        refine go_imul dX11_book_50 ?_
        refine go_iload_n dX11_book_51 rfl ?_
        refine go_iadd dX11_book_52 ?_
        obtain ⟨hi, hF⟩ := hF
        refine go_iald dX11_book_53 sh_14 hi ?_
        exact go_iret (S := []) dX11_book_54 rfl ⟨_, rfl, hF⟩
      · have hF := hF.2 hp
        refine go_callS mX11_within dX11_book_35 lm_X11_81 okX11_within isX11_within (As := [.int a1, .int 0, .int 3]) (S := []) rfl rfl (Nat.le_of_ble_eq_true rfl) (eX11_within G _ a1 0 3 m (fun r m' => r = 0 ∧ m = m') ⟨fun q => absurd q hp, fun _ => ⟨rfl, rfl⟩⟩) (k_i (fun r m' hr => ?_))
        obtain ⟨hr1, hr2⟩ := hr
        subst hr1
        subst hr2
        refine go_if_ne 44 dX11_book_38 rfl ⟨fun hc => absurd hc (by decide), fun _ => ?_⟩
        refine go_bipush (v := -2) dX11_book_41 (by decide) ?_
        exact go_iret (S := []) dX11_book_43 rfl ⟨_, rfl, hF⟩
    · have hF := hF.2 hp
      refine go_callS mX11_within dX11_book_26 lm_X11_81 okX11_within isX11_within (As := [.int a0, .int 0, .int ((m.1 12 6) - 1)]) (S := []) rfl rfl (Nat.le_of_ble_eq_true rfl) (eX11_within G _ a0 0 ((m.1 12 6) - 1) m (fun r m' => r = 0 ∧ m = m') ⟨fun q => absurd q hp, fun _ => ⟨rfl, rfl⟩⟩) (k_i (fun r m' hr => ?_))
      obtain ⟨hr1, hr2⟩ := hr
      subst hr1
      subst hr2
      refine go_if_eq 41 dX11_book_29 rfl ⟨fun _ => ?_, fun hc => absurd hc (by decide)⟩
      refine go_bipush (v := -2) dX11_book_41 (by decide) ?_
      exact go_iret (S := []) dX11_book_43 rfl ⟨_, rfl, hF⟩
  · have hF := hF.2 hc
    refine go_aload_n dX11_book_13 rfl ?_
    refine go_getI (k := 6) dX11_book_14 sh_12 rfl inX5 (Nat.le_of_ble_eq_true rfl) lf_X11_264 rfl ?_
    exact go_iret (S := []) dX11_book_17 rfl ⟨_, rfl, hF⟩
theorem vX11_readings (G : GP) (d : Nat) (a0 : Int32) (m : Mem) (K : Int32 → Mem → Prop) (hF : Evi G (d + 5) mX0_waysToRead [.ref (ga G 266), .int a0] m (fun r2 m1 => K r2 m1)) : Evi G (d + 6) mX11_readings [.ref (ga G 0), .int a0] m K := by
  refine Ev.go [.ref (ga G 0), .int a0] (by decide) (Nat.le_of_ble_eq_true rfl) rfl ?_
  refine go_aload_n dX11_readings_0 rfl ?_
  refine go_getR (k := 7) (r := 266) dX11_readings_1 sh_0 rfl inX11 (Nat.le_of_ble_eq_true rfl) lf_X11_63 rfl rfl ?_
  refine go_iload_n dX11_readings_4 rfl ?_
  refine go_callV mX0_waysToRead dX11_readings_5 lm_X11_152 okX0_waysToRead isX0_waysToRead sh_266 rfl (As := [.int a0]) (S := []) rfl rfl (Nat.le_of_ble_eq_true rfl) hF (k_i (fun r2 m1 hF => ?_))
  exact go_iret (S := []) dX11_readings_8 rfl ⟨_, rfl, hF⟩
theorem vX11_reading (G : GP) (d : Nat) (a0 : Int32) (a1 : Int32) (m : Mem) (K : Int32 → Mem → Prop) (hF : Evi G (d + 6) mX0_firstReading [.ref (ga G 266), .int a0, .int a1] m (fun r2 m1 => K r2 m1)) : Evi G (d + 7) mX11_reading [.ref (ga G 0), .int a0, .int a1] m K := by
  refine Ev.go [.ref (ga G 0), .int a0, .int a1] (by decide) (Nat.le_of_ble_eq_true rfl) rfl ?_
  refine go_aload_n dX11_reading_0 rfl ?_
  refine go_getR (k := 7) (r := 266) dX11_reading_1 sh_0 rfl inX11 (Nat.le_of_ble_eq_true rfl) lf_X11_63 rfl rfl ?_
  refine go_iload_n dX11_reading_4 rfl ?_
  refine go_iload_n dX11_reading_5 rfl ?_
  refine go_callV mX0_firstReading dX11_reading_6 lm_X11_270 okX0_firstReading isX0_firstReading sh_266 rfl (As := [.int a0, .int a1]) (S := []) rfl rfl (Nat.le_of_ble_eq_true rfl) hF (k_i (fun r2 m1 hF => ?_))
  exact go_iret (S := []) dX11_reading_9 rfl ⟨_, rfl, hF⟩
theorem vX11_weight (G : GP) (d : Nat) (a0 : Int32) (a1 : Int32) (m : Mem) (K : Int32 → Mem → Prop) (hF : ((0 ≤ a0 ∧ a0 < m.1 2 4) → ((0 ≤ a1 ∧ a1 ≤ 99) → vp_in a0 10 ∧ ∀ m1 : Mem, m1 = wI m 108 a0.toNatClampNeg a1 → K 1 m1) ∧ (¬ (0 ≤ a1 ∧ a1 ≤ 99) → K 0 m)) ∧ (¬ (0 ≤ a0 ∧ a0 < m.1 2 4) → K 0 m)) : Evi G (d + 1) mX11_weight [.ref (ga G 0), .int a0, .int a1] m K := by
  refine Ev.go [.ref (ga G 0), .int a0, .int a1] (by decide) (Nat.le_of_ble_eq_true rfl) rfl ?_
  refine go_aload_n dX11_weight_0 rfl ?_
  refine go_getR (k := 0) (r := 1) dX11_weight_1 sh_0 rfl inX11 (Nat.le_of_ble_eq_true rfl) lf_X11_10 rfl rfl ?_
  refine go_getR (k := 0) (r := 2) dX11_weight_4 sh_1 rfl inX10 (Nat.le_of_ble_eq_true rfl) lf_X11_67 rfl rfl ?_
  refine go_iload_n dX11_weight_7 rfl ?_
  rcases Classical.em (0 ≤ a0 ∧ a0 < m.1 2 4) with hp | hp
  · have hF := hF.1 hp
    refine go_callV mX2_hasWord dX11_weight_8 lm_X11_242 okX2_hasWord isX2_hasWord sh_2 rfl (As := [.int a0]) (S := []) rfl rfl (Nat.le_of_ble_eq_true rfl) (eX2_hasWord G _ a0 m (fun r m' => r = 1 ∧ m = m') ⟨fun _ => ⟨rfl, rfl⟩, fun q => absurd hp q⟩) (k_i (fun r m' hr => ?_))
    obtain ⟨hr1, hr2⟩ := hr
    subst hr1
    subst hr2
    refine go_if_eq 24 dX11_weight_11 rfl ⟨fun hc => absurd hc (by decide), fun _ => ?_⟩
    refine go_iload_n dX11_weight_14 rfl ?_
    refine go_iconst (v := 0) dX11_weight_15 (by decide) ?_
    refine go_bipush (v := 99) dX11_weight_16 (by decide) ?_
    rcases Classical.em (0 ≤ a1 ∧ a1 ≤ 99) with hp | hp
    · have hF := hF.1 hp
      refine go_callS mX11_within dX11_weight_18 lm_X11_81 okX11_within isX11_within (As := [.int a1, .int 0, .int 99]) (S := []) rfl rfl (Nat.le_of_ble_eq_true rfl) (eX11_within G _ a1 0 99 m (fun r m' => r = 1 ∧ m = m') ⟨fun _ => ⟨rfl, rfl⟩, fun q => absurd hp q⟩) (k_i (fun r m' hr => ?_))
      obtain ⟨hr1, hr2⟩ := hr
      subst hr1
      subst hr2
      refine go_if_ne 26 dX11_weight_21 rfl ⟨fun _ => ?_, fun hc => absurd hc (by decide)⟩
      refine go_aload_n dX11_weight_26 rfl ?_
      refine go_getR (k := 0) (r := 1) dX11_weight_27 sh_0 rfl inX11 (Nat.le_of_ble_eq_true rfl) lf_X11_10 rfl rfl ?_
      refine go_getR (k := 3) (r := 107) dX11_weight_30 sh_1 rfl inX10 (Nat.le_of_ble_eq_true rfl) lf_X11_274 rfl rfl ?_
      refine go_getR (k := 0) (r := 108) dX11_weight_33 sh_107 rfl inX9 (Nat.le_of_ble_eq_true rfl) lf_X11_277 rfl rfl ?_
      refine go_iload_n dX11_weight_36 rfl ?_
      refine go_iload_n dX11_weight_37 rfl ?_
      obtain ⟨hi, hF⟩ := hF
      refine go_iast dX11_weight_38 sh_108 hi ?_
      obtain ⟨m1, em1⟩ : ∃ z : Mem, z = wI m 108 a0.toNatClampNeg a1 := ⟨_, rfl⟩
      rw [← em1]
      have hF := hF m1 em1
      refine go_iconst (v := 1) dX11_weight_39 (by decide) ?_
      exact go_zret (S := []) dX11_weight_40 rfl (by decide) ⟨_, rfl, hF⟩
    · have hF := hF.2 hp
      refine go_callS mX11_within dX11_weight_18 lm_X11_81 okX11_within isX11_within (As := [.int a1, .int 0, .int 99]) (S := []) rfl rfl (Nat.le_of_ble_eq_true rfl) (eX11_within G _ a1 0 99 m (fun r m' => r = 0 ∧ m = m') ⟨fun q => absurd q hp, fun _ => ⟨rfl, rfl⟩⟩) (k_i (fun r m' hr => ?_))
      obtain ⟨hr1, hr2⟩ := hr
      subst hr1
      subst hr2
      refine go_if_ne 26 dX11_weight_21 rfl ⟨fun hc => absurd hc (by decide), fun _ => ?_⟩
      refine go_iconst (v := 0) dX11_weight_24 (by decide) ?_
      exact go_zret (S := []) dX11_weight_25 rfl (by decide) ⟨_, rfl, hF⟩
  · have hF := hF.2 hp
    refine go_callV mX2_hasWord dX11_weight_8 lm_X11_242 okX2_hasWord isX2_hasWord sh_2 rfl (As := [.int a0]) (S := []) rfl rfl (Nat.le_of_ble_eq_true rfl) (eX2_hasWord G _ a0 m (fun r m' => r = 0 ∧ m = m') ⟨fun q => absurd q hp, fun _ => ⟨rfl, rfl⟩⟩) (k_i (fun r m' hr => ?_))
    obtain ⟨hr1, hr2⟩ := hr
    subst hr1
    subst hr2
    refine go_if_eq 24 dX11_weight_11 rfl ⟨fun _ => ?_, fun hc => absurd hc (by decide)⟩
    refine go_iconst (v := 0) dX11_weight_24 (by decide) ?_
    exact go_zret (S := []) dX11_weight_25 rfl (by decide) ⟨_, rfl, hF⟩
theorem vX11_meant (G : GP) (d : Nat) (a0 : Int32) (a1 : Int32) (a2 : Int32) (m : Mem) (K : Int64 → Mem → Prop) (hF : ((0 ≤ a0 ∧ a0 < m.1 2 4) → ((0 ≤ a1 ∧ a1 ≤ 10) → Evv G (d + 3) mX0_listen [.ref (ga G 266)] m (fun m1 => Gw G (d + 4) mX11_meant 44 [.ref (ga G 0), .int a0, .int a1, .int a2, .long 0, uu, .long 0, uu, .int 0, uu, uu] [] m1 (Ql K))) ∧ (¬ (0 ≤ a1 ∧ a1 ≤ 10) → K (-1) m)) ∧ (¬ (0 ≤ a0 ∧ a0 < m.1 2 4) → K (-1) m)) : Evl G (d + 4) mX11_meant [.ref (ga G 0), .int a0, .int a1, .int a2] m K := by
  refine Ev.go [.ref (ga G 0), .int a0, .int a1, .int a2, uu, uu, uu, uu, uu, uu, uu] (by decide) (Nat.le_of_ble_eq_true rfl) rfl ?_
  refine go_aload_n dX11_meant_0 rfl ?_
  refine go_getR (k := 0) (r := 1) dX11_meant_1 sh_0 rfl inX11 (Nat.le_of_ble_eq_true rfl) lf_X11_10 rfl rfl ?_
  refine go_getR (k := 0) (r := 2) dX11_meant_4 sh_1 rfl inX10 (Nat.le_of_ble_eq_true rfl) lf_X11_67 rfl rfl ?_
  refine go_iload_n dX11_meant_7 rfl ?_
  rcases Classical.em (0 ≤ a0 ∧ a0 < m.1 2 4) with hp | hp
  · have hF := hF.1 hp
    refine go_callV mX2_hasWord dX11_meant_8 lm_X11_242 okX2_hasWord isX2_hasWord sh_2 rfl (As := [.int a0]) (S := []) rfl rfl (Nat.le_of_ble_eq_true rfl) (eX2_hasWord G _ a0 m (fun r m' => r = 1 ∧ m = m') ⟨fun _ => ⟨rfl, rfl⟩, fun q => absurd hp q⟩) (k_i (fun r m' hr => ?_))
    obtain ⟨hr1, hr2⟩ := hr
    subst hr1
    subst hr2
    refine go_if_eq 24 dX11_meant_11 rfl ⟨fun hc => absurd hc (by decide), fun _ => ?_⟩
    refine go_iload_n dX11_meant_14 rfl ?_
    refine go_iconst (v := 0) dX11_meant_15 (by decide) ?_
    refine go_bipush (v := 10) dX11_meant_16 (by decide) ?_
    rcases Classical.em (0 ≤ a1 ∧ a1 ≤ 10) with hp | hp
    · have hF := hF.1 hp
      refine go_callS mX11_within dX11_meant_18 lm_X11_81 okX11_within isX11_within (As := [.int a1, .int 0, .int 10]) (S := []) rfl rfl (Nat.le_of_ble_eq_true rfl) (eX11_within G _ a1 0 10 m (fun r m' => r = 1 ∧ m = m') ⟨fun _ => ⟨rfl, rfl⟩, fun q => absurd hp q⟩) (k_i (fun r m' hr => ?_))
      obtain ⟨hr1, hr2⟩ := hr
      subst hr1
      subst hr2
      refine go_if_ne 28 dX11_meant_21 rfl ⟨fun _ => ?_, fun hc => absurd hc (by decide)⟩
      refine go_aload_n dX11_meant_28 rfl ?_
      refine go_getR (k := 7) (r := 266) dX11_meant_29 sh_0 rfl inX11 (Nat.le_of_ble_eq_true rfl) lf_X11_63 rfl rfl ?_
      refine go_callV mX0_listen dX11_meant_32 lm_X11_257 okX0_listen isX0_listen sh_266 rfl (As := []) (S := []) rfl rfl (Nat.le_of_ble_eq_true rfl) hF (k_v (fun m1 hF => ?_))
      refine go_lconst (v := 0) dX11_meant_35 (by decide) ?_
      refine go_lstore (L' := [.ref (ga G 0), .int a0, .int a1, .int a2, .long 0, uu, uu, uu, uu, uu, uu]) dX11_meant_36 (Nat.le_of_ble_eq_true rfl) rfl ?_
      refine go_lconst (v := 0) dX11_meant_38 (by decide) ?_
      refine go_lstore (L' := [.ref (ga G 0), .int a0, .int a1, .int a2, .long 0, uu, .long 0, uu, uu, uu, uu]) dX11_meant_39 (Nat.le_of_ble_eq_true rfl) rfl ?_
      refine go_iconst (v := 0) dX11_meant_41 (by decide) ?_
      refine go_istore (L' := [.ref (ga G 0), .int a0, .int a1, .int a2, .long 0, uu, .long 0, uu, .int 0, uu, uu]) dX11_meant_42 (Nat.le_of_ble_eq_true rfl) rfl ?_
      exact hF
    · have hF := hF.2 hp
      refine go_callS mX11_within dX11_meant_18 lm_X11_81 okX11_within isX11_within (As := [.int a1, .int 0, .int 10]) (S := []) rfl rfl (Nat.le_of_ble_eq_true rfl) (eX11_within G _ a1 0 10 m (fun r m' => r = 0 ∧ m = m') ⟨fun q => absurd q hp, fun _ => ⟨rfl, rfl⟩⟩) (k_i (fun r m' hr => ?_))
      obtain ⟨hr1, hr2⟩ := hr
      subst hr1
      subst hr2
      refine go_if_ne 28 dX11_meant_21 rfl ⟨fun hc => absurd hc (by decide), fun _ => ?_⟩
      refine go_ldc2 (v := -1) dX11_meant_24 lc_X11_282 ?_
      exact go_lret (S := []) dX11_meant_27 rfl ⟨_, rfl, hF⟩
  · have hF := hF.2 hp
    refine go_callV mX2_hasWord dX11_meant_8 lm_X11_242 okX2_hasWord isX2_hasWord sh_2 rfl (As := [.int a0]) (S := []) rfl rfl (Nat.le_of_ble_eq_true rfl) (eX2_hasWord G _ a0 m (fun r m' => r = 0 ∧ m = m') ⟨fun q => absurd q hp, fun _ => ⟨rfl, rfl⟩⟩) (k_i (fun r m' hr => ?_))
    obtain ⟨hr1, hr2⟩ := hr
    subst hr1
    subst hr2
    refine go_if_eq 24 dX11_meant_11 rfl ⟨fun _ => ?_, fun hc => absurd hc (by decide)⟩
    refine go_ldc2 (v := -1) dX11_meant_24 lc_X11_282 ?_
    exact go_lret (S := []) dX11_meant_27 rfl ⟨_, rfl, hF⟩
theorem vX11_meant_44 (G : GP) (d : Nat) (l1 : Int32) (l2 : Int32) (l3 : Int32) (l4 : Int64) (u5 : Value) (l6 : Int64) (u7 : Value) (l8 : Int32) (u9 : Value) (u10 : Value) (m : Mem) (K : Int64 → Mem → Prop) (hF : (((m.1 2 4) ≤ l8) → ((¬ (lg_cmp l6 0) = 0) → Evl G (d + 3) mX11_commonDivisor [.long l6, .long l4] m (fun r3 m2 => ((¬ (lg_cmp r3 0) = 0) → ((l3 = 0) → ¬ r3 = 0 ∧ K (l4 / r3) m2) ∧ ((¬ l3 = 0) → ¬ r3 = 0 ∧ K (l6 / r3) m2)) ∧ (((lg_cmp r3 0) = 0) → K (-1) m2))) ∧ (((lg_cmp l6 0) = 0) → ((l3 = 0) → K 0 m) ∧ ((¬ l3 = 0) → K 1 m))) ∧ ((¬ (m.1 2 4) ≤ l8) → vp_in l8 10 ∧ Evl G (d + 3) mX0_likelihood [.ref (ga G 266), .int l8, .int l2] m (fun r5 m4 => ∀ x6 : Int64, x6 = ((m.1 108 l8.toNatClampNeg).toInt64) * r5 → ∀ x7 : Int64, x7 = l6 + x6 → ((¬ l8 = l1) → ∀ x8 : Int32, x8 = l8 + 1 → Gw G (d + 4) mX11_meant 44 [.ref (ga G 0), .int l1, .int l2, .int l3, .long l4, uu, .long x7, uu, .int x8, .long x6, uu] [] m4 (Ql K)) ∧ ((l8 = l1) → ∀ x9 : Int32, x9 = l8 + 1 → Gw G (d + 4) mX11_meant 44 [.ref (ga G 0), .int l1, .int l2, .int l3, .long x6, uu, .long x7, uu, .int x9, .long x6, uu] [] m4 (Ql K))))) : Gw G (d + 4) mX11_meant 44 [.ref (ga G 0), .int l1, .int l2, .int l3, .long l4, u5, .long l6, u7, .int l8, u9, u10] [] m (Ql K) := by
  refine Gw.weak (L' := [.ref (ga G 0), .int l1, .int l2, .int l3, .long l4, uu, .long l6, uu, .int l8, uu, uu]) ⟨Or.inl rfl, Or.inl rfl, Or.inl rfl, Or.inl rfl, Or.inl rfl, Or.inr rfl, Or.inl rfl, Or.inr rfl, Or.inl rfl, Or.inr rfl, Or.inr rfl, trivial⟩ ?_
  refine go_iload dX11_meant_44 rfl ?_
  refine go_aload_n dX11_meant_46 rfl ?_
  refine go_getR (k := 0) (r := 1) dX11_meant_47 sh_0 rfl inX11 (Nat.le_of_ble_eq_true rfl) lf_X11_10 rfl rfl ?_
  refine go_getR (k := 0) (r := 2) dX11_meant_50 sh_1 rfl inX10 (Nat.le_of_ble_eq_true rfl) lf_X11_67 rfl rfl ?_
  refine go_getI (k := 4) dX11_meant_53 sh_2 rfl inX2 (Nat.le_of_ble_eq_true rfl) lf_X11_169 rfl ?_
  refine go_icmp_ge 109 dX11_meant_56 rfl ⟨fun hc => ?_, fun hc => ?_⟩
  · have hF := hF.1 hc
    refine go_lload dX11_meant_109 rfl ?_
    refine go_lconst (v := 0) dX11_meant_111 (by decide) ?_
    refine go_lcmp dX11_meant_112 ?_
    refine go_if_ne 126 dX11_meant_113 rfl ⟨fun hc => ?_, fun hc => ?_⟩
    · have hF := hF.1 hc
      refine go_lload dX11_meant_126 rfl ?_
      refine go_lload dX11_meant_128 rfl ?_
      refine go_callS mX11_commonDivisor dX11_meant_130 lm_X11_288 okX11_commonDivisor isX11_commonDivisor (As := [.long l6, .long l4]) (S := []) rfl rfl (Nat.le_of_ble_eq_true rfl) hF (k_l (fun r3 m2 hF => ?_))
      refine go_lstore (L' := [.ref (ga G 0), .int l1, .int l2, .int l3, .long l4, uu, .long l6, uu, .long r3, uu, uu]) dX11_meant_133 (Nat.le_of_ble_eq_true rfl) rfl ?_
      refine go_lload dX11_meant_135 rfl ?_
      refine go_lconst (v := 0) dX11_meant_137 (by decide) ?_
      refine go_lcmp dX11_meant_138 ?_
      refine go_if_ne 146 dX11_meant_139 rfl ⟨fun hc => ?_, fun hc => ?_⟩
      · have hF := hF.1 hc
        refine go_iload_n dX11_meant_146 rfl ?_
        refine go_if_eq 155 dX11_meant_147 rfl ⟨fun hc => ?_, fun hc => ?_⟩
        · have hF := hF.1 hc
          refine go_lload dX11_meant_155 rfl ?_
          refine go_lload dX11_meant_157 rfl ?_
          obtain ⟨h0, hF⟩ := hF
          refine go_ldiv dX11_meant_159 h0 ?_
          exact go_lret (S := []) dX11_meant_160 rfl ⟨_, rfl, hF⟩
        · have hF := hF.2 hc
          refine go_lload dX11_meant_150 rfl ?_
          refine go_goto 157 dX11_meant_152 rfl ?_
          refine go_lload dX11_meant_157 rfl ?_
          obtain ⟨h0, hF⟩ := hF
          refine go_ldiv dX11_meant_159 h0 ?_
          exact go_lret (S := []) dX11_meant_160 rfl ⟨_, rfl, hF⟩
      · have hF := hF.2 hc
        refine go_ldc2 (v := -1) dX11_meant_142 lc_X11_282 ?_
        exact go_lret (S := []) dX11_meant_145 rfl ⟨_, rfl, hF⟩
    · have hF := hF.2 hc
      refine go_iload_n dX11_meant_116 rfl ?_
      refine go_if_eq 124 dX11_meant_117 rfl ⟨fun hc => ?_, fun hc => ?_⟩
      · have hF := hF.1 hc
        refine go_lconst (v := 0) dX11_meant_124 (by decide) ?_
        exact go_lret (S := []) dX11_meant_125 rfl ⟨_, rfl, hF⟩
      · have hF := hF.2 hc
        refine go_lconst (v := 1) dX11_meant_120 (by decide) ?_
        refine go_goto 125 dX11_meant_121 rfl ?_
        exact go_lret (S := []) dX11_meant_125 rfl ⟨_, rfl, hF⟩
  · have hF := hF.2 hc
    refine go_aload_n dX11_meant_59 rfl ?_
    refine go_getR (k := 0) (r := 1) dX11_meant_60 sh_0 rfl inX11 (Nat.le_of_ble_eq_true rfl) lf_X11_10 rfl rfl ?_
    refine go_getR (k := 3) (r := 107) dX11_meant_63 sh_1 rfl inX10 (Nat.le_of_ble_eq_true rfl) lf_X11_274 rfl rfl ?_
    refine go_getR (k := 0) (r := 108) dX11_meant_66 sh_107 rfl inX9 (Nat.le_of_ble_eq_true rfl) lf_X11_277 rfl rfl ?_
    refine go_iload dX11_meant_69 rfl ?_
    obtain ⟨hi, hF⟩ := hF
    refine go_iald dX11_meant_71 sh_108 hi ?_
    refine go_i2l dX11_meant_72 ?_
    refine go_aload_n dX11_meant_73 rfl ?_
    refine go_getR (k := 7) (r := 266) dX11_meant_74 sh_0 rfl inX11 (Nat.le_of_ble_eq_true rfl) lf_X11_63 rfl rfl ?_
    refine go_iload dX11_meant_77 rfl ?_
    refine go_iload_n dX11_meant_79 rfl ?_
    refine go_callV mX0_likelihood dX11_meant_80 lm_X11_284 okX0_likelihood isX0_likelihood sh_266 rfl (As := [.int l8, .int l2]) (S := [.long ((m.1 108 l8.toNatClampNeg).toInt64)]) rfl rfl (Nat.le_of_ble_eq_true rfl) hF (k_l (fun r5 m4 hF => ?_))
    refine go_lmul dX11_meant_83 ?_
    refine Gw.namel (fun x6 ex6 => ?_)
    have hF := hF x6 ex6
    refine go_lstore (L' := [.ref (ga G 0), .int l1, .int l2, .int l3, .long l4, uu, .long l6, uu, .int l8, .long x6, uu]) dX11_meant_84 (Nat.le_of_ble_eq_true rfl) rfl ?_
    refine go_lload dX11_meant_86 rfl ?_
    refine go_lload dX11_meant_88 rfl ?_
    refine go_ladd dX11_meant_90 ?_
    refine Gw.namel (fun x7 ex7 => ?_)
    have hF := hF x7 ex7
    refine go_lstore (L' := [.ref (ga G 0), .int l1, .int l2, .int l3, .long l4, uu, .long x7, uu, .int l8, .long x6, uu]) dX11_meant_91 (Nat.le_of_ble_eq_true rfl) rfl ?_
    refine go_iload dX11_meant_93 rfl ?_
    refine go_iload_n dX11_meant_95 rfl ?_
    refine go_icmp_ne 103 dX11_meant_96 rfl ⟨fun hc => ?_, fun hc => ?_⟩
    · have hF := hF.1 hc
      obtain ⟨x8, ex8⟩ : ∃ z : Int32, z = l8 + 1 := ⟨_, rfl⟩
      have hF := hF x8 ex8
      refine go_iinc (v := x8) (L' := [.ref (ga G 0), .int l1, .int l2, .int l3, .long l4, uu, .long x7, uu, .int x8, .long x6, uu]) dX11_meant_103 rfl (by rw [ex8]; rfl) (Nat.le_of_ble_eq_true rfl) rfl ?_
      refine go_goto 44 dX11_meant_106 rfl ?_
      exact hF
    · have hF := hF.2 hc
      refine go_lload dX11_meant_99 rfl ?_
      refine go_lstore (L' := [.ref (ga G 0), .int l1, .int l2, .int l3, .long x6, uu, .long x7, uu, .int l8, .long x6, uu]) dX11_meant_101 (Nat.le_of_ble_eq_true rfl) rfl ?_
      obtain ⟨x9, ex9⟩ : ∃ z : Int32, z = l8 + 1 := ⟨_, rfl⟩
      have hF := hF x9 ex9
      refine go_iinc (v := x9) (L' := [.ref (ga G 0), .int l1, .int l2, .int l3, .long x6, uu, .long x7, uu, .int x9, .long x6, uu]) dX11_meant_103 rfl (by rw [ex9]; rfl) (Nat.le_of_ble_eq_true rfl) rfl ?_
      refine go_goto 44 dX11_meant_106 rfl ?_
      exact hF
theorem vX11_shortest (G : GP) (d : Nat) (a0 : Int32) (m : Mem) (K : Int32 → Mem → Prop) (hF : Gw G (d + 5) mX11_shortest 13 [.ref (ga G 0), .int a0, .ref (ga G 2), .int (-1), .int 0, uu] [] m (Qi K)) : Evi G (d + 5) mX11_shortest [.ref (ga G 0), .int a0] m K := by
  refine Ev.go [.ref (ga G 0), .int a0, uu, uu, uu, uu] (by decide) (Nat.le_of_ble_eq_true rfl) rfl ?_
  refine go_aload_n dX11_shortest_0 rfl ?_
  refine go_getR (k := 0) (r := 1) dX11_shortest_1 sh_0 rfl inX11 (Nat.le_of_ble_eq_true rfl) lf_X11_10 rfl rfl ?_
  refine go_getR (k := 0) (r := 2) dX11_shortest_4 sh_1 rfl inX10 (Nat.le_of_ble_eq_true rfl) lf_X11_67 rfl rfl ?_
  refine go_astore_n (L' := [.ref (ga G 0), .int a0, .ref (ga G 2), uu, uu, uu]) dX11_shortest_7 (Nat.le_of_ble_eq_true rfl) rfl ?_
  refine go_iconst (v := -1) dX11_shortest_8 (by decide) ?_
  refine go_istore_n (L' := [.ref (ga G 0), .int a0, .ref (ga G 2), .int (-1), uu, uu]) dX11_shortest_9 (Nat.le_of_ble_eq_true rfl) rfl ?_
  refine go_iconst (v := 0) dX11_shortest_10 (by decide) ?_
  refine go_istore (L' := [.ref (ga G 0), .int a0, .ref (ga G 2), .int (-1), .int 0, uu]) dX11_shortest_11 (Nat.le_of_ble_eq_true rfl) rfl ?_
  exact hF
theorem vX11_shortest_13 (G : GP) (d : Nat) (l1 : Int32) (l3 : Int32) (l4 : Int32) (u5 : Value) (m : Mem) (K : Int32 → Mem → Prop) (hF : (((m.1 2 4) ≤ l4) → K l3 m) ∧ ((¬ (m.1 2 4) ≤ l4) → ((l3 = (-1)) → vp_in l4 10 ∧ ((¬ (m.1 9 l4.toNatClampNeg) = l1) → ∀ x1 : Int32, x1 = l4 + 1 → Gw G (d + 5) mX11_shortest 13 [.ref (ga G 0), .int l1, .ref (ga G 2), .int l3, .int x1, .int 1] [] m (Qi K)) ∧ (((m.1 9 l4.toNatClampNeg) = l1) → Evi G (d + 4) mX11_allGetOver [.ref (ga G 0), .int l4, .int (m.1 12 0)] m (fun r3 m2 => ((r3 = 0) → ∀ x4 : Int32, x4 = l4 + 1 → Gw G (d + 5) mX11_shortest 13 [.ref (ga G 0), .int l1, .ref (ga G 2), .int l3, .int x4, .int 1] [] m2 (Qi K)) ∧ ((¬ r3 = 0) → ∀ x5 : Int32, x5 = l4 + 1 → Gw G (d + 5) mX11_shortest 13 [.ref (ga G 0), .int l1, .ref (ga G 2), .int l4, .int x5, .int 1] [] m2 (Qi K))))) ∧ ((¬ l3 = (-1)) → vp_in l4 10 ∧ vp_in l3 10 ∧ (((m.1 7 l3.toNatClampNeg) ≤ (m.1 7 l4.toNatClampNeg)) → vp_in l4 10 ∧ ((¬ (m.1 9 l4.toNatClampNeg) = l1) → ∀ x6 : Int32, x6 = l4 + 1 → Gw G (d + 5) mX11_shortest 13 [.ref (ga G 0), .int l1, .ref (ga G 2), .int l3, .int x6, .int 0] [] m (Qi K)) ∧ (((m.1 9 l4.toNatClampNeg) = l1) → ∀ x7 : Int32, x7 = l4 + 1 → Gw G (d + 5) mX11_shortest 13 [.ref (ga G 0), .int l1, .ref (ga G 2), .int l3, .int x7, .int 0] [] m (Qi K))) ∧ ((¬ (m.1 7 l3.toNatClampNeg) ≤ (m.1 7 l4.toNatClampNeg)) → vp_in l4 10 ∧ ((¬ (m.1 9 l4.toNatClampNeg) = l1) → ∀ x8 : Int32, x8 = l4 + 1 → Gw G (d + 5) mX11_shortest 13 [.ref (ga G 0), .int l1, .ref (ga G 2), .int l3, .int x8, .int 1] [] m (Qi K)) ∧ (((m.1 9 l4.toNatClampNeg) = l1) → Evi G (d + 4) mX11_allGetOver [.ref (ga G 0), .int l4, .int (m.1 12 0)] m (fun r10 m9 => ((r10 = 0) → ∀ x11 : Int32, x11 = l4 + 1 → Gw G (d + 5) mX11_shortest 13 [.ref (ga G 0), .int l1, .ref (ga G 2), .int l3, .int x11, .int 1] [] m9 (Qi K)) ∧ ((¬ r10 = 0) → ∀ x12 : Int32, x12 = l4 + 1 → Gw G (d + 5) mX11_shortest 13 [.ref (ga G 0), .int l1, .ref (ga G 2), .int l4, .int x12, .int 1] [] m9 (Qi K)))))))) : Gw G (d + 5) mX11_shortest 13 [.ref (ga G 0), .int l1, .ref (ga G 2), .int l3, .int l4, u5] [] m (Qi K) := by
  refine Gw.weak (L' := [.ref (ga G 0), .int l1, .ref (ga G 2), .int l3, .int l4, uu]) ⟨Or.inl rfl, Or.inl rfl, Or.inl rfl, Or.inl rfl, Or.inl rfl, Or.inr rfl, trivial⟩ ?_
  refine go_iload dX11_shortest_13 rfl ?_
  refine go_aload_n dX11_shortest_15 rfl ?_
  refine go_getI (k := 4) dX11_shortest_16 sh_2 rfl inX2 (Nat.le_of_ble_eq_true rfl) lf_X11_169 rfl ?_
  refine go_icmp_ge 94 dX11_shortest_19 rfl ⟨fun hc => ?_, fun hc => ?_⟩
  · have hF := hF.1 hc
    refine go_iload_n dX11_shortest_94 rfl ?_
    exact go_iret (S := []) dX11_shortest_95 rfl ⟨_, rfl, hF⟩
  · have hF := hF.2 hc
    refine go_iload_n dX11_shortest_22 rfl ?_
    refine go_iconst (v := -1) dX11_shortest_23 (by decide) ?_
    refine go_icmp_eq 43 dX11_shortest_24 rfl ⟨fun hc => ?_, fun hc => ?_⟩
    · have hF := hF.1 hc
      refine go_iconst (v := 1) dX11_shortest_43 (by decide) ?_
      refine go_goto 48 dX11_shortest_44 rfl ?_
      refine go_istore (L' := [.ref (ga G 0), .int l1, .ref (ga G 2), .int l3, .int l4, .int 1]) dX11_shortest_48 (Nat.le_of_ble_eq_true rfl) rfl ?_
      refine go_aload_n dX11_shortest_50 rfl ?_
      refine go_getR (k := 8) (r := 9) dX11_shortest_51 sh_2 rfl inX2 (Nat.le_of_ble_eq_true rfl) lf_X11_248 rfl rfl ?_
      refine go_iload dX11_shortest_54 rfl ?_
      obtain ⟨hi, hF⟩ := hF
      refine go_iald dX11_shortest_56 sh_9 hi ?_
      refine go_iload_n dX11_shortest_57 rfl ?_
      refine go_icmp_ne 88 dX11_shortest_58 rfl ⟨fun hc => ?_, fun hc => ?_⟩
      · have hF := hF.1 hc
        obtain ⟨x1, ex1⟩ : ∃ z : Int32, z = l4 + 1 := ⟨_, rfl⟩
        have hF := hF x1 ex1
        refine go_iinc (v := x1) (L' := [.ref (ga G 0), .int l1, .ref (ga G 2), .int l3, .int x1, .int 1]) dX11_shortest_88 rfl (by rw [ex1]; rfl) (Nat.le_of_ble_eq_true rfl) rfl ?_
        refine go_goto 13 dX11_shortest_91 rfl ?_
        exact hF
      · have hF := hF.2 hc
        refine go_iload dX11_shortest_61 rfl ?_
        refine go_if_eq 88 dX11_shortest_63 rfl ⟨fun hc => absurd hc (by decide), fun _ => ?_⟩
        refine go_aload_n dX11_shortest_66 rfl ?_
        refine go_iload dX11_shortest_67 rfl ?_
        refine go_aload_n dX11_shortest_69 rfl ?_
        refine go_getR (k := 0) (r := 1) dX11_shortest_70 sh_0 rfl inX11 (Nat.le_of_ble_eq_true rfl) lf_X11_10 rfl rfl ?_
        refine go_getR (k := 1) (r := 12) dX11_shortest_73 sh_1 rfl inX10 (Nat.le_of_ble_eq_true rfl) lf_X11_134 rfl rfl ?_
        refine go_getI (k := 0) dX11_shortest_76 sh_12 rfl inX5 (Nat.le_of_ble_eq_true rfl) lf_X11_143 rfl ?_
        refine go_callV mX11_allGetOver dX11_shortest_79 lm_X11_292 okX11_allGetOver isX11_allGetOver sh_0 rfl (As := [.int l4, .int (m.1 12 0)]) (S := []) rfl rfl (Nat.le_of_ble_eq_true rfl) hF (k_i (fun r3 m2 hF => ?_))
        refine go_if_eq 88 dX11_shortest_82 rfl ⟨fun hc => ?_, fun hc => ?_⟩
        · have hF := hF.1 hc
          obtain ⟨x4, ex4⟩ : ∃ z : Int32, z = l4 + 1 := ⟨_, rfl⟩
          have hF := hF x4 ex4
          refine go_iinc (v := x4) (L' := [.ref (ga G 0), .int l1, .ref (ga G 2), .int l3, .int x4, .int 1]) dX11_shortest_88 rfl (by rw [ex4]; rfl) (Nat.le_of_ble_eq_true rfl) rfl ?_
          refine go_goto 13 dX11_shortest_91 rfl ?_
          exact hF
        · have hF := hF.2 hc
          refine go_iload dX11_shortest_85 rfl ?_
          refine go_istore_n (L' := [.ref (ga G 0), .int l1, .ref (ga G 2), .int l4, .int l4, .int 1]) dX11_shortest_87 (Nat.le_of_ble_eq_true rfl) rfl ?_
          obtain ⟨x5, ex5⟩ : ∃ z : Int32, z = l4 + 1 := ⟨_, rfl⟩
          have hF := hF x5 ex5
          refine go_iinc (v := x5) (L' := [.ref (ga G 0), .int l1, .ref (ga G 2), .int l4, .int x5, .int 1]) dX11_shortest_88 rfl (by rw [ex5]; rfl) (Nat.le_of_ble_eq_true rfl) rfl ?_
          refine go_goto 13 dX11_shortest_91 rfl ?_
          exact hF
    · have hF := hF.2 hc
      refine go_aload_n dX11_shortest_27 rfl ?_
      refine go_getR (k := 6) (r := 7) dX11_shortest_28 sh_2 rfl inX2 (Nat.le_of_ble_eq_true rfl) lf_X11_198 rfl rfl ?_
      refine go_iload dX11_shortest_31 rfl ?_
      obtain ⟨hi, hF⟩ := hF
      refine go_iald dX11_shortest_33 sh_7 hi ?_
      refine go_aload_n dX11_shortest_34 rfl ?_
      refine go_getR (k := 6) (r := 7) dX11_shortest_35 sh_2 rfl inX2 (Nat.le_of_ble_eq_true rfl) lf_X11_198 rfl rfl ?_
      refine go_iload_n dX11_shortest_38 rfl ?_
      obtain ⟨hi, hF⟩ := hF
      refine go_iald dX11_shortest_39 sh_7 hi ?_
      refine go_icmp_ge 47 dX11_shortest_40 rfl ⟨fun hc => ?_, fun hc => ?_⟩
      · have hF := hF.1 hc
        refine go_iconst (v := 0) dX11_shortest_47 (by decide) ?_
        refine go_istore (L' := [.ref (ga G 0), .int l1, .ref (ga G 2), .int l3, .int l4, .int 0]) dX11_shortest_48 (Nat.le_of_ble_eq_true rfl) rfl ?_
        refine go_aload_n dX11_shortest_50 rfl ?_
        refine go_getR (k := 8) (r := 9) dX11_shortest_51 sh_2 rfl inX2 (Nat.le_of_ble_eq_true rfl) lf_X11_248 rfl rfl ?_
        refine go_iload dX11_shortest_54 rfl ?_
        obtain ⟨hi, hF⟩ := hF
        refine go_iald dX11_shortest_56 sh_9 hi ?_
        refine go_iload_n dX11_shortest_57 rfl ?_
        refine go_icmp_ne 88 dX11_shortest_58 rfl ⟨fun hc => ?_, fun hc => ?_⟩
        · have hF := hF.1 hc
          obtain ⟨x6, ex6⟩ : ∃ z : Int32, z = l4 + 1 := ⟨_, rfl⟩
          have hF := hF x6 ex6
          refine go_iinc (v := x6) (L' := [.ref (ga G 0), .int l1, .ref (ga G 2), .int l3, .int x6, .int 0]) dX11_shortest_88 rfl (by rw [ex6]; rfl) (Nat.le_of_ble_eq_true rfl) rfl ?_
          refine go_goto 13 dX11_shortest_91 rfl ?_
          exact hF
        · have hF := hF.2 hc
          refine go_iload dX11_shortest_61 rfl ?_
          refine go_if_eq 88 dX11_shortest_63 rfl ⟨fun _ => ?_, fun hc => absurd hc (by decide)⟩
          obtain ⟨x7, ex7⟩ : ∃ z : Int32, z = l4 + 1 := ⟨_, rfl⟩
          have hF := hF x7 ex7
          refine go_iinc (v := x7) (L' := [.ref (ga G 0), .int l1, .ref (ga G 2), .int l3, .int x7, .int 0]) dX11_shortest_88 rfl (by rw [ex7]; rfl) (Nat.le_of_ble_eq_true rfl) rfl ?_
          refine go_goto 13 dX11_shortest_91 rfl ?_
          exact hF
      · have hF := hF.2 hc
        refine go_iconst (v := 1) dX11_shortest_43 (by decide) ?_
        refine go_goto 48 dX11_shortest_44 rfl ?_
        refine go_istore (L' := [.ref (ga G 0), .int l1, .ref (ga G 2), .int l3, .int l4, .int 1]) dX11_shortest_48 (Nat.le_of_ble_eq_true rfl) rfl ?_
        refine go_aload_n dX11_shortest_50 rfl ?_
        refine go_getR (k := 8) (r := 9) dX11_shortest_51 sh_2 rfl inX2 (Nat.le_of_ble_eq_true rfl) lf_X11_248 rfl rfl ?_
        refine go_iload dX11_shortest_54 rfl ?_
        obtain ⟨hi, hF⟩ := hF
        refine go_iald dX11_shortest_56 sh_9 hi ?_
        refine go_iload_n dX11_shortest_57 rfl ?_
        refine go_icmp_ne 88 dX11_shortest_58 rfl ⟨fun hc => ?_, fun hc => ?_⟩
        · have hF := hF.1 hc
          obtain ⟨x8, ex8⟩ : ∃ z : Int32, z = l4 + 1 := ⟨_, rfl⟩
          have hF := hF x8 ex8
          refine go_iinc (v := x8) (L' := [.ref (ga G 0), .int l1, .ref (ga G 2), .int l3, .int x8, .int 1]) dX11_shortest_88 rfl (by rw [ex8]; rfl) (Nat.le_of_ble_eq_true rfl) rfl ?_
          refine go_goto 13 dX11_shortest_91 rfl ?_
          exact hF
        · have hF := hF.2 hc
          refine go_iload dX11_shortest_61 rfl ?_
          refine go_if_eq 88 dX11_shortest_63 rfl ⟨fun hc => absurd hc (by decide), fun _ => ?_⟩
          refine go_aload_n dX11_shortest_66 rfl ?_
          refine go_iload dX11_shortest_67 rfl ?_
          refine go_aload_n dX11_shortest_69 rfl ?_
          refine go_getR (k := 0) (r := 1) dX11_shortest_70 sh_0 rfl inX11 (Nat.le_of_ble_eq_true rfl) lf_X11_10 rfl rfl ?_
          refine go_getR (k := 1) (r := 12) dX11_shortest_73 sh_1 rfl inX10 (Nat.le_of_ble_eq_true rfl) lf_X11_134 rfl rfl ?_
          refine go_getI (k := 0) dX11_shortest_76 sh_12 rfl inX5 (Nat.le_of_ble_eq_true rfl) lf_X11_143 rfl ?_
          refine go_callV mX11_allGetOver dX11_shortest_79 lm_X11_292 okX11_allGetOver isX11_allGetOver sh_0 rfl (As := [.int l4, .int (m.1 12 0)]) (S := []) rfl rfl (Nat.le_of_ble_eq_true rfl) hF (k_i (fun r10 m9 hF => ?_))
          refine go_if_eq 88 dX11_shortest_82 rfl ⟨fun hc => ?_, fun hc => ?_⟩
          · have hF := hF.1 hc
            obtain ⟨x11, ex11⟩ : ∃ z : Int32, z = l4 + 1 := ⟨_, rfl⟩
            have hF := hF x11 ex11
            refine go_iinc (v := x11) (L' := [.ref (ga G 0), .int l1, .ref (ga G 2), .int l3, .int x11, .int 1]) dX11_shortest_88 rfl (by rw [ex11]; rfl) (Nat.le_of_ble_eq_true rfl) rfl ?_
            refine go_goto 13 dX11_shortest_91 rfl ?_
            exact hF
          · have hF := hF.2 hc
            refine go_iload dX11_shortest_85 rfl ?_
            refine go_istore_n (L' := [.ref (ga G 0), .int l1, .ref (ga G 2), .int l4, .int l4, .int 1]) dX11_shortest_87 (Nat.le_of_ble_eq_true rfl) rfl ?_
            obtain ⟨x12, ex12⟩ : ∃ z : Int32, z = l4 + 1 := ⟨_, rfl⟩
            have hF := hF x12 ex12
            refine go_iinc (v := x12) (L' := [.ref (ga G 0), .int l1, .ref (ga G 2), .int l4, .int x12, .int 1]) dX11_shortest_88 rfl (by rw [ex12]; rfl) (Nat.le_of_ble_eq_true rfl) rfl ?_
            refine go_goto 13 dX11_shortest_91 rfl ?_
            exact hF
theorem vX11_atWorst (G : GP) (d : Nat) (a0 : Int32) (m : Mem) (K : Int32 → Mem → Prop) (hF : ((0 ≤ a0 ∧ a0 < m.1 2 4) → Gw G (d + 5) mX11_atWorst 20 [.ref (ga G 0), .int a0, .int (-1), .int 0] [] m (Qi K)) ∧ (¬ (0 ≤ a0 ∧ a0 < m.1 2 4) → K (-1) m)) : Evi G (d + 5) mX11_atWorst [.ref (ga G 0), .int a0] m K := by
  refine Ev.go [.ref (ga G 0), .int a0, uu, uu] (by decide) (Nat.le_of_ble_eq_true rfl) rfl ?_
  refine go_aload_n dX11_atWorst_0 rfl ?_
  refine go_getR (k := 0) (r := 1) dX11_atWorst_1 sh_0 rfl inX11 (Nat.le_of_ble_eq_true rfl) lf_X11_10 rfl rfl ?_
  refine go_getR (k := 0) (r := 2) dX11_atWorst_4 sh_1 rfl inX10 (Nat.le_of_ble_eq_true rfl) lf_X11_67 rfl rfl ?_
  refine go_iload_n dX11_atWorst_7 rfl ?_
  rcases Classical.em (0 ≤ a0 ∧ a0 < m.1 2 4) with hp | hp
  · have hF := hF.1 hp
    refine go_callV mX2_hasWord dX11_atWorst_8 lm_X11_242 okX2_hasWord isX2_hasWord sh_2 rfl (As := [.int a0]) (S := []) rfl rfl (Nat.le_of_ble_eq_true rfl) (eX2_hasWord G _ a0 m (fun r m' => r = 1 ∧ m = m') ⟨fun _ => ⟨rfl, rfl⟩, fun q => absurd hp q⟩) (k_i (fun r m' hr => ?_))
    obtain ⟨hr1, hr2⟩ := hr
    subst hr1
    subst hr2
    refine go_if_ne 16 dX11_atWorst_11 rfl ⟨fun _ => ?_, fun hc => absurd hc (by decide)⟩
    refine go_iconst (v := -1) dX11_atWorst_16 (by decide) ?_
    refine go_istore_n (L' := [.ref (ga G 0), .int a0, .int (-1), uu]) dX11_atWorst_17 (Nat.le_of_ble_eq_true rfl) rfl ?_
    refine go_iconst (v := 0) dX11_atWorst_18 (by decide) ?_
    refine go_istore_n (L' := [.ref (ga G 0), .int a0, .int (-1), .int 0]) dX11_atWorst_19 (Nat.le_of_ble_eq_true rfl) rfl ?_
    exact hF
  · have hF := hF.2 hp
    refine go_callV mX2_hasWord dX11_atWorst_8 lm_X11_242 okX2_hasWord isX2_hasWord sh_2 rfl (As := [.int a0]) (S := []) rfl rfl (Nat.le_of_ble_eq_true rfl) (eX2_hasWord G _ a0 m (fun r m' => r = 0 ∧ m = m') ⟨fun q => absurd q hp, fun _ => ⟨rfl, rfl⟩⟩) (k_i (fun r m' hr => ?_))
    obtain ⟨hr1, hr2⟩ := hr
    subst hr1
    subst hr2
    refine go_if_ne 16 dX11_atWorst_11 rfl ⟨fun hc => absurd hc (by decide), fun _ => ?_⟩
    refine go_iconst (v := -1) dX11_atWorst_14 (by decide) ?_
    exact go_iret (S := []) dX11_atWorst_15 rfl ⟨_, rfl, hF⟩
theorem vX11_atWorst_20 (G : GP) (d : Nat) (l1 : Int32) (l2 : Int32) (l3 : Int32) (m : Mem) (K : Int32 → Mem → Prop) (hF : ((9 < l3) → K l2 m) ∧ ((¬ 9 < l3) → Evi G (d + 4) mX11_allGetOver [.ref (ga G 0), .int l1, .int l3] m (fun r2 m1 => ((r2 = 0) → K l2 m1) ∧ ((¬ r2 = 0) → ∀ x3 : Int32, x3 = l3 + 1 → Gw G (d + 5) mX11_atWorst 20 [.ref (ga G 0), .int l1, .int l3, .int x3] [] m1 (Qi K))))) : Gw G (d + 5) mX11_atWorst 20 [.ref (ga G 0), .int l1, .int l2, .int l3] [] m (Qi K) := by
  refine go_iload_n dX11_atWorst_20 rfl ?_
  refine go_bipush (v := 9) dX11_atWorst_21 (by decide) ?_
  refine go_icmp_gt 43 dX11_atWorst_23 rfl ⟨fun hc => ?_, fun hc => ?_⟩
  · have hF := hF.1 hc
    refine go_iload_n dX11_atWorst_43 rfl ?_
    exact go_iret (S := []) dX11_atWorst_44 rfl ⟨_, rfl, hF⟩
  · have hF := hF.2 hc
    refine go_aload_n dX11_atWorst_26 rfl ?_
    refine go_iload_n dX11_atWorst_27 rfl ?_
    refine go_iload_n dX11_atWorst_28 rfl ?_
    refine go_callV mX11_allGetOver dX11_atWorst_29 lm_X11_292 okX11_allGetOver isX11_allGetOver sh_0 rfl (As := [.int l1, .int l3]) (S := []) rfl rfl (Nat.le_of_ble_eq_true rfl) hF (k_i (fun r2 m1 hF => ?_))
    refine go_if_eq 43 dX11_atWorst_32 rfl ⟨fun hc => ?_, fun hc => ?_⟩
    · have hF := hF.1 hc
      refine go_iload_n dX11_atWorst_43 rfl ?_
      exact go_iret (S := []) dX11_atWorst_44 rfl ⟨_, rfl, hF⟩
    · have hF := hF.2 hc
      refine go_iload_n dX11_atWorst_35 rfl ?_
      refine go_istore_n (L' := [.ref (ga G 0), .int l1, .int l3, .int l3]) dX11_atWorst_36 (Nat.le_of_ble_eq_true rfl) rfl ?_
      obtain ⟨x3, ex3⟩ : ∃ z : Int32, z = l3 + 1 := ⟨_, rfl⟩
      have hF := hF x3 ex3
      refine go_iinc (v := x3) (L' := [.ref (ga G 0), .int l1, .int l3, .int x3]) dX11_atWorst_37 rfl (by rw [ex3]; rfl) (Nat.le_of_ble_eq_true rfl) rfl ?_
      refine go_goto 20 dX11_atWorst_40 rfl ?_
      exact hF
theorem vX11_away (G : GP) (d : Nat) (a0 : Int32) (a1 : Int32) (m : Mem) (K : Int32 → Mem → Prop) (hF : ((0 ≤ a0 ∧ a0 < m.1 2 4) → ((0 ≤ a1 ∧ a1 < m.1 2 4) → Evi G (d + 2) mX2_between [.ref (ga G 2), .int a0, .int a1] m (fun r2 m1 => K r2 m1)) ∧ (¬ (0 ≤ a1 ∧ a1 < m.1 2 4) → K (-1) m)) ∧ (¬ (0 ≤ a0 ∧ a0 < m.1 2 4) → K (-1) m)) : Evi G (d + 3) mX11_away [.ref (ga G 0), .int a0, .int a1] m K := by
  refine Ev.go [.ref (ga G 0), .int a0, .int a1, uu] (by decide) (Nat.le_of_ble_eq_true rfl) rfl ?_
  refine go_aload_n dX11_away_0 rfl ?_
  refine go_getR (k := 0) (r := 1) dX11_away_1 sh_0 rfl inX11 (Nat.le_of_ble_eq_true rfl) lf_X11_10 rfl rfl ?_
  refine go_getR (k := 0) (r := 2) dX11_away_4 sh_1 rfl inX10 (Nat.le_of_ble_eq_true rfl) lf_X11_67 rfl rfl ?_
  refine go_astore_n (L' := [.ref (ga G 0), .int a0, .int a1, .ref (ga G 2)]) dX11_away_7 (Nat.le_of_ble_eq_true rfl) rfl ?_
  refine go_aload_n dX11_away_8 rfl ?_
  refine go_iload_n dX11_away_9 rfl ?_
  rcases Classical.em (0 ≤ a0 ∧ a0 < m.1 2 4) with hp | hp
  · have hF := hF.1 hp
    refine go_callV mX2_hasWord dX11_away_10 lm_X11_242 okX2_hasWord isX2_hasWord sh_2 rfl (As := [.int a0]) (S := []) rfl rfl (Nat.le_of_ble_eq_true rfl) (eX2_hasWord G _ a0 m (fun r m' => r = 1 ∧ m = m') ⟨fun _ => ⟨rfl, rfl⟩, fun q => absurd hp q⟩) (k_i (fun r m' hr => ?_))
    obtain ⟨hr1, hr2⟩ := hr
    subst hr1
    subst hr2
    refine go_if_eq 24 dX11_away_13 rfl ⟨fun hc => absurd hc (by decide), fun _ => ?_⟩
    refine go_aload_n dX11_away_16 rfl ?_
    refine go_iload_n dX11_away_17 rfl ?_
    rcases Classical.em (0 ≤ a1 ∧ a1 < m.1 2 4) with hp | hp
    · have hF := hF.1 hp
      refine go_callV mX2_hasWord dX11_away_18 lm_X11_242 okX2_hasWord isX2_hasWord sh_2 rfl (As := [.int a1]) (S := []) rfl rfl (Nat.le_of_ble_eq_true rfl) (eX2_hasWord G _ a1 m (fun r m' => r = 1 ∧ m = m') ⟨fun _ => ⟨rfl, rfl⟩, fun q => absurd hp q⟩) (k_i (fun r m' hr => ?_))
      obtain ⟨hr1, hr2⟩ := hr
      subst hr1
      subst hr2
      refine go_if_ne 26 dX11_away_21 rfl ⟨fun _ => ?_, fun hc => absurd hc (by decide)⟩
      refine go_aload_n dX11_away_26 rfl ?_
      refine go_iload_n dX11_away_27 rfl ?_
      refine go_iload_n dX11_away_28 rfl ?_
      refine go_callV mX2_between dX11_away_29 lm_X11_296 okX2_between isX2_between sh_2 rfl (As := [.int a0, .int a1]) (S := []) rfl rfl (Nat.le_of_ble_eq_true rfl) hF (k_i (fun r2 m1 hF => ?_))
      exact go_iret (S := []) dX11_away_32 rfl ⟨_, rfl, hF⟩
    · have hF := hF.2 hp
      refine go_callV mX2_hasWord dX11_away_18 lm_X11_242 okX2_hasWord isX2_hasWord sh_2 rfl (As := [.int a1]) (S := []) rfl rfl (Nat.le_of_ble_eq_true rfl) (eX2_hasWord G _ a1 m (fun r m' => r = 0 ∧ m = m') ⟨fun q => absurd q hp, fun _ => ⟨rfl, rfl⟩⟩) (k_i (fun r m' hr => ?_))
      obtain ⟨hr1, hr2⟩ := hr
      subst hr1
      subst hr2
      refine go_if_ne 26 dX11_away_21 rfl ⟨fun hc => absurd hc (by decide), fun _ => ?_⟩
      refine go_iconst (v := -1) dX11_away_24 (by decide) ?_
      exact go_iret (S := []) dX11_away_25 rfl ⟨_, rfl, hF⟩
  · have hF := hF.2 hp
    refine go_callV mX2_hasWord dX11_away_10 lm_X11_242 okX2_hasWord isX2_hasWord sh_2 rfl (As := [.int a0]) (S := []) rfl rfl (Nat.le_of_ble_eq_true rfl) (eX2_hasWord G _ a0 m (fun r m' => r = 0 ∧ m = m') ⟨fun q => absurd q hp, fun _ => ⟨rfl, rfl⟩⟩) (k_i (fun r m' hr => ?_))
    obtain ⟨hr1, hr2⟩ := hr
    subst hr1
    subst hr2
    refine go_if_eq 24 dX11_away_13 rfl ⟨fun _ => ?_, fun hc => absurd hc (by decide)⟩
    refine go_iconst (v := -1) dX11_away_24 (by decide) ?_
    exact go_iret (S := []) dX11_away_25 rfl ⟨_, rfl, hF⟩
theorem vX11_apart (G : GP) (d : Nat) (a0 : Int32) (m : Mem) (K : Int32 → Mem → Prop) (hF : ((1 ≤ a0 ∧ a0 ≤ 4) → Evi G (d + 4) mX2_toldApart [.ref (ga G 2), .int a0] m (fun r2 m1 => K r2 m1)) ∧ (¬ (1 ≤ a0 ∧ a0 ≤ 4) → K (-1) m)) : Evi G (d + 5) mX11_apart [.ref (ga G 0), .int a0] m K := by
  refine Ev.go [.ref (ga G 0), .int a0] (by decide) (Nat.le_of_ble_eq_true rfl) rfl ?_
  refine go_iload_n dX11_apart_0 rfl ?_
  refine go_iconst (v := 1) dX11_apart_1 (by decide) ?_
  refine go_iconst (v := 4) dX11_apart_2 (by decide) ?_
  rcases Classical.em (1 ≤ a0 ∧ a0 ≤ 4) with hp | hp
  · have hF := hF.1 hp
    refine go_callS mX11_within dX11_apart_3 lm_X11_81 okX11_within isX11_within (As := [.int a0, .int 1, .int 4]) (S := []) rfl rfl (Nat.le_of_ble_eq_true rfl) (eX11_within G _ a0 1 4 m (fun r m' => r = 1 ∧ m = m') ⟨fun _ => ⟨rfl, rfl⟩, fun q => absurd hp q⟩) (k_i (fun r m' hr => ?_))
    obtain ⟨hr1, hr2⟩ := hr
    subst hr1
    subst hr2
    refine go_if_eq 23 dX11_apart_6 rfl ⟨fun hc => absurd hc (by decide), fun _ => ?_⟩
    refine go_aload_n dX11_apart_9 rfl ?_
    refine go_getR (k := 0) (r := 1) dX11_apart_10 sh_0 rfl inX11 (Nat.le_of_ble_eq_true rfl) lf_X11_10 rfl rfl ?_
    refine go_getR (k := 0) (r := 2) dX11_apart_13 sh_1 rfl inX10 (Nat.le_of_ble_eq_true rfl) lf_X11_67 rfl rfl ?_
    refine go_iload_n dX11_apart_16 rfl ?_
    refine go_callV mX2_toldApart dX11_apart_17 lm_X11_299 okX2_toldApart isX2_toldApart sh_2 rfl (As := [.int a0]) (S := []) rfl rfl (Nat.le_of_ble_eq_true rfl) hF (k_i (fun r2 m1 hF => ?_))
    refine go_goto 24 dX11_apart_20 rfl ?_
    exact go_iret (S := []) dX11_apart_24 rfl ⟨_, rfl, hF⟩
  · have hF := hF.2 hp
    refine go_callS mX11_within dX11_apart_3 lm_X11_81 okX11_within isX11_within (As := [.int a0, .int 1, .int 4]) (S := []) rfl rfl (Nat.le_of_ble_eq_true rfl) (eX11_within G _ a0 1 4 m (fun r m' => r = 0 ∧ m = m') ⟨fun q => absurd q hp, fun _ => ⟨rfl, rfl⟩⟩) (k_i (fun r m' hr => ?_))
    obtain ⟨hr1, hr2⟩ := hr
    subst hr1
    subst hr2
    refine go_if_eq 23 dX11_apart_6 rfl ⟨fun _ => ?_, fun hc => absurd hc (by decide)⟩
    refine go_iconst (v := -1) dX11_apart_23 (by decide) ?_
    exact go_iret (S := []) dX11_apart_24 rfl ⟨_, rfl, hF⟩
theorem vX11_nearest (G : GP) (d : Nat)  (m : Mem) (K : Int32 → Mem → Prop) (hF : Evv G (d + 1) mX0_listen [.ref (ga G 266)] m (fun m1 => Gw G (d + 2) mX11_nearest 23 [.ref (ga G 0), .ref (ga G 2), .int 28, .int 0, .int 0, uu] [] m1 (Qi K))) : Evi G (d + 2) mX11_nearest [.ref (ga G 0)] m K := by
  refine Ev.go [.ref (ga G 0), uu, uu, uu, uu, uu] (by decide) (Nat.le_of_ble_eq_true rfl) rfl ?_
  refine go_aload_n dX11_nearest_0 rfl ?_
  refine go_getR (k := 7) (r := 266) dX11_nearest_1 sh_0 rfl inX11 (Nat.le_of_ble_eq_true rfl) lf_X11_63 rfl rfl ?_
  refine go_callV mX0_listen dX11_nearest_4 lm_X11_257 okX0_listen isX0_listen sh_266 rfl (As := []) (S := []) rfl rfl (Nat.le_of_ble_eq_true rfl) hF (k_v (fun m1 hF => ?_))
  refine go_aload_n dX11_nearest_7 rfl ?_
  refine go_getR (k := 0) (r := 1) dX11_nearest_8 sh_0 rfl inX11 (Nat.le_of_ble_eq_true rfl) lf_X11_10 rfl rfl ?_
  refine go_getR (k := 0) (r := 2) dX11_nearest_11 sh_1 rfl inX10 (Nat.le_of_ble_eq_true rfl) lf_X11_67 rfl rfl ?_
  refine go_astore_n (L' := [.ref (ga G 0), .ref (ga G 2), uu, uu, uu, uu]) dX11_nearest_14 (Nat.le_of_ble_eq_true rfl) rfl ?_
  refine go_bipush (v := 28) dX11_nearest_15 (by decide) ?_
  refine go_istore_n (L' := [.ref (ga G 0), .ref (ga G 2), .int 28, uu, uu, uu]) dX11_nearest_17 (Nat.le_of_ble_eq_true rfl) rfl ?_
  refine go_iconst (v := 0) dX11_nearest_18 (by decide) ?_
  refine go_istore_n (L' := [.ref (ga G 0), .ref (ga G 2), .int 28, .int 0, uu, uu]) dX11_nearest_19 (Nat.le_of_ble_eq_true rfl) rfl ?_
  refine go_iconst (v := 0) dX11_nearest_20 (by decide) ?_
  refine go_istore (L' := [.ref (ga G 0), .ref (ga G 2), .int 28, .int 0, .int 0, uu]) dX11_nearest_21 (Nat.le_of_ble_eq_true rfl) rfl ?_
  exact hF
theorem vX11_nearest_23 (G : GP) (d : Nat) (l2 : Int32) (l3 : Int32) (l4 : Int32) (u5 : Value) (m : Mem) (K : Int32 → Mem → Prop) (hF : (((m.1 2 4) ≤ l4) → K l3 m) ∧ ((¬ (m.1 2 4) ≤ l4) → Evi G (d + 1) mX2_edits [.ref (ga G 2), .int l4, .ref (ga G 267), .int 0, .int (m.1 266 2)] m (fun r3 m2 => ((l2 ≤ r3) → ((¬ r3 = l2) → ∀ x4 : Int32, x4 = l4 + 1 → Gw G (d + 2) mX11_nearest 23 [.ref (ga G 0), .ref (ga G 2), .int l2, .int l3, .int x4, .int r3] [] m2 (Qi K)) ∧ ((r3 = l2) → ∀ x5 : Int32, x5 = l3 ||| ((1 : Int32) <<< (l4 &&& 31)) → ∀ x6 : Int32, x6 = l4 + 1 → Gw G (d + 2) mX11_nearest 23 [.ref (ga G 0), .ref (ga G 2), .int l2, .int x5, .int x6, .int r3] [] m2 (Qi K))) ∧ ((¬ l2 ≤ r3) → ((¬ r3 = r3) → ∀ x7 : Int32, x7 = l4 + 1 → Gw G (d + 2) mX11_nearest 23 [.ref (ga G 0), .ref (ga G 2), .int r3, .int 0, .int x7, .int r3] [] m2 (Qi K)) ∧ ((r3 = r3) → ∀ x8 : Int32, x8 = (0 : Int32) ||| ((1 : Int32) <<< (l4 &&& 31)) → ∀ x9 : Int32, x9 = l4 + 1 → Gw G (d + 2) mX11_nearest 23 [.ref (ga G 0), .ref (ga G 2), .int r3, .int x8, .int x9, .int r3] [] m2 (Qi K)))))) : Gw G (d + 2) mX11_nearest 23 [.ref (ga G 0), .ref (ga G 2), .int l2, .int l3, .int l4, u5] [] m (Qi K) := by
  refine Gw.weak (L' := [.ref (ga G 0), .ref (ga G 2), .int l2, .int l3, .int l4, uu]) ⟨Or.inl rfl, Or.inl rfl, Or.inl rfl, Or.inl rfl, Or.inl rfl, Or.inr rfl, trivial⟩ ?_
  refine go_iload dX11_nearest_23 rfl ?_
  refine go_aload_n dX11_nearest_25 rfl ?_
  refine go_getI (k := 4) dX11_nearest_26 sh_2 rfl inX2 (Nat.le_of_ble_eq_true rfl) lf_X11_169 rfl ?_
  refine go_icmp_ge 85 dX11_nearest_29 rfl ⟨fun hc => ?_, fun hc => ?_⟩
  · have hF := hF.1 hc
    refine go_iload_n dX11_nearest_85 rfl ?_
    exact go_iret (S := []) dX11_nearest_86 rfl ⟨_, rfl, hF⟩
  · have hF := hF.2 hc
    refine go_aload_n dX11_nearest_32 rfl ?_
    refine go_iload dX11_nearest_33 rfl ?_
    refine go_aload_n dX11_nearest_35 rfl ?_
    refine go_getR (k := 7) (r := 266) dX11_nearest_36 sh_0 rfl inX11 (Nat.le_of_ble_eq_true rfl) lf_X11_63 rfl rfl ?_
    refine go_getR (k := 3) (r := 267) dX11_nearest_39 sh_266 rfl inX0 (Nat.le_of_ble_eq_true rfl) lf_X11_263 rfl rfl ?_
    refine go_iconst (v := 0) dX11_nearest_42 (by decide) ?_
    refine go_aload_n dX11_nearest_43 rfl ?_
    refine go_getR (k := 7) (r := 266) dX11_nearest_44 sh_0 rfl inX11 (Nat.le_of_ble_eq_true rfl) lf_X11_63 rfl rfl ?_
    refine go_getI (k := 2) dX11_nearest_47 sh_266 rfl inX0 (Nat.le_of_ble_eq_true rfl) lf_X11_260 rfl ?_
    refine go_callV mX2_edits dX11_nearest_50 lm_X11_302 okX2_edits isX2_edits sh_2 rfl (As := [.int l4, .ref (ga G 267), .int 0, .int (m.1 266 2)]) (S := []) rfl rfl (Nat.le_of_ble_eq_true rfl) hF (k_i (fun r3 m2 hF => ?_))
    refine go_istore (L' := [.ref (ga G 0), .ref (ga G 2), .int l2, .int l3, .int l4, .int r3]) dX11_nearest_53 (Nat.le_of_ble_eq_true rfl) rfl ?_
    refine go_iload dX11_nearest_55 rfl ?_
    refine go_iload_n dX11_nearest_57 rfl ?_
    refine go_icmp_ge 66 dX11_nearest_58 rfl ⟨fun hc => ?_, fun hc => ?_⟩
    · have hF := hF.1 hc
      refine go_iload dX11_nearest_66 rfl ?_
      refine go_iload_n dX11_nearest_68 rfl ?_
      refine go_icmp_ne 79 dX11_nearest_69 rfl ⟨fun hc => ?_, fun hc => ?_⟩
      · have hF := hF.1 hc
        obtain ⟨x4, ex4⟩ : ∃ z : Int32, z = l4 + 1 := ⟨_, rfl⟩
        have hF := hF x4 ex4
        refine go_iinc (v := x4) (L' := [.ref (ga G 0), .ref (ga G 2), .int l2, .int l3, .int x4, .int r3]) dX11_nearest_79 rfl (by rw [ex4]; rfl) (Nat.le_of_ble_eq_true rfl) rfl ?_
        refine go_goto 23 dX11_nearest_82 rfl ?_
        exact hF
      · have hF := hF.2 hc
        refine go_iload_n dX11_nearest_72 rfl ?_
        refine go_iconst (v := 1) dX11_nearest_73 (by decide) ?_
        refine go_iload dX11_nearest_74 rfl ?_
        refine go_ishl dX11_nearest_76 ?_
        refine go_ior dX11_nearest_77 ?_
        refine Gw.namei (fun x5 ex5 => ?_)
        have hF := hF x5 ex5
        refine go_istore_n (L' := [.ref (ga G 0), .ref (ga G 2), .int l2, .int x5, .int l4, .int r3]) dX11_nearest_78 (Nat.le_of_ble_eq_true rfl) rfl ?_
        obtain ⟨x6, ex6⟩ : ∃ z : Int32, z = l4 + 1 := ⟨_, rfl⟩
        have hF := hF x6 ex6
        refine go_iinc (v := x6) (L' := [.ref (ga G 0), .ref (ga G 2), .int l2, .int x5, .int x6, .int r3]) dX11_nearest_79 rfl (by rw [ex6]; rfl) (Nat.le_of_ble_eq_true rfl) rfl ?_
        refine go_goto 23 dX11_nearest_82 rfl ?_
        exact hF
    · have hF := hF.2 hc
      refine go_iload dX11_nearest_61 rfl ?_
      refine go_istore_n (L' := [.ref (ga G 0), .ref (ga G 2), .int r3, .int l3, .int l4, .int r3]) dX11_nearest_63 (Nat.le_of_ble_eq_true rfl) rfl ?_
      refine go_iconst (v := 0) dX11_nearest_64 (by decide) ?_
      refine go_istore_n (L' := [.ref (ga G 0), .ref (ga G 2), .int r3, .int 0, .int l4, .int r3]) dX11_nearest_65 (Nat.le_of_ble_eq_true rfl) rfl ?_
      refine go_iload dX11_nearest_66 rfl ?_
      refine go_iload_n dX11_nearest_68 rfl ?_
      refine go_icmp_ne 79 dX11_nearest_69 rfl ⟨fun hc => ?_, fun hc => ?_⟩
      · have hF := hF.1 hc
        obtain ⟨x7, ex7⟩ : ∃ z : Int32, z = l4 + 1 := ⟨_, rfl⟩
        have hF := hF x7 ex7
        refine go_iinc (v := x7) (L' := [.ref (ga G 0), .ref (ga G 2), .int r3, .int 0, .int x7, .int r3]) dX11_nearest_79 rfl (by rw [ex7]; rfl) (Nat.le_of_ble_eq_true rfl) rfl ?_
        refine go_goto 23 dX11_nearest_82 rfl ?_
        exact hF
      · have hF := hF.2 hc
        refine go_iload_n dX11_nearest_72 rfl ?_
        refine go_iconst (v := 1) dX11_nearest_73 (by decide) ?_
        refine go_iload dX11_nearest_74 rfl ?_
        refine go_ishl dX11_nearest_76 ?_
        refine go_ior dX11_nearest_77 ?_
        refine Gw.namei (fun x8 ex8 => ?_)
        have hF := hF x8 ex8
        refine go_istore_n (L' := [.ref (ga G 0), .ref (ga G 2), .int r3, .int x8, .int l4, .int r3]) dX11_nearest_78 (Nat.le_of_ble_eq_true rfl) rfl ?_
        obtain ⟨x9, ex9⟩ : ∃ z : Int32, z = l4 + 1 := ⟨_, rfl⟩
        have hF := hF x9 ex9
        refine go_iinc (v := x9) (L' := [.ref (ga G 0), .ref (ga G 2), .int r3, .int x8, .int x9, .int r3]) dX11_nearest_79 rfl (by rw [ex9]; rfl) (Nat.le_of_ble_eq_true rfl) rfl ?_
        refine go_goto 23 dX11_nearest_82 rfl ?_
        exact hF
theorem vX11_allGetOver (G : GP) (d : Nat) (a0 : Int32) (a1 : Int32) (m : Mem) (K : Int32 → Mem → Prop) (hF : Gw G (d + 4) mX11_allGetOver 11 [.ref (ga G 0), .int a0, .int a1, .ref (ga G 2), .int 0] [] m (Qi K)) : Evi G (d + 4) mX11_allGetOver [.ref (ga G 0), .int a0, .int a1] m K := by
  refine Ev.go [.ref (ga G 0), .int a0, .int a1, uu, uu] (by decide) (Nat.le_of_ble_eq_true rfl) rfl ?_
  refine go_aload_n dX11_allGetOver_0 rfl ?_
  refine go_getR (k := 0) (r := 1) dX11_allGetOver_1 sh_0 rfl inX11 (Nat.le_of_ble_eq_true rfl) lf_X11_10 rfl rfl ?_
  refine go_getR (k := 0) (r := 2) dX11_allGetOver_4 sh_1 rfl inX10 (Nat.le_of_ble_eq_true rfl) lf_X11_67 rfl rfl ?_
  refine go_astore_n (L' := [.ref (ga G 0), .int a0, .int a1, .ref (ga G 2), uu]) dX11_allGetOver_7 (Nat.le_of_ble_eq_true rfl) rfl ?_
  refine go_iconst (v := 0) dX11_allGetOver_8 (by decide) ?_
  refine go_istore (L' := [.ref (ga G 0), .int a0, .int a1, .ref (ga G 2), .int 0]) dX11_allGetOver_9 (Nat.le_of_ble_eq_true rfl) rfl ?_
  exact hF
theorem vX11_allGetOver_11 (G : GP) (d : Nat) (l1 : Int32) (l2 : Int32) (l4 : Int32) (m : Mem) (K : Int32 → Mem → Prop) (hF : vp_in l1 10 ∧ (((m.1 7 l1.toNatClampNeg) ≤ l4) → K 1 m) ∧ ((¬ (m.1 7 l1.toNatClampNeg) ≤ l4) → ((0 ≤ l1 ∧ l1 < m.1 2 4) ∧ (0 ≤ l4 ∧ l4 ≤ 3) → vp_in (l1 * 4 + l4) 40) ∧ Evi G (d + 3) mX1_getsOver [.ref (ga G 262), .int (strC m l1 l4), .int ((m.1 12 4) + l4), .int l2] m (fun r2 m1 => ((¬ r2 = 0) → ∀ x3 : Int32, x3 = l4 + 1 → Gw G (d + 4) mX11_allGetOver 11 [.ref (ga G 0), .int l1, .int l2, .ref (ga G 2), .int x3] [] m1 (Qi K)) ∧ ((r2 = 0) → K 0 m1)))) : Gw G (d + 4) mX11_allGetOver 11 [.ref (ga G 0), .int l1, .int l2, .ref (ga G 2), .int l4] [] m (Qi K) := by
  refine go_iload dX11_allGetOver_11 rfl ?_
  refine go_aload_n dX11_allGetOver_13 rfl ?_
  refine go_getR (k := 6) (r := 7) dX11_allGetOver_14 sh_2 rfl inX2 (Nat.le_of_ble_eq_true rfl) lf_X11_198 rfl rfl ?_
  refine go_iload_n dX11_allGetOver_17 rfl ?_
  obtain ⟨hi, hF⟩ := hF
  refine go_iald dX11_allGetOver_18 sh_7 hi ?_
  refine go_icmp_ge 61 dX11_allGetOver_19 rfl ⟨fun hc => ?_, fun hc => ?_⟩
  · have hF := hF.1 hc
    refine go_iconst (v := 1) dX11_allGetOver_61 (by decide) ?_
    exact go_zret (S := []) dX11_allGetOver_62 rfl (by decide) ⟨_, rfl, hF⟩
  · have hF := hF.2 hc
    refine go_aload_n dX11_allGetOver_22 rfl ?_
    refine go_getR (k := 6) (r := 262) dX11_allGetOver_23 sh_0 rfl inX11 (Nat.le_of_ble_eq_true rfl) lf_X11_54 rfl rfl ?_
    refine go_aload_n dX11_allGetOver_26 rfl ?_
    refine go_iload_n dX11_allGetOver_27 rfl ?_
    refine go_iload dX11_allGetOver_28 rfl ?_
    obtain ⟨ho, hF⟩ := hF
    refine go_callV mX2_strokeOf dX11_allGetOver_30 lm_X11_201 okX2_strokeOf isX2_strokeOf sh_2 rfl (As := [.int l1, .int l4]) (S := [.ref (ga G 262)]) rfl rfl (Nat.le_of_ble_eq_true rfl) (eX2_strokeOf G _ l1 l4 m (fun r m' => r = strC m l1 l4 ∧ m = m') ho ⟨rfl, rfl⟩) (k_i (fun r m' hr => ?_))
    obtain ⟨hr1, hr2⟩ := hr
    subst hr1
    subst hr2
    refine go_aload_n dX11_allGetOver_33 rfl ?_
    refine go_getR (k := 0) (r := 1) dX11_allGetOver_34 sh_0 rfl inX11 (Nat.le_of_ble_eq_true rfl) lf_X11_10 rfl rfl ?_
    refine go_getR (k := 1) (r := 12) dX11_allGetOver_37 sh_1 rfl inX10 (Nat.le_of_ble_eq_true rfl) lf_X11_134 rfl rfl ?_
    refine go_getI (k := 4) dX11_allGetOver_40 sh_12 rfl inX5 (Nat.le_of_ble_eq_true rfl) lf_X11_188 rfl ?_
    refine go_iload dX11_allGetOver_43 rfl ?_
    refine go_iadd dX11_allGetOver_45 ?_
    refine go_iload_n dX11_allGetOver_46 rfl ?_
    refine go_callV mX1_getsOver dX11_allGetOver_47 lm_X11_191 okX1_getsOver isX1_getsOver sh_262 rfl (As := [.int (strC m l1 l4), .int ((m.1 12 4) + l4), .int l2]) (S := []) rfl rfl (Nat.le_of_ble_eq_true rfl) hF (k_i (fun r2 m1 hF => ?_))
    refine go_if_ne 55 dX11_allGetOver_50 rfl ⟨fun hc => ?_, fun hc => ?_⟩
    · have hF := hF.1 hc
      obtain ⟨x3, ex3⟩ : ∃ z : Int32, z = l4 + 1 := ⟨_, rfl⟩
      have hF := hF x3 ex3
      refine go_iinc (v := x3) (L' := [.ref (ga G 0), .int l1, .int l2, .ref (ga G 2), .int x3]) dX11_allGetOver_55 rfl (by rw [ex3]; rfl) (Nat.le_of_ble_eq_true rfl) rfl ?_
      refine go_goto 11 dX11_allGetOver_58 rfl ?_
      exact hF
    · have hF := hF.2 hc
      refine go_iconst (v := 0) dX11_allGetOver_53 (by decide) ?_
      exact go_zret (S := []) dX11_allGetOver_54 rfl (by decide) ⟨_, rfl, hF⟩
theorem vX11_hears (G : GP) (d : Nat) (a0 : Int32) (a1 : Int32) (m : Mem) (K : Int32 → Mem → Prop) (hF : ((0 ≤ a0 ∧ a0 < m.1 2 4) → ((0 ≤ a1 ∧ a1 < m.1 2 4) → vp_in a0 10 ∧ ∀ m1 : Mem, m1 = wI m 109 a0.toNatClampNeg a1 → K 1 m1) ∧ (¬ (0 ≤ a1 ∧ a1 < m.1 2 4) → K 0 m)) ∧ (¬ (0 ≤ a0 ∧ a0 < m.1 2 4) → K 0 m)) : Evi G (d + 1) mX11_hears [.ref (ga G 0), .int a0, .int a1] m K := by
  refine Ev.go [.ref (ga G 0), .int a0, .int a1] (by decide) (Nat.le_of_ble_eq_true rfl) rfl ?_
  refine go_aload_n dX11_hears_0 rfl ?_
  refine go_getR (k := 0) (r := 1) dX11_hears_1 sh_0 rfl inX11 (Nat.le_of_ble_eq_true rfl) lf_X11_10 rfl rfl ?_
  refine go_getR (k := 0) (r := 2) dX11_hears_4 sh_1 rfl inX10 (Nat.le_of_ble_eq_true rfl) lf_X11_67 rfl rfl ?_
  refine go_iload_n dX11_hears_7 rfl ?_
  rcases Classical.em (0 ≤ a0 ∧ a0 < m.1 2 4) with hp | hp
  · have hF := hF.1 hp
    refine go_callV mX2_hasWord dX11_hears_8 lm_X11_242 okX2_hasWord isX2_hasWord sh_2 rfl (As := [.int a0]) (S := []) rfl rfl (Nat.le_of_ble_eq_true rfl) (eX2_hasWord G _ a0 m (fun r m' => r = 1 ∧ m = m') ⟨fun _ => ⟨rfl, rfl⟩, fun q => absurd hp q⟩) (k_i (fun r m' hr => ?_))
    obtain ⟨hr1, hr2⟩ := hr
    subst hr1
    subst hr2
    refine go_if_eq 28 dX11_hears_11 rfl ⟨fun hc => absurd hc (by decide), fun _ => ?_⟩
    refine go_aload_n dX11_hears_14 rfl ?_
    refine go_getR (k := 0) (r := 1) dX11_hears_15 sh_0 rfl inX11 (Nat.le_of_ble_eq_true rfl) lf_X11_10 rfl rfl ?_
    refine go_getR (k := 0) (r := 2) dX11_hears_18 sh_1 rfl inX10 (Nat.le_of_ble_eq_true rfl) lf_X11_67 rfl rfl ?_
    refine go_iload_n dX11_hears_21 rfl ?_
    rcases Classical.em (0 ≤ a1 ∧ a1 < m.1 2 4) with hp | hp
    · have hF := hF.1 hp
      refine go_callV mX2_hasWord dX11_hears_22 lm_X11_242 okX2_hasWord isX2_hasWord sh_2 rfl (As := [.int a1]) (S := []) rfl rfl (Nat.le_of_ble_eq_true rfl) (eX2_hasWord G _ a1 m (fun r m' => r = 1 ∧ m = m') ⟨fun _ => ⟨rfl, rfl⟩, fun q => absurd hp q⟩) (k_i (fun r m' hr => ?_))
      obtain ⟨hr1, hr2⟩ := hr
      subst hr1
      subst hr2
      refine go_if_ne 30 dX11_hears_25 rfl ⟨fun _ => ?_, fun hc => absurd hc (by decide)⟩
      refine go_aload_n dX11_hears_30 rfl ?_
      refine go_getR (k := 0) (r := 1) dX11_hears_31 sh_0 rfl inX11 (Nat.le_of_ble_eq_true rfl) lf_X11_10 rfl rfl ?_
      refine go_getR (k := 3) (r := 107) dX11_hears_34 sh_1 rfl inX10 (Nat.le_of_ble_eq_true rfl) lf_X11_274 rfl rfl ?_
      refine go_getR (k := 1) (r := 109) dX11_hears_37 sh_107 rfl inX9 (Nat.le_of_ble_eq_true rfl) lf_X11_306 rfl rfl ?_
      refine go_iload_n dX11_hears_40 rfl ?_
      refine go_iload_n dX11_hears_41 rfl ?_
      obtain ⟨hi, hF⟩ := hF
      refine go_iast dX11_hears_42 sh_109 hi ?_
      obtain ⟨m1, em1⟩ : ∃ z : Mem, z = wI m 109 a0.toNatClampNeg a1 := ⟨_, rfl⟩
      rw [← em1]
      have hF := hF m1 em1
      refine go_iconst (v := 1) dX11_hears_43 (by decide) ?_
      exact go_zret (S := []) dX11_hears_44 rfl (by decide) ⟨_, rfl, hF⟩
    · have hF := hF.2 hp
      refine go_callV mX2_hasWord dX11_hears_22 lm_X11_242 okX2_hasWord isX2_hasWord sh_2 rfl (As := [.int a1]) (S := []) rfl rfl (Nat.le_of_ble_eq_true rfl) (eX2_hasWord G _ a1 m (fun r m' => r = 0 ∧ m = m') ⟨fun q => absurd q hp, fun _ => ⟨rfl, rfl⟩⟩) (k_i (fun r m' hr => ?_))
      obtain ⟨hr1, hr2⟩ := hr
      subst hr1
      subst hr2
      refine go_if_ne 30 dX11_hears_25 rfl ⟨fun hc => absurd hc (by decide), fun _ => ?_⟩
      refine go_iconst (v := 0) dX11_hears_28 (by decide) ?_
      exact go_zret (S := []) dX11_hears_29 rfl (by decide) ⟨_, rfl, hF⟩
  · have hF := hF.2 hp
    refine go_callV mX2_hasWord dX11_hears_8 lm_X11_242 okX2_hasWord isX2_hasWord sh_2 rfl (As := [.int a0]) (S := []) rfl rfl (Nat.le_of_ble_eq_true rfl) (eX2_hasWord G _ a0 m (fun r m' => r = 0 ∧ m = m') ⟨fun q => absurd q hp, fun _ => ⟨rfl, rfl⟩⟩) (k_i (fun r m' hr => ?_))
    obtain ⟨hr1, hr2⟩ := hr
    subst hr1
    subst hr2
    refine go_if_eq 28 dX11_hears_11 rfl ⟨fun _ => ?_, fun hc => absurd hc (by decide)⟩
    refine go_iconst (v := 0) dX11_hears_28 (by decide) ?_
    exact go_zret (S := []) dX11_hears_29 rfl (by decide) ⟨_, rfl, hF⟩
theorem vX11_settles (G : GP) (d : Nat) (a0 : Int32) (a1 : Int32) (m : Mem) (K : Int32 → Mem → Prop) (hF : ((0 ≤ a0 ∧ a0 < m.1 2 4) → (a1 = 0 → Evi G (d + 1) mX9_allFrom [.ref (ga G 107), .int a0] m (fun r2 m1 => K (bitC r2) m1)) ∧ (a1 = 1 → Evi G (d + 1) mX11_roundOf [.ref (ga G 0), .int a0] m (fun r4 m3 => K (bitC r4) m3)) ∧ (a1 = 2 → Evi G (d + 1) mX11_roundOf [.ref (ga G 0), .int a0] m (fun r6 m5 => K (bitC ((r6 &&& (-r6)) - 1)) m5)) ∧ (¬ a1 = 0 ∧ ¬ a1 = 1 ∧ ¬ a1 = 2 → K (-1) m)) ∧ (¬ (0 ≤ a0 ∧ a0 < m.1 2 4) → K (-1) m)) : Evi G (d + 2) mX11_settles [.ref (ga G 0), .int a0, .int a1] m K := by
  refine Ev.go [.ref (ga G 0), .int a0, .int a1] (by decide) (Nat.le_of_ble_eq_true rfl) rfl ?_
  refine go_aload_n dX11_settles_0 rfl ?_
  refine go_getR (k := 0) (r := 1) dX11_settles_1 sh_0 rfl inX11 (Nat.le_of_ble_eq_true rfl) lf_X11_10 rfl rfl ?_
  refine go_getR (k := 0) (r := 2) dX11_settles_4 sh_1 rfl inX10 (Nat.le_of_ble_eq_true rfl) lf_X11_67 rfl rfl ?_
  refine go_iload_n dX11_settles_7 rfl ?_
  rcases Classical.em (0 ≤ a0 ∧ a0 < m.1 2 4) with hp | hp
  · have hF := hF.1 hp
    refine go_callV mX2_hasWord dX11_settles_8 lm_X11_242 okX2_hasWord isX2_hasWord sh_2 rfl (As := [.int a0]) (S := []) rfl rfl (Nat.le_of_ble_eq_true rfl) (eX2_hasWord G _ a0 m (fun r m' => r = 1 ∧ m = m') ⟨fun _ => ⟨rfl, rfl⟩, fun q => absurd hp q⟩) (k_i (fun r m' hr => ?_))
    obtain ⟨hr1, hr2⟩ := hr
    subst hr1
    subst hr2
    refine go_if_ne 16 dX11_settles_11 rfl ⟨fun _ => ?_, fun hc => absurd hc (by decide)⟩
    refine go_iload_n dX11_settles_16 rfl ?_
    rcases Decidable.em (a1 = 0) with hc0 | hc0
    · have hF := hF.1 hc0
      refine go_tabIn (off := 27) 44 dX11_settles_17 (by rw [hc0]; decide) (by rw [hc0]; decide) (by rw [hc0]; rfl) rfl ?_
      refine go_aload_n dX11_settles_44 rfl ?_
      refine go_getR (k := 0) (r := 1) dX11_settles_45 sh_0 rfl inX11 (Nat.le_of_ble_eq_true rfl) lf_X11_10 rfl rfl ?_
      refine go_getR (k := 3) (r := 107) dX11_settles_48 sh_1 rfl inX10 (Nat.le_of_ble_eq_true rfl) lf_X11_274 rfl rfl ?_
      refine go_iload_n dX11_settles_51 rfl ?_
      refine go_callV mX9_allFrom dX11_settles_52 lm_X11_309 okX9_allFrom isX9_allFrom sh_107 rfl (As := [.int a0]) (S := []) rfl rfl (Nat.le_of_ble_eq_true rfl) hF (k_i (fun r2 m1 hF => ?_))
      refine go_callS mJ6_bitCount_0f7a4 dX11_settles_55 lm_X11_312 okJ6_bitCount_0f7a4 isJ6_bitCount_0f7a4 (As := [.int r2]) (S := []) rfl rfl (Nat.le_of_ble_eq_true rfl) (eJ6_bitCount_0f7a4 G _ r2 m1 (fun r m' => r = bitC r2 ∧ m1 = m') ⟨rfl, rfl⟩) (k_i (fun r m' hr => ?_))
      obtain ⟨hr1, hr2⟩ := hr
      subst hr1
      subst hr2
      exact go_iret (S := []) dX11_settles_58 rfl ⟨_, rfl, hF⟩
    rcases Decidable.em (a1 = 1) with hc1 | hc1
    · have hF := hF.2.1 hc1
      refine go_tabIn (off := 42) 59 dX11_settles_17 (by rw [hc1]; decide) (by rw [hc1]; decide) (by rw [hc1]; rfl) rfl ?_
      refine go_aload_n dX11_settles_59 rfl ?_
      refine go_iload_n dX11_settles_60 rfl ?_
      refine go_callV mX11_roundOf dX11_settles_61 lm_X11_317 okX11_roundOf isX11_roundOf sh_0 rfl (As := [.int a0]) (S := []) rfl rfl (Nat.le_of_ble_eq_true rfl) hF (k_i (fun r4 m3 hF => ?_))
      refine go_callS mJ6_bitCount_0f7a4 dX11_settles_64 lm_X11_312 okJ6_bitCount_0f7a4 isJ6_bitCount_0f7a4 (As := [.int r4]) (S := []) rfl rfl (Nat.le_of_ble_eq_true rfl) (eJ6_bitCount_0f7a4 G _ r4 m3 (fun r m' => r = bitC r4 ∧ m3 = m') ⟨rfl, rfl⟩) (k_i (fun r m' hr => ?_))
      obtain ⟨hr1, hr2⟩ := hr
      subst hr1
      subst hr2
      exact go_iret (S := []) dX11_settles_67 rfl ⟨_, rfl, hF⟩
    rcases Decidable.em (a1 = 2) with hc2 | hc2
    · have hF := hF.2.2.1 hc2
      refine go_tabIn (off := 51) 68 dX11_settles_17 (by rw [hc2]; decide) (by rw [hc2]; decide) (by rw [hc2]; rfl) rfl ?_
      refine go_aload_n dX11_settles_68 rfl ?_
      refine go_iload_n dX11_settles_69 rfl ?_
      refine go_callV mX11_roundOf dX11_settles_70 lm_X11_317 okX11_roundOf isX11_roundOf sh_0 rfl (As := [.int a0]) (S := []) rfl rfl (Nat.le_of_ble_eq_true rfl) hF (k_i (fun r6 m5 hF => ?_))
      refine go_callS mX11_lowestOf dX11_settles_73 lm_X11_320 okX11_lowestOf isX11_lowestOf (As := [.int r6]) (S := []) rfl rfl (Nat.le_of_ble_eq_true rfl) (eX11_lowestOf G _ r6 m5 (fun r m' => r = bitC ((r6 &&& (-r6)) - 1) ∧ m5 = m') ⟨rfl, rfl⟩) (k_i (fun r m' hr => ?_))
      obtain ⟨hr1, hr2⟩ := hr
      subst hr1
      subst hr2
      exact go_iret (S := []) dX11_settles_76 rfl ⟨_, rfl, hF⟩
    have hF := hF.2.2.2 ⟨hc0, hc1, hc2⟩
    refine go_tabOut 77 dX11_settles_17 (tab_out [0, 1, 2] 0 2 a1 (by decide) (by simp only [List.forall_mem_cons, List.not_mem_nil, false_implies, implies_true, and_true]; exact ⟨hc0, hc1, hc2⟩)) rfl ?_
    refine go_iconst (v := -1) dX11_settles_77 (by decide) ?_
    exact go_iret (S := []) dX11_settles_78 rfl ⟨_, rfl, hF⟩
  · have hF := hF.2 hp
    refine go_callV mX2_hasWord dX11_settles_8 lm_X11_242 okX2_hasWord isX2_hasWord sh_2 rfl (As := [.int a0]) (S := []) rfl rfl (Nat.le_of_ble_eq_true rfl) (eX2_hasWord G _ a0 m (fun r m' => r = 0 ∧ m = m') ⟨fun q => absurd q hp, fun _ => ⟨rfl, rfl⟩⟩) (k_i (fun r m' hr => ?_))
    obtain ⟨hr1, hr2⟩ := hr
    subst hr1
    subst hr2
    refine go_if_ne 16 dX11_settles_11 rfl ⟨fun hc => absurd hc (by decide), fun _ => ?_⟩
    refine go_iconst (v := -1) dX11_settles_14 (by decide) ?_
    exact go_iret (S := []) dX11_settles_15 rfl ⟨_, rfl, hF⟩
theorem vX11_line (G : GP) (d : Nat) (a0 : Int32) (a1 : Int32) (m : Mem) (K : Int32 → Mem → Prop) (hF : ((¬ a0 = (-1)) → ((0 ≤ a0 ∧ a0 < m.1 2 4) → ((0 ≤ a1 ∧ a1 < m.1 2 4) → Evi G (d) mX9_addLine [.ref (ga G 107), .int a0, .int a1] m (fun r2 m1 => K r2 m1)) ∧ (¬ (0 ≤ a1 ∧ a1 < m.1 2 4) → K (-2) m)) ∧ (¬ (0 ≤ a0 ∧ a0 < m.1 2 4) → K (-2) m)) ∧ ((a0 = (-1)) → ∀ m3 : Mem, m3 = wI m 107 2 0 → K 0 m3)) : Evi G (d + 1) mX11_line [.ref (ga G 0), .int a0, .int a1] m K := by
  refine Ev.go [.ref (ga G 0), .int a0, .int a1] (by decide) (Nat.le_of_ble_eq_true rfl) rfl ?_
  refine go_iload_n dX11_line_0 rfl ?_
  refine go_iconst (v := -1) dX11_line_1 (by decide) ?_
  refine go_icmp_ne 18 dX11_line_2 rfl ⟨fun hc => ?_, fun hc => ?_⟩
  · have hF := hF.1 hc
    refine go_aload_n dX11_line_18 rfl ?_
    refine go_getR (k := 0) (r := 1) dX11_line_19 sh_0 rfl inX11 (Nat.le_of_ble_eq_true rfl) lf_X11_10 rfl rfl ?_
    refine go_getR (k := 0) (r := 2) dX11_line_22 sh_1 rfl inX10 (Nat.le_of_ble_eq_true rfl) lf_X11_67 rfl rfl ?_
    refine go_iload_n dX11_line_25 rfl ?_
    rcases Classical.em (0 ≤ a0 ∧ a0 < m.1 2 4) with hp | hp
    · have hF := hF.1 hp
      refine go_callV mX2_hasWord dX11_line_26 lm_X11_242 okX2_hasWord isX2_hasWord sh_2 rfl (As := [.int a0]) (S := []) rfl rfl (Nat.le_of_ble_eq_true rfl) (eX2_hasWord G _ a0 m (fun r m' => r = 1 ∧ m = m') ⟨fun _ => ⟨rfl, rfl⟩, fun q => absurd hp q⟩) (k_i (fun r m' hr => ?_))
      obtain ⟨hr1, hr2⟩ := hr
      subst hr1
      subst hr2
      refine go_if_eq 46 dX11_line_29 rfl ⟨fun hc => absurd hc (by decide), fun _ => ?_⟩
      refine go_aload_n dX11_line_32 rfl ?_
      refine go_getR (k := 0) (r := 1) dX11_line_33 sh_0 rfl inX11 (Nat.le_of_ble_eq_true rfl) lf_X11_10 rfl rfl ?_
      refine go_getR (k := 0) (r := 2) dX11_line_36 sh_1 rfl inX10 (Nat.le_of_ble_eq_true rfl) lf_X11_67 rfl rfl ?_
      refine go_iload_n dX11_line_39 rfl ?_
      rcases Classical.em (0 ≤ a1 ∧ a1 < m.1 2 4) with hp | hp
      · have hF := hF.1 hp
        refine go_callV mX2_hasWord dX11_line_40 lm_X11_242 okX2_hasWord isX2_hasWord sh_2 rfl (As := [.int a1]) (S := []) rfl rfl (Nat.le_of_ble_eq_true rfl) (eX2_hasWord G _ a1 m (fun r m' => r = 1 ∧ m = m') ⟨fun _ => ⟨rfl, rfl⟩, fun q => absurd hp q⟩) (k_i (fun r m' hr => ?_))
        obtain ⟨hr1, hr2⟩ := hr
        subst hr1
        subst hr2
        refine go_if_ne 49 dX11_line_43 rfl ⟨fun _ => ?_, fun hc => absurd hc (by decide)⟩
        refine go_aload_n dX11_line_49 rfl ?_
        refine go_getR (k := 0) (r := 1) dX11_line_50 sh_0 rfl inX11 (Nat.le_of_ble_eq_true rfl) lf_X11_10 rfl rfl ?_
        refine go_getR (k := 3) (r := 107) dX11_line_53 sh_1 rfl inX10 (Nat.le_of_ble_eq_true rfl) lf_X11_274 rfl rfl ?_
        refine go_iload_n dX11_line_56 rfl ?_
        refine go_iload_n dX11_line_57 rfl ?_
        refine go_callV mX9_addLine dX11_line_58 lm_X11_326 okX9_addLine isX9_addLine sh_107 rfl (As := [.int a0, .int a1]) (S := []) rfl rfl (Nat.le_of_ble_eq_true rfl) hF (k_i (fun r2 m1 hF => ?_))
        exact go_iret (S := []) dX11_line_61 rfl ⟨_, rfl, hF⟩
      · have hF := hF.2 hp
        refine go_callV mX2_hasWord dX11_line_40 lm_X11_242 okX2_hasWord isX2_hasWord sh_2 rfl (As := [.int a1]) (S := []) rfl rfl (Nat.le_of_ble_eq_true rfl) (eX2_hasWord G _ a1 m (fun r m' => r = 0 ∧ m = m') ⟨fun q => absurd q hp, fun _ => ⟨rfl, rfl⟩⟩) (k_i (fun r m' hr => ?_))
        obtain ⟨hr1, hr2⟩ := hr
        subst hr1
        subst hr2
        refine go_if_ne 49 dX11_line_43 rfl ⟨fun hc => absurd hc (by decide), fun _ => ?_⟩
        refine go_bipush (v := -2) dX11_line_46 (by decide) ?_
        exact go_iret (S := []) dX11_line_48 rfl ⟨_, rfl, hF⟩
    · have hF := hF.2 hp
      refine go_callV mX2_hasWord dX11_line_26 lm_X11_242 okX2_hasWord isX2_hasWord sh_2 rfl (As := [.int a0]) (S := []) rfl rfl (Nat.le_of_ble_eq_true rfl) (eX2_hasWord G _ a0 m (fun r m' => r = 0 ∧ m = m') ⟨fun q => absurd q hp, fun _ => ⟨rfl, rfl⟩⟩) (k_i (fun r m' hr => ?_))
      obtain ⟨hr1, hr2⟩ := hr
      subst hr1
      subst hr2
      refine go_if_eq 46 dX11_line_29 rfl ⟨fun _ => ?_, fun hc => absurd hc (by decide)⟩
      refine go_bipush (v := -2) dX11_line_46 (by decide) ?_
      exact go_iret (S := []) dX11_line_48 rfl ⟨_, rfl, hF⟩
  · have hF := hF.2 hc
    refine go_aload_n dX11_line_5 rfl ?_
    refine go_getR (k := 0) (r := 1) dX11_line_6 sh_0 rfl inX11 (Nat.le_of_ble_eq_true rfl) lf_X11_10 rfl rfl ?_
    refine go_getR (k := 3) (r := 107) dX11_line_9 sh_1 rfl inX10 (Nat.le_of_ble_eq_true rfl) lf_X11_274 rfl rfl ?_
    refine go_iconst (v := 0) dX11_line_12 (by decide) ?_
    refine go_putI (k := 2) dX11_line_13 sh_107 rfl inX9 (Nat.le_of_ble_eq_true rfl) lf_X11_323 tyX9 tyX9_ok nmX9 rfl rfl (by decide +kernel) ?_
    obtain ⟨m3, em3⟩ : ∃ z : Mem, z = wI m 107 2 0 := ⟨_, rfl⟩
    rw [← em3]
    have hF := hF m3 em3
    refine go_iconst (v := 0) dX11_line_16 (by decide) ?_
    exact go_iret (S := []) dX11_line_17 rfl ⟨_, rfl, hF⟩
theorem vX11_whose (G : GP) (d : Nat)  (m : Mem) (K : Int32 → Mem → Prop) (hF : Gw G (d + 5) mX11_whose 4 [.ref (ga G 0), .int 0, .int 0] [] m (Qi K)) : Evi G (d + 5) mX11_whose [.ref (ga G 0)] m K := by
  refine Ev.go [.ref (ga G 0), uu, uu] (by decide) (Nat.le_of_ble_eq_true rfl) rfl ?_
  refine go_iconst (v := 0) dX11_whose_0 (by decide) ?_
  refine go_istore_n (L' := [.ref (ga G 0), .int 0, uu]) dX11_whose_1 (Nat.le_of_ble_eq_true rfl) rfl ?_
  refine go_iconst (v := 0) dX11_whose_2 (by decide) ?_
  refine go_istore_n (L' := [.ref (ga G 0), .int 0, .int 0]) dX11_whose_3 (Nat.le_of_ble_eq_true rfl) rfl ?_
  exact hF
theorem vX11_whose_4 (G : GP) (d : Nat) (l1 : Int32) (l2 : Int32) (m : Mem) (K : Int32 → Mem → Prop) (hF : (((m.1 1 5) ≤ l2) → K l1 m) ∧ ((¬ (m.1 1 5) ≤ l2) → vp_in l2 4 ∧ ∀ t1 : Nat, t1 = 238 + 6 * l2.toNatClampNeg → Evi G (d + 4) mX11_allLinesRight [.ref (ga G 0), .ref (ga G t1)] m (fun r3 m2 => ((r3 = 0) → ∀ x4 : Int32, x4 = l2 + 1 → Gw G (d + 5) mX11_whose 4 [.ref (ga G 0), .int l1, .int x4] [] m2 (Qi K)) ∧ ((¬ r3 = 0) → ∀ x5 : Int32, x5 = l1 ||| ((1 : Int32) <<< (l2 &&& 31)) → ∀ x6 : Int32, x6 = l2 + 1 → Gw G (d + 5) mX11_whose 4 [.ref (ga G 0), .int x5, .int x6] [] m2 (Qi K))))) : Gw G (d + 5) mX11_whose 4 [.ref (ga G 0), .int l1, .int l2] [] m (Qi K) := by
  refine go_iload_n dX11_whose_4 rfl ?_
  refine go_aload_n dX11_whose_5 rfl ?_
  refine go_getR (k := 0) (r := 1) dX11_whose_6 sh_0 rfl inX11 (Nat.le_of_ble_eq_true rfl) lf_X11_10 rfl rfl ?_
  refine go_getI (k := 5) dX11_whose_9 sh_1 rfl inX10 (Nat.le_of_ble_eq_true rfl) lf_X11_96 rfl ?_
  refine go_icmp_ge 40 dX11_whose_12 rfl ⟨fun hc => ?_, fun hc => ?_⟩
  · have hF := hF.1 hc
    refine go_iload_n dX11_whose_40 rfl ?_
    exact go_iret (S := []) dX11_whose_41 rfl ⟨_, rfl, hF⟩
  · have hF := hF.2 hc
    refine go_aload_n dX11_whose_15 rfl ?_
    refine go_aload_n dX11_whose_16 rfl ?_
    refine go_getR (k := 2) (r := 227) dX11_whose_17 sh_0 rfl inX11 (Nat.le_of_ble_eq_true rfl) lf_X11_21 rfl rfl ?_
    refine go_iload_n dX11_whose_20 rfl ?_
    obtain ⟨hi, hF⟩ := hF
    obtain ⟨t1, et1⟩ : ∃ z : Nat, z = 238 + 6 * l2.toNatClampNeg := ⟨_, rfl⟩
    have hF := hF t1 et1
    obtain ⟨gt1, ht1⟩ := tx_get hi et1
    refine go_aaldT dX11_whose_21 sh_227 hi gt1 ?_
    refine go_callV mX11_allLinesRight dX11_whose_22 lm_X11_329 okX11_allLinesRight isX11_allLinesRight sh_0 rfl (As := [.ref (ga G t1)]) (S := []) rfl rfl (Nat.le_of_ble_eq_true rfl) hF (k_i (fun r3 m2 hF => ?_))
    refine go_if_eq 34 dX11_whose_25 rfl ⟨fun hc => ?_, fun hc => ?_⟩
    · have hF := hF.1 hc
      obtain ⟨x4, ex4⟩ : ∃ z : Int32, z = l2 + 1 := ⟨_, rfl⟩
      have hF := hF x4 ex4
      refine go_iinc (v := x4) (L' := [.ref (ga G 0), .int l1, .int x4]) dX11_whose_34 rfl (by rw [ex4]; rfl) (Nat.le_of_ble_eq_true rfl) rfl ?_
      refine go_goto 4 dX11_whose_37 rfl ?_
      exact hF
    · have hF := hF.2 hc
      refine go_iload_n dX11_whose_28 rfl ?_
      refine go_iconst (v := 1) dX11_whose_29 (by decide) ?_
      refine go_iload_n dX11_whose_30 rfl ?_
      refine go_ishl dX11_whose_31 ?_
      refine go_ior dX11_whose_32 ?_
      refine Gw.namei (fun x5 ex5 => ?_)
      have hF := hF x5 ex5
      refine go_istore_n (L' := [.ref (ga G 0), .int x5, .int l2]) dX11_whose_33 (Nat.le_of_ble_eq_true rfl) rfl ?_
      obtain ⟨x6, ex6⟩ : ∃ z : Int32, z = l2 + 1 := ⟨_, rfl⟩
      have hF := hF x6 ex6
      refine go_iinc (v := x6) (L' := [.ref (ga G 0), .int x5, .int x6]) dX11_whose_34 rfl (by rw [ex6]; rfl) (Nat.le_of_ble_eq_true rfl) rfl ?_
      refine go_goto 4 dX11_whose_37 rfl ?_
      exact hF
theorem vX11_pairs (G : GP) (d : Nat)  (m : Mem) (K : Int32 → Mem → Prop) (hF : Gw G (d) mX11_pairs 12 [.ref (ga G 0), .ref (ga G 107), .int 0, .int 0, uu, uu] [] m (Qi K)) : Evi G (d) mX11_pairs [.ref (ga G 0)] m K := by
  refine Ev.go [.ref (ga G 0), uu, uu, uu, uu, uu] (by decide) (Nat.le_of_ble_eq_true rfl) rfl ?_
  refine go_aload_n dX11_pairs_0 rfl ?_
  refine go_getR (k := 0) (r := 1) dX11_pairs_1 sh_0 rfl inX11 (Nat.le_of_ble_eq_true rfl) lf_X11_10 rfl rfl ?_
  refine go_getR (k := 3) (r := 107) dX11_pairs_4 sh_1 rfl inX10 (Nat.le_of_ble_eq_true rfl) lf_X11_274 rfl rfl ?_
  refine go_astore_n (L' := [.ref (ga G 0), .ref (ga G 107), uu, uu, uu, uu]) dX11_pairs_7 (Nat.le_of_ble_eq_true rfl) rfl ?_
  refine go_iconst (v := 0) dX11_pairs_8 (by decide) ?_
  refine go_istore_n (L' := [.ref (ga G 0), .ref (ga G 107), .int 0, uu, uu, uu]) dX11_pairs_9 (Nat.le_of_ble_eq_true rfl) rfl ?_
  refine go_iconst (v := 0) dX11_pairs_10 (by decide) ?_
  refine go_istore_n (L' := [.ref (ga G 0), .ref (ga G 107), .int 0, .int 0, uu, uu]) dX11_pairs_11 (Nat.le_of_ble_eq_true rfl) rfl ?_
  exact hF
theorem vX11_pairs_12 (G : GP) (d : Nat) (l2 : Int32) (l3 : Int32) (u4 : Value) (u5 : Value) (m : Mem) (K : Int32 → Mem → Prop) (hF : (((m.1 107 2) ≤ l3) → K l2 m) ∧ ((¬ (m.1 107 2) ≤ l3) → vp_in l3 8 ∧ vp_in (m.1 110 l3.toNatClampNeg) 10 ∧ ∀ x1 : Int32, x1 = m.1 8 (m.1 110 l3.toNatClampNeg).toNatClampNeg → vp_in l3 8 ∧ vp_in (m.1 111 l3.toNatClampNeg) 10 ∧ ∀ x2 : Int32, x2 = m.1 8 (m.1 111 l3.toNatClampNeg).toNatClampNeg → ∀ x3 : Int32, x3 = l2 ||| ((1 : Int32) <<< ((((4 : Int32) * x1) + x2) &&& 31)) → ∀ x4 : Int32, x4 = l3 + 1 → Gw G (d) mX11_pairs 12 [.ref (ga G 0), .ref (ga G 107), .int x3, .int x4, .int x1, .int x2] [] m (Qi K))) : Gw G (d) mX11_pairs 12 [.ref (ga G 0), .ref (ga G 107), .int l2, .int l3, u4, u5] [] m (Qi K) := by
  refine Gw.weak (L' := [.ref (ga G 0), .ref (ga G 107), .int l2, .int l3, uu, uu]) ⟨Or.inl rfl, Or.inl rfl, Or.inl rfl, Or.inl rfl, Or.inr rfl, Or.inr rfl, trivial⟩ ?_
  refine go_iload_n dX11_pairs_12 rfl ?_
  refine go_aload_n dX11_pairs_13 rfl ?_
  refine go_getI (k := 2) dX11_pairs_14 sh_107 rfl inX9 (Nat.le_of_ble_eq_true rfl) lf_X11_323 rfl ?_
  refine go_icmp_ge 76 dX11_pairs_17 rfl ⟨fun hc => ?_, fun hc => ?_⟩
  · have hF := hF.1 hc
    refine go_iload_n dX11_pairs_76 rfl ?_
    exact go_iret (S := []) dX11_pairs_77 rfl ⟨_, rfl, hF⟩
  · have hF := hF.2 hc
    refine go_aload_n dX11_pairs_20 rfl ?_
    refine go_getR (k := 0) (r := 1) dX11_pairs_21 sh_0 rfl inX11 (Nat.le_of_ble_eq_true rfl) lf_X11_10 rfl rfl ?_
    refine go_getR (k := 0) (r := 2) dX11_pairs_24 sh_1 rfl inX10 (Nat.le_of_ble_eq_true rfl) lf_X11_67 rfl rfl ?_
    refine go_getR (k := 7) (r := 8) dX11_pairs_27 sh_2 rfl inX2 (Nat.le_of_ble_eq_true rfl) lf_X11_245 rfl rfl ?_
    refine go_aload_n dX11_pairs_30 rfl ?_
    refine go_getR (k := 3) (r := 110) dX11_pairs_31 sh_107 rfl inX9 (Nat.le_of_ble_eq_true rfl) lf_X11_332 rfl rfl ?_
    refine go_iload_n dX11_pairs_34 rfl ?_
    obtain ⟨hi, hF⟩ := hF
    refine go_iald dX11_pairs_35 sh_110 hi ?_
    obtain ⟨hi, hF⟩ := hF
    refine go_iald dX11_pairs_36 sh_8 hi ?_
    refine Gw.namei (fun x1 ex1 => ?_)
    have hF := hF x1 ex1
    refine go_istore (L' := [.ref (ga G 0), .ref (ga G 107), .int l2, .int l3, .int x1, uu]) dX11_pairs_37 (Nat.le_of_ble_eq_true rfl) rfl ?_
    refine go_aload_n dX11_pairs_39 rfl ?_
    refine go_getR (k := 0) (r := 1) dX11_pairs_40 sh_0 rfl inX11 (Nat.le_of_ble_eq_true rfl) lf_X11_10 rfl rfl ?_
    refine go_getR (k := 0) (r := 2) dX11_pairs_43 sh_1 rfl inX10 (Nat.le_of_ble_eq_true rfl) lf_X11_67 rfl rfl ?_
    refine go_getR (k := 7) (r := 8) dX11_pairs_46 sh_2 rfl inX2 (Nat.le_of_ble_eq_true rfl) lf_X11_245 rfl rfl ?_
    refine go_aload_n dX11_pairs_49 rfl ?_
    refine go_getR (k := 4) (r := 111) dX11_pairs_50 sh_107 rfl inX9 (Nat.le_of_ble_eq_true rfl) lf_X11_335 rfl rfl ?_
    refine go_iload_n dX11_pairs_53 rfl ?_
    obtain ⟨hi, hF⟩ := hF
    refine go_iald dX11_pairs_54 sh_111 hi ?_
    obtain ⟨hi, hF⟩ := hF
    refine go_iald dX11_pairs_55 sh_8 hi ?_
    refine Gw.namei (fun x2 ex2 => ?_)
    have hF := hF x2 ex2
    refine go_istore (L' := [.ref (ga G 0), .ref (ga G 107), .int l2, .int l3, .int x1, .int x2]) dX11_pairs_56 (Nat.le_of_ble_eq_true rfl) rfl ?_
    refine go_iload_n dX11_pairs_58 rfl ?_
    refine go_iconst (v := 1) dX11_pairs_59 (by decide) ?_
    refine go_iconst (v := 4) dX11_pairs_60 (by decide) ?_
    refine go_iload dX11_pairs_61 rfl ?_
    refine go_imul dX11_pairs_63 ?_
    refine go_iload dX11_pairs_64 rfl ?_
    refine go_iadd dX11_pairs_66 ?_
    refine go_ishl dX11_pairs_67 ?_
    refine go_ior dX11_pairs_68 ?_
    refine Gw.namei (fun x3 ex3 => ?_)
    have hF := hF x3 ex3
    refine go_istore_n (L' := [.ref (ga G 0), .ref (ga G 107), .int x3, .int l3, .int x1, .int x2]) dX11_pairs_69 (Nat.le_of_ble_eq_true rfl) rfl ?_
    obtain ⟨x4, ex4⟩ : ∃ z : Int32, z = l3 + 1 := ⟨_, rfl⟩
    have hF := hF x4 ex4
    refine go_iinc (v := x4) (L' := [.ref (ga G 0), .ref (ga G 107), .int x3, .int x4, .int x1, .int x2]) dX11_pairs_70 rfl (by rw [ex4]; rfl) (Nat.le_of_ble_eq_true rfl) rfl ?_
    refine go_goto 12 dX11_pairs_73 rfl ?_
    exact hF
theorem vX11_tower (G : GP) (d : Nat) (a0 : Int32) (a1 : Int32) (m : Mem) (K : Int32 → Mem → Prop) (hF : ((0 ≤ a0 ∧ a0 ≤ 1) → ((¬ a1 = (-1)) → ((0 ≤ a1 ∧ a1 < m.1 2 0) → Evi G (d) mX9_addToTower [.ref (ga G 107), .int a0, .int a1] m (fun r2 m1 => K r2 m1)) ∧ (¬ (0 ≤ a1 ∧ a1 < m.1 2 0) → K (-2) m)) ∧ ((a1 = (-1)) → vp_in a0 2 ∧ ∀ m3 : Mem, m3 = wI m 112 a0.toNatClampNeg 0 → K 0 m3)) ∧ (¬ (0 ≤ a0 ∧ a0 ≤ 1) → K (-2) m)) : Evi G (d + 1) mX11_tower [.ref (ga G 0), .int a0, .int a1] m K := by
  refine Ev.go [.ref (ga G 0), .int a0, .int a1] (by decide) (Nat.le_of_ble_eq_true rfl) rfl ?_
  refine go_iload_n dX11_tower_0 rfl ?_
  refine go_iconst (v := 0) dX11_tower_1 (by decide) ?_
  refine go_iconst (v := 1) dX11_tower_2 (by decide) ?_
  rcases Classical.em (0 ≤ a0 ∧ a0 ≤ 1) with hp | hp
  · have hF := hF.1 hp
    refine go_callS mX11_within dX11_tower_3 lm_X11_81 okX11_within isX11_within (As := [.int a0, .int 0, .int 1]) (S := []) rfl rfl (Nat.le_of_ble_eq_true rfl) (eX11_within G _ a0 0 1 m (fun r m' => r = 1 ∧ m = m') ⟨fun _ => ⟨rfl, rfl⟩, fun q => absurd hp q⟩) (k_i (fun r m' hr => ?_))
    obtain ⟨hr1, hr2⟩ := hr
    subst hr1
    subst hr2
    refine go_if_ne 12 dX11_tower_6 rfl ⟨fun _ => ?_, fun hc => absurd hc (by decide)⟩
    refine go_iload_n dX11_tower_12 rfl ?_
    refine go_iconst (v := -1) dX11_tower_13 (by decide) ?_
    refine go_icmp_ne 32 dX11_tower_14 rfl ⟨fun hc => ?_, fun hc => ?_⟩
    · have hF := hF.1 hc
      refine go_aload_n dX11_tower_32 rfl ?_
      refine go_getR (k := 0) (r := 1) dX11_tower_33 sh_0 rfl inX11 (Nat.le_of_ble_eq_true rfl) lf_X11_10 rfl rfl ?_
      refine go_getR (k := 0) (r := 2) dX11_tower_36 sh_1 rfl inX10 (Nat.le_of_ble_eq_true rfl) lf_X11_67 rfl rfl ?_
      refine go_iload_n dX11_tower_39 rfl ?_
      rcases Classical.em (0 ≤ a1 ∧ a1 < m.1 2 0) with hp | hp
      · have hF := hF.1 hp
        refine go_callV mX2_hasBell dX11_tower_40 lm_X11_230 okX2_hasBell isX2_hasBell sh_2 rfl (As := [.int a1]) (S := []) rfl rfl (Nat.le_of_ble_eq_true rfl) (eX2_hasBell G _ a1 m (fun r m' => r = 1 ∧ m = m') ⟨fun _ => ⟨rfl, rfl⟩, fun q => absurd hp q⟩) (k_i (fun r m' hr => ?_))
        obtain ⟨hr1, hr2⟩ := hr
        subst hr1
        subst hr2
        refine go_if_eq 61 dX11_tower_43 rfl ⟨fun hc => absurd hc (by decide), fun _ => ?_⟩
        refine go_aload_n dX11_tower_46 rfl ?_
        refine go_getR (k := 0) (r := 1) dX11_tower_47 sh_0 rfl inX11 (Nat.le_of_ble_eq_true rfl) lf_X11_10 rfl rfl ?_
        refine go_getR (k := 3) (r := 107) dX11_tower_50 sh_1 rfl inX10 (Nat.le_of_ble_eq_true rfl) lf_X11_274 rfl rfl ?_
        refine go_iload_n dX11_tower_53 rfl ?_
        refine go_iload_n dX11_tower_54 rfl ?_
        refine go_callV mX9_addToTower dX11_tower_55 lm_X11_341 okX9_addToTower isX9_addToTower sh_107 rfl (As := [.int a0, .int a1]) (S := []) rfl rfl (Nat.le_of_ble_eq_true rfl) hF (k_i (fun r2 m1 hF => ?_))
        refine go_goto 63 dX11_tower_58 rfl ?_
        exact go_iret (S := []) dX11_tower_63 rfl ⟨_, rfl, hF⟩
      · have hF := hF.2 hp
        refine go_callV mX2_hasBell dX11_tower_40 lm_X11_230 okX2_hasBell isX2_hasBell sh_2 rfl (As := [.int a1]) (S := []) rfl rfl (Nat.le_of_ble_eq_true rfl) (eX2_hasBell G _ a1 m (fun r m' => r = 0 ∧ m = m') ⟨fun q => absurd q hp, fun _ => ⟨rfl, rfl⟩⟩) (k_i (fun r m' hr => ?_))
        obtain ⟨hr1, hr2⟩ := hr
        subst hr1
        subst hr2
        refine go_if_eq 61 dX11_tower_43 rfl ⟨fun _ => ?_, fun hc => absurd hc (by decide)⟩
        refine go_bipush (v := -2) dX11_tower_61 (by decide) ?_
        exact go_iret (S := []) dX11_tower_63 rfl ⟨_, rfl, hF⟩
    · have hF := hF.2 hc
      refine go_aload_n dX11_tower_17 rfl ?_
      refine go_getR (k := 0) (r := 1) dX11_tower_18 sh_0 rfl inX11 (Nat.le_of_ble_eq_true rfl) lf_X11_10 rfl rfl ?_
      refine go_getR (k := 3) (r := 107) dX11_tower_21 sh_1 rfl inX10 (Nat.le_of_ble_eq_true rfl) lf_X11_274 rfl rfl ?_
      refine go_getR (k := 5) (r := 112) dX11_tower_24 sh_107 rfl inX9 (Nat.le_of_ble_eq_true rfl) lf_X11_338 rfl rfl ?_
      refine go_iload_n dX11_tower_27 rfl ?_
      refine go_iconst (v := 0) dX11_tower_28 (by decide) ?_
      obtain ⟨hi, hF⟩ := hF
      refine go_iast dX11_tower_29 sh_112 hi ?_
      obtain ⟨m3, em3⟩ : ∃ z : Mem, z = wI m 112 a0.toNatClampNeg 0 := ⟨_, rfl⟩
      rw [← em3]
      have hF := hF m3 em3
      refine go_iconst (v := 0) dX11_tower_30 (by decide) ?_
      exact go_iret (S := []) dX11_tower_31 rfl ⟨_, rfl, hF⟩
  · have hF := hF.2 hp
    refine go_callS mX11_within dX11_tower_3 lm_X11_81 okX11_within isX11_within (As := [.int a0, .int 0, .int 1]) (S := []) rfl rfl (Nat.le_of_ble_eq_true rfl) (eX11_within G _ a0 0 1 m (fun r m' => r = 0 ∧ m = m') ⟨fun q => absurd q hp, fun _ => ⟨rfl, rfl⟩⟩) (k_i (fun r m' hr => ?_))
    obtain ⟨hr1, hr2⟩ := hr
    subst hr1
    subst hr2
    refine go_if_ne 12 dX11_tower_6 rfl ⟨fun hc => absurd hc (by decide), fun _ => ?_⟩
    refine go_bipush (v := -2) dX11_tower_9 (by decide) ?_
    exact go_iret (S := []) dX11_tower_11 rfl ⟨_, rfl, hF⟩
theorem vX11_lies (G : GP) (d : Nat) (a0 : Int32) (m : Mem) (K : Int32 → Mem → Prop) (hF : ((a0 = 0) → Evi G (d + 2) mX9_firstLie [.ref (ga G 107)] m (fun r2 m1 => K r2 m1)) ∧ ((¬ a0 = 0) → Evi G (d + 2) mX9_longestRun [.ref (ga G 107)] m (fun r4 m3 => K r4 m3))) : Evi G (d + 3) mX11_lies [.ref (ga G 0), .int a0] m K := by
  refine Ev.go [.ref (ga G 0), .int a0] (by decide) (Nat.le_of_ble_eq_true rfl) rfl ?_
  refine go_iload_n dX11_lies_0 rfl ?_
  refine go_if_eq 17 dX11_lies_1 rfl ⟨fun hc => ?_, fun hc => ?_⟩
  · have hF := hF.1 hc
    refine go_aload_n dX11_lies_17 rfl ?_
    refine go_getR (k := 0) (r := 1) dX11_lies_18 sh_0 rfl inX11 (Nat.le_of_ble_eq_true rfl) lf_X11_10 rfl rfl ?_
    refine go_getR (k := 3) (r := 107) dX11_lies_21 sh_1 rfl inX10 (Nat.le_of_ble_eq_true rfl) lf_X11_274 rfl rfl ?_
    refine go_callV mX9_firstLie dX11_lies_24 lm_X11_348 okX9_firstLie isX9_firstLie sh_107 rfl (As := []) (S := []) rfl rfl (Nat.le_of_ble_eq_true rfl) hF (k_i (fun r2 m1 hF => ?_))
    exact go_iret (S := []) dX11_lies_27 rfl ⟨_, rfl, hF⟩
  · have hF := hF.2 hc
    refine go_aload_n dX11_lies_4 rfl ?_
    refine go_getR (k := 0) (r := 1) dX11_lies_5 sh_0 rfl inX11 (Nat.le_of_ble_eq_true rfl) lf_X11_10 rfl rfl ?_
    refine go_getR (k := 3) (r := 107) dX11_lies_8 sh_1 rfl inX10 (Nat.le_of_ble_eq_true rfl) lf_X11_274 rfl rfl ?_
    refine go_callV mX9_longestRun dX11_lies_11 lm_X11_344 okX9_longestRun isX9_longestRun sh_107 rfl (As := []) (S := []) rfl rfl (Nat.le_of_ble_eq_true rfl) hF (k_i (fun r4 m3 hF => ?_))
    refine go_goto 27 dX11_lies_14 rfl ?_
    exact go_iret (S := []) dX11_lies_27 rfl ⟨_, rfl, hF⟩
theorem vX11_roundOf (G : GP) (d : Nat) (a0 : Int32) (m : Mem) (K : Int32 → Mem → Prop) (hF : Gw G (d + 1) mX11_roundOf 4 [.ref (ga G 0), .int a0, .int a0, .int 0] [] m (Qi K)) : Evi G (d + 1) mX11_roundOf [.ref (ga G 0), .int a0] m K := by
  refine Ev.go [.ref (ga G 0), .int a0, uu, uu] (by decide) (Nat.le_of_ble_eq_true rfl) rfl ?_
  refine go_iload_n dX11_roundOf_0 rfl ?_
  refine go_istore_n (L' := [.ref (ga G 0), .int a0, .int a0, uu]) dX11_roundOf_1 (Nat.le_of_ble_eq_true rfl) rfl ?_
  refine go_iconst (v := 0) dX11_roundOf_2 (by decide) ?_
  refine go_istore_n (L' := [.ref (ga G 0), .int a0, .int a0, .int 0]) dX11_roundOf_3 (Nat.le_of_ble_eq_true rfl) rfl ?_
  exact hF
theorem vX11_roundOf_4 (G : GP) (d : Nat) (u1 : Value) (l2 : Int32) (l3 : Int32) (m : Mem) (K : Int32 → Mem → Prop) (hF : ((10 ≤ l3) → Evi G (d) mX9_allFrom [.ref (ga G 107), .int l2] m (fun r2 m1 => K r2 m1)) ∧ ((¬ 10 ≤ l3) → vp_in l2 10 ∧ ∀ x3 : Int32, x3 = m.1 109 l2.toNatClampNeg → ∀ x4 : Int32, x4 = l3 + 1 → Gw G (d + 1) mX11_roundOf 4 [.ref (ga G 0), uu, .int x3, .int x4] [] m (Qi K))) : Gw G (d + 1) mX11_roundOf 4 [.ref (ga G 0), u1, .int l2, .int l3] [] m (Qi K) := by
  refine Gw.weak (L' := [.ref (ga G 0), uu, .int l2, .int l3]) ⟨Or.inl rfl, Or.inr rfl, Or.inl rfl, Or.inl rfl, trivial⟩ ?_
  refine go_iload_n dX11_roundOf_4 rfl ?_
  refine go_bipush (v := 10) dX11_roundOf_5 (by decide) ?_
  refine go_icmp_ge 29 dX11_roundOf_7 rfl ⟨fun hc => ?_, fun hc => ?_⟩
  · have hF := hF.1 hc
    refine go_aload_n dX11_roundOf_29 rfl ?_
    refine go_getR (k := 0) (r := 1) dX11_roundOf_30 sh_0 rfl inX11 (Nat.le_of_ble_eq_true rfl) lf_X11_10 rfl rfl ?_
    refine go_getR (k := 3) (r := 107) dX11_roundOf_33 sh_1 rfl inX10 (Nat.le_of_ble_eq_true rfl) lf_X11_274 rfl rfl ?_
    refine go_iload_n dX11_roundOf_36 rfl ?_
    refine go_callV mX9_allFrom dX11_roundOf_37 lm_X11_309 okX9_allFrom isX9_allFrom sh_107 rfl (As := [.int l2]) (S := []) rfl rfl (Nat.le_of_ble_eq_true rfl) hF (k_i (fun r2 m1 hF => ?_))
    exact go_iret (S := []) dX11_roundOf_40 rfl ⟨_, rfl, hF⟩
  · have hF := hF.2 hc
    refine go_aload_n dX11_roundOf_10 rfl ?_
    refine go_getR (k := 0) (r := 1) dX11_roundOf_11 sh_0 rfl inX11 (Nat.le_of_ble_eq_true rfl) lf_X11_10 rfl rfl ?_
    refine go_getR (k := 3) (r := 107) dX11_roundOf_14 sh_1 rfl inX10 (Nat.le_of_ble_eq_true rfl) lf_X11_274 rfl rfl ?_
    refine go_getR (k := 1) (r := 109) dX11_roundOf_17 sh_107 rfl inX9 (Nat.le_of_ble_eq_true rfl) lf_X11_306 rfl rfl ?_
    refine go_iload_n dX11_roundOf_20 rfl ?_
    obtain ⟨hi, hF⟩ := hF
    refine go_iald dX11_roundOf_21 sh_109 hi ?_
    refine Gw.namei (fun x3 ex3 => ?_)
    have hF := hF x3 ex3
    refine go_istore_n (L' := [.ref (ga G 0), uu, .int x3, .int l3]) dX11_roundOf_22 (Nat.le_of_ble_eq_true rfl) rfl ?_
    obtain ⟨x4, ex4⟩ : ∃ z : Int32, z = l3 + 1 := ⟨_, rfl⟩
    have hF := hF x4 ex4
    refine go_iinc (v := x4) (L' := [.ref (ga G 0), uu, .int x3, .int x4]) dX11_roundOf_23 rfl (by rw [ex4]; rfl) (Nat.le_of_ble_eq_true rfl) rfl ?_
    refine go_goto 4 dX11_roundOf_26 rfl ?_
    exact hF
theorem vX11_allLinesRight (G : GP) (d : Nat) (p0 : Nat) (hp0 : TxAt p0) (m : Mem) (K : Int32 → Mem → Prop) (hF : Gw G (d + 4) mX11_allLinesRight 10 [.ref (ga G 0), .ref (ga G p0), .ref (ga G 107), .int 0] [] m (Qi K)) : Evi G (d + 4) mX11_allLinesRight [.ref (ga G 0), .ref (ga G p0)] m K := by
  refine Ev.go [.ref (ga G 0), .ref (ga G p0), uu, uu] (by decide) (Nat.le_of_ble_eq_true rfl) rfl ?_
  refine go_aload_n dX11_allLinesRight_0 rfl ?_
  refine go_getR (k := 0) (r := 1) dX11_allLinesRight_1 sh_0 rfl inX11 (Nat.le_of_ble_eq_true rfl) lf_X11_10 rfl rfl ?_
  refine go_getR (k := 3) (r := 107) dX11_allLinesRight_4 sh_1 rfl inX10 (Nat.le_of_ble_eq_true rfl) lf_X11_274 rfl rfl ?_
  refine go_astore_n (L' := [.ref (ga G 0), .ref (ga G p0), .ref (ga G 107), uu]) dX11_allLinesRight_7 (Nat.le_of_ble_eq_true rfl) rfl ?_
  refine go_iconst (v := 0) dX11_allLinesRight_8 (by decide) ?_
  refine go_istore_n (L' := [.ref (ga G 0), .ref (ga G p0), .ref (ga G 107), .int 0]) dX11_allLinesRight_9 (Nat.le_of_ble_eq_true rfl) rfl ?_
  exact hF
theorem vX11_allLinesRight_10 (G : GP) (d : Nat) (p0 : Nat) (hp0 : TxAt p0) (l3 : Int32) (m : Mem) (K : Int32 → Mem → Prop) (hF : (((m.1 107 2) ≤ l3) → K 1 m) ∧ ((¬ (m.1 107 2) ≤ l3) → vp_in l3 8 ∧ vp_in l3 8 ∧ Evi G (d + 3) mX1_follows [.ref (ga G 262), .ref (ga G p0), .int (m.1 110 l3.toNatClampNeg), .int (m.1 111 l3.toNatClampNeg), .int 1] m (fun r2 m1 => ((¬ r2 = 0) → ∀ x3 : Int32, x3 = l3 + 1 → Gw G (d + 4) mX11_allLinesRight 10 [.ref (ga G 0), .ref (ga G p0), .ref (ga G 107), .int x3] [] m1 (Qi K)) ∧ ((r2 = 0) → K 0 m1)))) : Gw G (d + 4) mX11_allLinesRight 10 [.ref (ga G 0), .ref (ga G p0), .ref (ga G 107), .int l3] [] m (Qi K) := by
  refine go_iload_n dX11_allLinesRight_10 rfl ?_
  refine go_aload_n dX11_allLinesRight_11 rfl ?_
  refine go_getI (k := 2) dX11_allLinesRight_12 sh_107 rfl inX9 (Nat.le_of_ble_eq_true rfl) lf_X11_323 rfl ?_
  refine go_icmp_ge 50 dX11_allLinesRight_15 rfl ⟨fun hc => ?_, fun hc => ?_⟩
  · have hF := hF.1 hc
    refine go_iconst (v := 1) dX11_allLinesRight_50 (by decide) ?_
    exact go_zret (S := []) dX11_allLinesRight_51 rfl (by decide) ⟨_, rfl, hF⟩
  · have hF := hF.2 hc
    refine go_aload_n dX11_allLinesRight_18 rfl ?_
    refine go_getR (k := 6) (r := 262) dX11_allLinesRight_19 sh_0 rfl inX11 (Nat.le_of_ble_eq_true rfl) lf_X11_54 rfl rfl ?_
    refine go_aload_n dX11_allLinesRight_22 rfl ?_
    refine go_aload_n dX11_allLinesRight_23 rfl ?_
    refine go_getR (k := 3) (r := 110) dX11_allLinesRight_24 sh_107 rfl inX9 (Nat.le_of_ble_eq_true rfl) lf_X11_332 rfl rfl ?_
    refine go_iload_n dX11_allLinesRight_27 rfl ?_
    obtain ⟨hi, hF⟩ := hF
    refine go_iald dX11_allLinesRight_28 sh_110 hi ?_
    refine go_aload_n dX11_allLinesRight_29 rfl ?_
    refine go_getR (k := 4) (r := 111) dX11_allLinesRight_30 sh_107 rfl inX9 (Nat.le_of_ble_eq_true rfl) lf_X11_335 rfl rfl ?_
    refine go_iload_n dX11_allLinesRight_33 rfl ?_
    obtain ⟨hi, hF⟩ := hF
    refine go_iald dX11_allLinesRight_34 sh_111 hi ?_
    refine go_iconst (v := 1) dX11_allLinesRight_35 (by decide) ?_
    refine go_callV mX1_follows dX11_allLinesRight_36 lm_X11_351 okX1_follows isX1_follows sh_262 rfl (As := [.ref (ga G p0), .int (m.1 110 l3.toNatClampNeg), .int (m.1 111 l3.toNatClampNeg), .int 1]) (S := []) rfl rfl (Nat.le_of_ble_eq_true rfl) hF (k_i (fun r2 m1 hF => ?_))
    refine go_if_ne 44 dX11_allLinesRight_39 rfl ⟨fun hc => ?_, fun hc => ?_⟩
    · have hF := hF.1 hc
      obtain ⟨x3, ex3⟩ : ∃ z : Int32, z = l3 + 1 := ⟨_, rfl⟩
      have hF := hF x3 ex3
      refine go_iinc (v := x3) (L' := [.ref (ga G 0), .ref (ga G p0), .ref (ga G 107), .int x3]) dX11_allLinesRight_44 rfl (by rw [ex3]; rfl) (Nat.le_of_ble_eq_true rfl) rfl ?_
      refine go_goto 10 dX11_allLinesRight_47 rfl ?_
      exact hF
    · have hF := hF.2 hc
      refine go_iconst (v := 0) dX11_allLinesRight_42 (by decide) ?_
      exact go_zret (S := []) dX11_allLinesRight_43 rfl (by decide) ⟨_, rfl, hF⟩
theorem vX11_newBell (G : GP) (d : Nat) (a0 : Int32) (m : Mem) (K : Int32 → Mem → Prop) (hF : ((1 ≤ a0 ∧ a0 ≤ 9) → Gw G (d + 2) mX11_newBell 14 [.ref (ga G 0), .int a0, .int 0] [] m (Qi K)) ∧ (¬ (1 ≤ a0 ∧ a0 ≤ 9) → K (-1) m)) : Evi G (d + 2) mX11_newBell [.ref (ga G 0), .int a0] m K := by
  refine Ev.go [.ref (ga G 0), .int a0, uu] (by decide) (Nat.le_of_ble_eq_true rfl) rfl ?_
  refine go_iload_n dX11_newBell_0 rfl ?_
  refine go_iconst (v := 1) dX11_newBell_1 (by decide) ?_
  refine go_bipush (v := 9) dX11_newBell_2 (by decide) ?_
  rcases Classical.em (1 ≤ a0 ∧ a0 ≤ 9) with hp | hp
  · have hF := hF.1 hp
    refine go_callS mX11_within dX11_newBell_4 lm_X11_81 okX11_within isX11_within (As := [.int a0, .int 1, .int 9]) (S := []) rfl rfl (Nat.le_of_ble_eq_true rfl) (eX11_within G _ a0 1 9 m (fun r m' => r = 1 ∧ m = m') ⟨fun _ => ⟨rfl, rfl⟩, fun q => absurd hp q⟩) (k_i (fun r m' hr => ?_))
    obtain ⟨hr1, hr2⟩ := hr
    subst hr1
    subst hr2
    refine go_if_ne 12 dX11_newBell_7 rfl ⟨fun _ => ?_, fun hc => absurd hc (by decide)⟩
    refine go_iconst (v := 0) dX11_newBell_12 (by decide) ?_
    refine go_istore_n (L' := [.ref (ga G 0), .int a0, .int 0]) dX11_newBell_13 (Nat.le_of_ble_eq_true rfl) rfl ?_
    exact hF
  · have hF := hF.2 hp
    refine go_callS mX11_within dX11_newBell_4 lm_X11_81 okX11_within isX11_within (As := [.int a0, .int 1, .int 9]) (S := []) rfl rfl (Nat.le_of_ble_eq_true rfl) (eX11_within G _ a0 1 9 m (fun r m' => r = 0 ∧ m = m') ⟨fun q => absurd q hp, fun _ => ⟨rfl, rfl⟩⟩) (k_i (fun r m' hr => ?_))
    obtain ⟨hr1, hr2⟩ := hr
    subst hr1
    subst hr2
    refine go_if_ne 12 dX11_newBell_7 rfl ⟨fun hc => absurd hc (by decide), fun _ => ?_⟩
    refine go_iconst (v := -1) dX11_newBell_10 (by decide) ?_
    exact go_iret (S := []) dX11_newBell_11 rfl ⟨_, rfl, hF⟩
theorem vX11_newBell_14 (G : GP) (d : Nat) (l1 : Int32) (l2 : Int32) (m : Mem) (K : Int32 → Mem → Prop) (hF : ((9 < l2) → K (-1) m) ∧ ((¬ 9 < l2) → Evi G (d + 1) mX2_roomAround [.ref (ga G 2), .int l2] m (fun r2 m1 => ((r2 < l1) → ∀ x3 : Int32, x3 = l2 + 1 → Gw G (d + 2) mX11_newBell 14 [.ref (ga G 0), .int l1, .int x3] [] m1 (Qi K)) ∧ ((¬ r2 < l1) → K l2 m1)))) : Gw G (d + 2) mX11_newBell 14 [.ref (ga G 0), .int l1, .int l2] [] m (Qi K) := by
  refine go_iload_n dX11_newBell_14 rfl ?_
  refine go_bipush (v := 9) dX11_newBell_15 (by decide) ?_
  refine go_icmp_gt 43 dX11_newBell_17 rfl ⟨fun hc => ?_, fun hc => ?_⟩
  · have hF := hF.1 hc
    refine go_iconst (v := -1) dX11_newBell_43 (by decide) ?_
    exact go_iret (S := []) dX11_newBell_44 rfl ⟨_, rfl, hF⟩
  · have hF := hF.2 hc
    refine go_aload_n dX11_newBell_20 rfl ?_
    refine go_getR (k := 0) (r := 1) dX11_newBell_21 sh_0 rfl inX11 (Nat.le_of_ble_eq_true rfl) lf_X11_10 rfl rfl ?_
    refine go_getR (k := 0) (r := 2) dX11_newBell_24 sh_1 rfl inX10 (Nat.le_of_ble_eq_true rfl) lf_X11_67 rfl rfl ?_
    refine go_iload_n dX11_newBell_27 rfl ?_
    refine go_callV mX2_roomAround dX11_newBell_28 lm_X11_355 okX2_roomAround isX2_roomAround sh_2 rfl (As := [.int l2]) (S := []) rfl rfl (Nat.le_of_ble_eq_true rfl) hF (k_i (fun r2 m1 hF => ?_))
    refine go_iload_n dX11_newBell_31 rfl ?_
    refine go_icmp_lt 37 dX11_newBell_32 rfl ⟨fun hc => ?_, fun hc => ?_⟩
    · have hF := hF.1 hc
      obtain ⟨x3, ex3⟩ : ∃ z : Int32, z = l2 + 1 := ⟨_, rfl⟩
      have hF := hF x3 ex3
      refine go_iinc (v := x3) (L' := [.ref (ga G 0), .int l1, .int x3]) dX11_newBell_37 rfl (by rw [ex3]; rfl) (Nat.le_of_ble_eq_true rfl) rfl ?_
      refine go_goto 14 dX11_newBell_40 rfl ?_
      exact hF
    · have hF := hF.2 hc
      refine go_iload_n dX11_newBell_35 rfl ?_
      exact go_iret (S := []) dX11_newBell_36 rfl ⟨_, rfl, hF⟩
theorem vX11_farthest (G : GP) (d : Nat)  (m : Mem) (K : Int32 → Mem → Prop) (hF : Gw G (d + 2) mX11_farthest 4 [.ref (ga G 0), .int 0, .int 0] [] m (Qi K)) : Evi G (d + 2) mX11_farthest [.ref (ga G 0)] m K := by
  refine Ev.go [.ref (ga G 0), uu, uu] (by decide) (Nat.le_of_ble_eq_true rfl) rfl ?_
  refine go_iconst (v := 0) dX11_farthest_0 (by decide) ?_
  refine go_istore_n (L' := [.ref (ga G 0), .int 0, uu]) dX11_farthest_1 (Nat.le_of_ble_eq_true rfl) rfl ?_
  refine go_iconst (v := 0) dX11_farthest_2 (by decide) ?_
  refine go_istore_n (L' := [.ref (ga G 0), .int 0, .int 0]) dX11_farthest_3 (Nat.le_of_ble_eq_true rfl) rfl ?_
  exact hF
theorem vX11_farthest_4 (G : GP) (d : Nat) (l1 : Int32) (l2 : Int32) (m : Mem) (K : Int32 → Mem → Prop) (hF : ((9 < l2) → K l1 m) ∧ ((¬ 9 < l2) → Evi G (d + 1) mX2_roomAround [.ref (ga G 2), .int l2] m (fun r2 m1 => ∀ x3 : Int32, x3 = imax l1 r2 → ∀ x4 : Int32, x4 = l2 + 1 → Gw G (d + 2) mX11_farthest 4 [.ref (ga G 0), .int x3, .int x4] [] m1 (Qi K)))) : Gw G (d + 2) mX11_farthest 4 [.ref (ga G 0), .int l1, .int l2] [] m (Qi K) := by
  refine go_iload_n dX11_farthest_4 rfl ?_
  refine go_bipush (v := 9) dX11_farthest_5 (by decide) ?_
  refine go_icmp_gt 32 dX11_farthest_7 rfl ⟨fun hc => ?_, fun hc => ?_⟩
  · have hF := hF.1 hc
    refine go_iload_n dX11_farthest_32 rfl ?_
    exact go_iret (S := []) dX11_farthest_33 rfl ⟨_, rfl, hF⟩
  · have hF := hF.2 hc
    refine go_iload_n dX11_farthest_10 rfl ?_
    refine go_aload_n dX11_farthest_11 rfl ?_
    refine go_getR (k := 0) (r := 1) dX11_farthest_12 sh_0 rfl inX11 (Nat.le_of_ble_eq_true rfl) lf_X11_10 rfl rfl ?_
    refine go_getR (k := 0) (r := 2) dX11_farthest_15 sh_1 rfl inX10 (Nat.le_of_ble_eq_true rfl) lf_X11_67 rfl rfl ?_
    refine go_iload_n dX11_farthest_18 rfl ?_
    refine go_callV mX2_roomAround dX11_farthest_19 lm_X11_355 okX2_roomAround isX2_roomAround sh_2 rfl (As := [.int l2]) (S := [.int l1]) rfl rfl (Nat.le_of_ble_eq_true rfl) hF (k_i (fun r2 m1 hF => ?_))
    refine go_mmax dX11_farthest_22 lm_X11_358 (Nat.le_of_ble_eq_true rfl) ?_
    refine Gw.namei (fun x3 ex3 => ?_)
    have hF := hF x3 ex3
    refine go_istore_n (L' := [.ref (ga G 0), .int x3, .int l2]) dX11_farthest_25 (Nat.le_of_ble_eq_true rfl) rfl ?_
    obtain ⟨x4, ex4⟩ : ∃ z : Int32, z = l2 + 1 := ⟨_, rfl⟩
    have hF := hF x4 ex4
    refine go_iinc (v := x4) (L' := [.ref (ga G 0), .int x3, .int x4]) dX11_farthest_26 rfl (by rw [ex4]; rfl) (Nat.le_of_ble_eq_true rfl) rfl ?_
    refine go_goto 4 dX11_farthest_29 rfl ?_
    exact hF
theorem vX11_ropes (G : GP) (d : Nat)  (m : Mem) (K : Int32 → Mem → Prop) (hF : Gw G (d) mX11_ropes 12 [.ref (ga G 0), .ref (ga G 2), .int 0, .int 0] [] m (Qi K)) : Evi G (d) mX11_ropes [.ref (ga G 0)] m K := by
  refine Ev.go [.ref (ga G 0), uu, uu, uu] (by decide) (Nat.le_of_ble_eq_true rfl) rfl ?_
  refine go_aload_n dX11_ropes_0 rfl ?_
  refine go_getR (k := 0) (r := 1) dX11_ropes_1 sh_0 rfl inX11 (Nat.le_of_ble_eq_true rfl) lf_X11_10 rfl rfl ?_
  refine go_getR (k := 0) (r := 2) dX11_ropes_4 sh_1 rfl inX10 (Nat.le_of_ble_eq_true rfl) lf_X11_67 rfl rfl ?_
  refine go_astore_n (L' := [.ref (ga G 0), .ref (ga G 2), uu, uu]) dX11_ropes_7 (Nat.le_of_ble_eq_true rfl) rfl ?_
  refine go_iconst (v := 0) dX11_ropes_8 (by decide) ?_
  refine go_istore_n (L' := [.ref (ga G 0), .ref (ga G 2), .int 0, uu]) dX11_ropes_9 (Nat.le_of_ble_eq_true rfl) rfl ?_
  refine go_iconst (v := 0) dX11_ropes_10 (by decide) ?_
  refine go_istore_n (L' := [.ref (ga G 0), .ref (ga G 2), .int 0, .int 0]) dX11_ropes_11 (Nat.le_of_ble_eq_true rfl) rfl ?_
  exact hF
theorem vX11_ropes_12 (G : GP) (d : Nat) (l2 : Int32) (l3 : Int32) (m : Mem) (K : Int32 → Mem → Prop) (hF : (((m.1 2 0) ≤ l3) → K l2 m) ∧ ((¬ (m.1 2 0) ≤ l3) → vp_in l3 6 ∧ (((m.1 1 4) < (m.1 5 l3.toNatClampNeg)) → ∀ x1 : Int32, x1 = l3 + 1 → Gw G (d) mX11_ropes 12 [.ref (ga G 0), .ref (ga G 2), .int l2, .int x1] [] m (Qi K)) ∧ ((¬ (m.1 1 4) < (m.1 5 l3.toNatClampNeg)) → ∀ x2 : Int32, x2 = l2 ||| ((1 : Int32) <<< (l3 &&& 31)) → ∀ x3 : Int32, x3 = l3 + 1 → Gw G (d) mX11_ropes 12 [.ref (ga G 0), .ref (ga G 2), .int x2, .int x3] [] m (Qi K)))) : Gw G (d) mX11_ropes 12 [.ref (ga G 0), .ref (ga G 2), .int l2, .int l3] [] m (Qi K) := by
  refine go_iload_n dX11_ropes_12 rfl ?_
  refine go_aload_n dX11_ropes_13 rfl ?_
  refine go_getI (k := 0) dX11_ropes_14 sh_2 rfl inX2 (Nat.le_of_ble_eq_true rfl) lf_X11_166 rfl ?_
  refine go_icmp_ge 48 dX11_ropes_17 rfl ⟨fun hc => ?_, fun hc => ?_⟩
  · have hF := hF.1 hc
    refine go_iload_n dX11_ropes_48 rfl ?_
    exact go_iret (S := []) dX11_ropes_49 rfl ⟨_, rfl, hF⟩
  · have hF := hF.2 hc
    refine go_aload_n dX11_ropes_20 rfl ?_
    refine go_getR (k := 3) (r := 5) dX11_ropes_21 sh_2 rfl inX2 (Nat.le_of_ble_eq_true rfl) lf_X11_239 rfl rfl ?_
    refine go_iload_n dX11_ropes_24 rfl ?_
    obtain ⟨hi, hF⟩ := hF
    refine go_iald dX11_ropes_25 sh_5 hi ?_
    refine go_aload_n dX11_ropes_26 rfl ?_
    refine go_getR (k := 0) (r := 1) dX11_ropes_27 sh_0 rfl inX11 (Nat.le_of_ble_eq_true rfl) lf_X11_10 rfl rfl ?_
    refine go_getI (k := 4) dX11_ropes_30 sh_1 rfl inX10 (Nat.le_of_ble_eq_true rfl) lf_X11_85 rfl ?_
    refine go_icmp_gt 42 dX11_ropes_33 rfl ⟨fun hc => ?_, fun hc => ?_⟩
    · have hF := hF.1 hc
      obtain ⟨x1, ex1⟩ : ∃ z : Int32, z = l3 + 1 := ⟨_, rfl⟩
      have hF := hF x1 ex1
      refine go_iinc (v := x1) (L' := [.ref (ga G 0), .ref (ga G 2), .int l2, .int x1]) dX11_ropes_42 rfl (by rw [ex1]; rfl) (Nat.le_of_ble_eq_true rfl) rfl ?_
      refine go_goto 12 dX11_ropes_45 rfl ?_
      exact hF
    · have hF := hF.2 hc
      refine go_iload_n dX11_ropes_36 rfl ?_
      refine go_iconst (v := 1) dX11_ropes_37 (by decide) ?_
      refine go_iload_n dX11_ropes_38 rfl ?_
      refine go_ishl dX11_ropes_39 ?_
      refine go_ior dX11_ropes_40 ?_
      refine Gw.namei (fun x2 ex2 => ?_)
      have hF := hF x2 ex2
      refine go_istore_n (L' := [.ref (ga G 0), .ref (ga G 2), .int x2, .int l3]) dX11_ropes_41 (Nat.le_of_ble_eq_true rfl) rfl ?_
      obtain ⟨x3, ex3⟩ : ∃ z : Int32, z = l3 + 1 := ⟨_, rfl⟩
      have hF := hF x3 ex3
      refine go_iinc (v := x3) (L' := [.ref (ga G 0), .ref (ga G 2), .int x2, .int x3]) dX11_ropes_42 rfl (by rw [ex3]; rfl) (Nat.le_of_ble_eq_true rfl) rfl ?_
      refine go_goto 12 dX11_ropes_45 rfl ?_
      exact hF
theorem vX11_changes (G : GP) (d : Nat) (a0 : Int32) (a1 : Int32) (a2 : Int32) (a3 : Int32) (m : Mem) (K : Int32 → Mem → Prop) (hF : Evi G (d + 3) mX4_fewest [.ref (ga G 235), .int a0, .int a1, .int a2, .int a3] m (fun r2 m1 => K r2 m1)) : Evi G (d + 4) mX11_changes [.ref (ga G 0), .int a0, .int a1, .int a2, .int a3] m K := by
  refine Ev.go [.ref (ga G 0), .int a0, .int a1, .int a2, .int a3] (by decide) (Nat.le_of_ble_eq_true rfl) rfl ?_
  refine go_aload_n dX11_changes_0 rfl ?_
  refine go_getR (k := 5) (r := 235) dX11_changes_1 sh_0 rfl inX11 (Nat.le_of_ble_eq_true rfl) lf_X11_44 rfl rfl ?_
  refine go_iload_n dX11_changes_4 rfl ?_
  refine go_iload_n dX11_changes_5 rfl ?_
  refine go_iload_n dX11_changes_6 rfl ?_
  refine go_iload dX11_changes_7 rfl ?_
  refine go_callV mX4_fewest dX11_changes_9 lm_X11_363 okX4_fewest isX4_fewest sh_235 rfl (As := [.int a0, .int a1, .int a2, .int a3]) (S := []) rfl rfl (Nat.le_of_ble_eq_true rfl) hF (k_i (fun r2 m1 hF => ?_))
  exact go_iret (S := []) dX11_changes_12 rfl ⟨_, rfl, hF⟩
theorem vX11_takes (G : GP) (d : Nat) (a0 : Int32) (m : Mem) (K : Int32 → Mem → Prop) (hF : ((0 ≤ a0 ∧ a0 ≤ (((1 : Int32) <<< ((m.1 2 4) &&& 31)) - 1)) → Gw G (d + 1) mX11_takes 31 [.ref (ga G 0), .int a0, .ref (ga G 2), .int 0, .int 0] [] m (Qi K)) ∧ (¬ (0 ≤ a0 ∧ a0 ≤ (((1 : Int32) <<< ((m.1 2 4) &&& 31)) - 1)) → K (-1) m)) : Evi G (d + 1) mX11_takes [.ref (ga G 0), .int a0] m K := by
  refine Ev.go [.ref (ga G 0), .int a0, uu, uu, uu] (by decide) (Nat.le_of_ble_eq_true rfl) rfl ?_
  refine go_aload_n dX11_takes_0 rfl ?_
  refine go_getR (k := 0) (r := 1) dX11_takes_1 sh_0 rfl inX11 (Nat.le_of_ble_eq_true rfl) lf_X11_10 rfl rfl ?_
  refine go_getR (k := 0) (r := 2) dX11_takes_4 sh_1 rfl inX10 (Nat.le_of_ble_eq_true rfl) lf_X11_67 rfl rfl ?_
  refine go_astore_n (L' := [.ref (ga G 0), .int a0, .ref (ga G 2), uu, uu]) dX11_takes_7 (Nat.le_of_ble_eq_true rfl) rfl ?_
  refine go_iload_n dX11_takes_8 rfl ?_
  refine go_iconst (v := 0) dX11_takes_9 (by decide) ?_
  refine go_iconst (v := 1) dX11_takes_10 (by decide) ?_
  refine go_aload_n dX11_takes_11 rfl ?_
  refine go_getI (k := 4) dX11_takes_12 sh_2 rfl inX2 (Nat.le_of_ble_eq_true rfl) lf_X11_169 rfl ?_
  refine go_ishl dX11_takes_15 ?_
  refine go_iconst (v := 1) dX11_takes_16 (by decide) ?_
  refine go_isub dX11_takes_17 ?_
  rcases Classical.em (0 ≤ a0 ∧ a0 ≤ (((1 : Int32) <<< ((m.1 2 4) &&& 31)) - 1)) with hp | hp
  · have hF := hF.1 hp
    refine go_callS mX11_within dX11_takes_18 lm_X11_81 okX11_within isX11_within (As := [.int a0, .int 0, .int (((1 : Int32) <<< ((m.1 2 4) &&& 31)) - 1)]) (S := []) rfl rfl (Nat.le_of_ble_eq_true rfl) (eX11_within G _ a0 0 (((1 : Int32) <<< ((m.1 2 4) &&& 31)) - 1) m (fun r m' => r = 1 ∧ m = m') ⟨fun _ => ⟨rfl, rfl⟩, fun q => absurd hp q⟩) (k_i (fun r m' hr => ?_))
    obtain ⟨hr1, hr2⟩ := hr
    subst hr1
    subst hr2
    refine go_if_ne 26 dX11_takes_21 rfl ⟨fun _ => ?_, fun hc => absurd hc (by decide)⟩
    refine go_iconst (v := 0) dX11_takes_26 (by decide) ?_
    refine go_istore_n (L' := [.ref (ga G 0), .int a0, .ref (ga G 2), .int 0, uu]) dX11_takes_27 (Nat.le_of_ble_eq_true rfl) rfl ?_
    refine go_iconst (v := 0) dX11_takes_28 (by decide) ?_
    refine go_istore (L' := [.ref (ga G 0), .int a0, .ref (ga G 2), .int 0, .int 0]) dX11_takes_29 (Nat.le_of_ble_eq_true rfl) rfl ?_
    exact hF
  · have hF := hF.2 hp
    refine go_callS mX11_within dX11_takes_18 lm_X11_81 okX11_within isX11_within (As := [.int a0, .int 0, .int (((1 : Int32) <<< ((m.1 2 4) &&& 31)) - 1)]) (S := []) rfl rfl (Nat.le_of_ble_eq_true rfl) (eX11_within G _ a0 0 (((1 : Int32) <<< ((m.1 2 4) &&& 31)) - 1) m (fun r m' => r = 0 ∧ m = m') ⟨fun q => absurd q hp, fun _ => ⟨rfl, rfl⟩⟩) (k_i (fun r m' hr => ?_))
    obtain ⟨hr1, hr2⟩ := hr
    subst hr1
    subst hr2
    refine go_if_ne 26 dX11_takes_21 rfl ⟨fun hc => absurd hc (by decide), fun _ => ?_⟩
    refine go_iconst (v := -1) dX11_takes_24 (by decide) ?_
    exact go_iret (S := []) dX11_takes_25 rfl ⟨_, rfl, hF⟩
theorem vX11_takes_31 (G : GP) (d : Nat) (u0 : Value) (l1 : Int32) (l3 : Int32) (l4 : Int32) (m : Mem) (K : Int32 → Mem → Prop) (hF : (((m.1 2 4) ≤ l4) → K l3 m) ∧ ((¬ (m.1 2 4) ≤ l4) → ((((l1 >>> (l4 &&& 31)) &&& 1) = 0) → ∀ x1 : Int32, x1 = l4 + 1 → Gw G (d + 1) mX11_takes 31 [uu, .int l1, .ref (ga G 2), .int l3, .int x1] [] m (Qi K)) ∧ ((¬ ((l1 >>> (l4 &&& 31)) &&& 1) = 0) → vp_in l4 10 ∧ ∀ x2 : Int32, x2 = l3 + (m.1 7 l4.toNatClampNeg) → ∀ x3 : Int32, x3 = l4 + 1 → Gw G (d + 1) mX11_takes 31 [uu, .int l1, .ref (ga G 2), .int x2, .int x3] [] m (Qi K)))) : Gw G (d + 1) mX11_takes 31 [u0, .int l1, .ref (ga G 2), .int l3, .int l4] [] m (Qi K) := by
  refine Gw.weak (L' := [uu, .int l1, .ref (ga G 2), .int l3, .int l4]) ⟨Or.inr rfl, Or.inl rfl, Or.inl rfl, Or.inl rfl, Or.inl rfl, trivial⟩ ?_
  refine go_iload dX11_takes_31 rfl ?_
  refine go_aload_n dX11_takes_33 rfl ?_
  refine go_getI (k := 4) dX11_takes_34 sh_2 rfl inX2 (Nat.le_of_ble_eq_true rfl) lf_X11_169 rfl ?_
  refine go_icmp_ge 65 dX11_takes_37 rfl ⟨fun hc => ?_, fun hc => ?_⟩
  · have hF := hF.1 hc
    refine go_iload_n dX11_takes_65 rfl ?_
    exact go_iret (S := []) dX11_takes_66 rfl ⟨_, rfl, hF⟩
  · have hF := hF.2 hc
    refine go_iload_n dX11_takes_40 rfl ?_
    refine go_iload dX11_takes_41 rfl ?_
    refine go_ishr dX11_takes_43 ?_
    refine go_iconst (v := 1) dX11_takes_44 (by decide) ?_
    refine go_iand dX11_takes_45 ?_
    refine go_if_eq 59 dX11_takes_46 rfl ⟨fun hc => ?_, fun hc => ?_⟩
    · have hF := hF.1 hc
      obtain ⟨x1, ex1⟩ : ∃ z : Int32, z = l4 + 1 := ⟨_, rfl⟩
      have hF := hF x1 ex1
      refine go_iinc (v := x1) (L' := [uu, .int l1, .ref (ga G 2), .int l3, .int x1]) dX11_takes_59 rfl (by rw [ex1]; rfl) (Nat.le_of_ble_eq_true rfl) rfl ?_
      refine go_goto 31 dX11_takes_62 rfl ?_
      exact hF
    · have hF := hF.2 hc
      refine go_iload_n dX11_takes_49 rfl ?_
      refine go_aload_n dX11_takes_50 rfl ?_
      refine go_getR (k := 6) (r := 7) dX11_takes_51 sh_2 rfl inX2 (Nat.le_of_ble_eq_true rfl) lf_X11_198 rfl rfl ?_
      refine go_iload dX11_takes_54 rfl ?_
      obtain ⟨hi, hF⟩ := hF
      refine go_iald dX11_takes_56 sh_7 hi ?_
      refine go_iadd dX11_takes_57 ?_
      refine Gw.namei (fun x2 ex2 => ?_)
      have hF := hF x2 ex2
      refine go_istore_n (L' := [uu, .int l1, .ref (ga G 2), .int x2, .int l4]) dX11_takes_58 (Nat.le_of_ble_eq_true rfl) rfl ?_
      obtain ⟨x3, ex3⟩ : ∃ z : Int32, z = l4 + 1 := ⟨_, rfl⟩
      have hF := hF x3 ex3
      refine go_iinc (v := x3) (L' := [uu, .int l1, .ref (ga G 2), .int x2, .int x3]) dX11_takes_59 rfl (by rw [ex3]; rfl) (Nat.le_of_ble_eq_true rfl) rfl ?_
      refine go_goto 31 dX11_takes_62 rfl ?_
      exact hF
theorem vX11_image (G : GP) (d : Nat)  (m : Mem) (K : Int32 → Mem → Prop) (hF : Evv G (d + 3) mX10_copyFrom [.ref (ga G 114), .ref (ga G 1)] m (fun m1 => K (m1.1 12 2) m1)) : Evi G (d + 4) mX11_image [.ref (ga G 0)] m K := by
  refine Ev.go [.ref (ga G 0)] (by decide) (Nat.le_of_ble_eq_true rfl) rfl ?_
  refine go_aload_n dX11_image_0 rfl ?_
  refine go_getR (k := 1) (r := 114) dX11_image_1 sh_0 rfl inX11 (Nat.le_of_ble_eq_true rfl) lf_X11_16 rfl rfl ?_
  refine go_aload_n dX11_image_4 rfl ?_
  refine go_getR (k := 0) (r := 1) dX11_image_5 sh_0 rfl inX11 (Nat.le_of_ble_eq_true rfl) lf_X11_10 rfl rfl ?_
  refine go_callV mX10_copyFrom dX11_image_8 lm_X11_367 okX10_copyFrom isX10_copyFrom sh_114 rfl (As := [.ref (ga G 1)]) (S := []) rfl rfl (Nat.le_of_ble_eq_true rfl) hF (k_v (fun m1 hF => ?_))
  refine go_aload_n dX11_image_11 rfl ?_
  refine go_getR (k := 0) (r := 1) dX11_image_12 sh_0 rfl inX11 (Nat.le_of_ble_eq_true rfl) lf_X11_10 rfl rfl ?_
  refine go_getR (k := 1) (r := 12) dX11_image_15 sh_1 rfl inX10 (Nat.le_of_ble_eq_true rfl) lf_X11_134 rfl rfl ?_
  refine go_getI (k := 2) dX11_image_18 sh_12 rfl inX5 (Nat.le_of_ble_eq_true rfl) lf_X11_146 rfl ?_
  exact go_iret (S := []) dX11_image_21 rfl ⟨_, rfl, hF⟩
theorem vX11_back (G : GP) (d : Nat)  (m : Mem) (K : Int32 → Mem → Prop) (hF : Evv G (d + 3) mX10_copyFrom [.ref (ga G 1), .ref (ga G 114)] m (fun m1 => Evv G (d + 3) mX1_forget [.ref (ga G 262)] m1 (fun m2 => K (m2.1 12 2) m2))) : Evi G (d + 4) mX11_back [.ref (ga G 0)] m K := by
  refine Ev.go [.ref (ga G 0)] (by decide) (Nat.le_of_ble_eq_true rfl) rfl ?_
  refine go_aload_n dX11_back_0 rfl ?_
  refine go_getR (k := 0) (r := 1) dX11_back_1 sh_0 rfl inX11 (Nat.le_of_ble_eq_true rfl) lf_X11_10 rfl rfl ?_
  refine go_aload_n dX11_back_4 rfl ?_
  refine go_getR (k := 1) (r := 114) dX11_back_5 sh_0 rfl inX11 (Nat.le_of_ble_eq_true rfl) lf_X11_16 rfl rfl ?_
  refine go_callV mX10_copyFrom dX11_back_8 lm_X11_367 okX10_copyFrom isX10_copyFrom sh_1 rfl (As := [.ref (ga G 114)]) (S := []) rfl rfl (Nat.le_of_ble_eq_true rfl) hF (k_v (fun m1 hF => ?_))
  refine go_aload_n dX11_back_11 rfl ?_
  refine go_getR (k := 6) (r := 262) dX11_back_12 sh_0 rfl inX11 (Nat.le_of_ble_eq_true rfl) lf_X11_54 rfl rfl ?_
  refine go_callV mX1_forget dX11_back_15 lm_X11_115 okX1_forget isX1_forget sh_262 rfl (As := []) (S := []) rfl rfl (Nat.le_of_ble_eq_true rfl) hF (k_v (fun m2 hF => ?_))
  refine go_aload_n dX11_back_18 rfl ?_
  refine go_getR (k := 0) (r := 1) dX11_back_19 sh_0 rfl inX11 (Nat.le_of_ble_eq_true rfl) lf_X11_10 rfl rfl ?_
  refine go_getR (k := 1) (r := 12) dX11_back_22 sh_1 rfl inX10 (Nat.le_of_ble_eq_true rfl) lf_X11_134 rfl rfl ?_
  refine go_getI (k := 2) dX11_back_25 sh_12 rfl inX5 (Nat.le_of_ble_eq_true rfl) lf_X11_146 rfl ?_
  exact go_iret (S := []) dX11_back_28 rfl ⟨_, rfl, hF⟩
theorem vX11_about (G : GP) (d : Nat) (a0 : Int32) (m : Mem) (K : Int32 → Mem → Prop) (hF : (a0 = 0 → K (m.1 2 0) m) ∧ (a0 = 1 → K (m.1 2 4) m) ∧ (a0 = 2 → K (m.1 1 5) m) ∧ (a0 = 3 → K (m.1 1 6) m) ∧ (a0 = 4 → K (m.1 15 0) m) ∧ (a0 = 5 → K (m.1 107 2) m) ∧ (a0 = 6 → K (m.1 228 0) m) ∧ (¬ a0 = 0 ∧ ¬ a0 = 1 ∧ ¬ a0 = 2 ∧ ¬ a0 = 3 ∧ ¬ a0 = 4 ∧ ¬ a0 = 5 ∧ ¬ a0 = 6 → K (-2) m)) : Evi G (d) mX11_about [.ref (ga G 0), .int a0] m K := by
  refine Ev.go [.ref (ga G 0), .int a0] (by decide) (Nat.le_of_ble_eq_true rfl) rfl ?_
  refine go_iload_n dX11_about_0 rfl ?_
  rcases Decidable.em (a0 = 0) with hc0 | hc0
  · have hF := hF.1 hc0
    refine go_tabIn (off := 43) 44 dX11_about_1 (by rw [hc0]; decide) (by rw [hc0]; decide) (by rw [hc0]; rfl) rfl ?_
    refine go_aload_n dX11_about_44 rfl ?_
    refine go_getR (k := 0) (r := 1) dX11_about_45 sh_0 rfl inX11 (Nat.le_of_ble_eq_true rfl) lf_X11_10 rfl rfl ?_
    refine go_getR (k := 0) (r := 2) dX11_about_48 sh_1 rfl inX10 (Nat.le_of_ble_eq_true rfl) lf_X11_67 rfl rfl ?_
    refine go_getI (k := 0) dX11_about_51 sh_2 rfl inX2 (Nat.le_of_ble_eq_true rfl) lf_X11_166 rfl ?_
    exact go_iret (S := []) dX11_about_54 rfl ⟨_, rfl, hF⟩
  rcases Decidable.em (a0 = 1) with hc1 | hc1
  · have hF := hF.2.1 hc1
    refine go_tabIn (off := 54) 55 dX11_about_1 (by rw [hc1]; decide) (by rw [hc1]; decide) (by rw [hc1]; rfl) rfl ?_
    refine go_aload_n dX11_about_55 rfl ?_
    refine go_getR (k := 0) (r := 1) dX11_about_56 sh_0 rfl inX11 (Nat.le_of_ble_eq_true rfl) lf_X11_10 rfl rfl ?_
    refine go_getR (k := 0) (r := 2) dX11_about_59 sh_1 rfl inX10 (Nat.le_of_ble_eq_true rfl) lf_X11_67 rfl rfl ?_
    refine go_getI (k := 4) dX11_about_62 sh_2 rfl inX2 (Nat.le_of_ble_eq_true rfl) lf_X11_169 rfl ?_
    exact go_iret (S := []) dX11_about_65 rfl ⟨_, rfl, hF⟩
  rcases Decidable.em (a0 = 2) with hc2 | hc2
  · have hF := hF.2.2.1 hc2
    refine go_tabIn (off := 65) 66 dX11_about_1 (by rw [hc2]; decide) (by rw [hc2]; decide) (by rw [hc2]; rfl) rfl ?_
    refine go_aload_n dX11_about_66 rfl ?_
    refine go_getR (k := 0) (r := 1) dX11_about_67 sh_0 rfl inX11 (Nat.le_of_ble_eq_true rfl) lf_X11_10 rfl rfl ?_
    refine go_getI (k := 5) dX11_about_70 sh_1 rfl inX10 (Nat.le_of_ble_eq_true rfl) lf_X11_96 rfl ?_
    exact go_iret (S := []) dX11_about_73 rfl ⟨_, rfl, hF⟩
  rcases Decidable.em (a0 = 3) with hc3 | hc3
  · have hF := hF.2.2.2.1 hc3
    refine go_tabIn (off := 73) 74 dX11_about_1 (by rw [hc3]; decide) (by rw [hc3]; decide) (by rw [hc3]; rfl) rfl ?_
    refine go_aload_n dX11_about_74 rfl ?_
    refine go_getR (k := 0) (r := 1) dX11_about_75 sh_0 rfl inX11 (Nat.le_of_ble_eq_true rfl) lf_X11_10 rfl rfl ?_
    refine go_getI (k := 6) dX11_about_78 sh_1 rfl inX10 (Nat.le_of_ble_eq_true rfl) lf_X11_112 rfl ?_
    exact go_iret (S := []) dX11_about_81 rfl ⟨_, rfl, hF⟩
  rcases Decidable.em (a0 = 4) with hc4 | hc4
  · have hF := hF.2.2.2.2.1 hc4
    refine go_tabIn (off := 81) 82 dX11_about_1 (by rw [hc4]; decide) (by rw [hc4]; decide) (by rw [hc4]; rfl) rfl ?_
    refine go_aload_n dX11_about_82 rfl ?_
    refine go_getR (k := 0) (r := 1) dX11_about_83 sh_0 rfl inX11 (Nat.le_of_ble_eq_true rfl) lf_X11_10 rfl rfl ?_
    refine go_getR (k := 2) (r := 15) dX11_about_86 sh_1 rfl inX10 (Nat.le_of_ble_eq_true rfl) lf_X11_178 rfl rfl ?_
    refine go_getI (k := 0) dX11_about_89 sh_15 rfl inX6 (Nat.le_of_ble_eq_true rfl) lf_X11_371 rfl ?_
    exact go_iret (S := []) dX11_about_92 rfl ⟨_, rfl, hF⟩
  rcases Decidable.em (a0 = 5) with hc5 | hc5
  · have hF := hF.2.2.2.2.2.1 hc5
    refine go_tabIn (off := 92) 93 dX11_about_1 (by rw [hc5]; decide) (by rw [hc5]; decide) (by rw [hc5]; rfl) rfl ?_
    refine go_aload_n dX11_about_93 rfl ?_
    refine go_getR (k := 0) (r := 1) dX11_about_94 sh_0 rfl inX11 (Nat.le_of_ble_eq_true rfl) lf_X11_10 rfl rfl ?_
    refine go_getR (k := 3) (r := 107) dX11_about_97 sh_1 rfl inX10 (Nat.le_of_ble_eq_true rfl) lf_X11_274 rfl rfl ?_
    refine go_getI (k := 2) dX11_about_100 sh_107 rfl inX9 (Nat.le_of_ble_eq_true rfl) lf_X11_323 rfl ?_
    exact go_iret (S := []) dX11_about_103 rfl ⟨_, rfl, hF⟩
  rcases Decidable.em (a0 = 6) with hc6 | hc6
  · have hF := hF.2.2.2.2.2.2.1 hc6
    refine go_tabIn (off := 103) 104 dX11_about_1 (by rw [hc6]; decide) (by rw [hc6]; decide) (by rw [hc6]; rfl) rfl ?_
    refine go_aload_n dX11_about_104 rfl ?_
    refine go_getR (k := 3) (r := 228) dX11_about_105 sh_0 rfl inX11 (Nat.le_of_ble_eq_true rfl) lf_X11_28 rfl rfl ?_
    refine go_getI (k := 0) dX11_about_108 sh_228 rfl inX7 (Nat.le_of_ble_eq_true rfl) lf_X11_89 rfl ?_
    exact go_iret (S := []) dX11_about_111 rfl ⟨_, rfl, hF⟩
  have hF := hF.2.2.2.2.2.2.2 ⟨hc0, hc1, hc2, hc3, hc4, hc5, hc6⟩
  refine go_tabOut 112 dX11_about_1 (tab_out [0, 1, 2, 3, 4, 5, 6] 0 6 a0 (by decide) (by simp only [List.forall_mem_cons, List.not_mem_nil, false_implies, implies_true, and_true]; exact ⟨hc0, hc1, hc2, hc3, hc4, hc5, hc6⟩)) rfl ?_
  refine go_bipush (v := -2) dX11_about_112 (by decide) ?_
  exact go_iret (S := []) dX11_about_114 rfl ⟨_, rfl, hF⟩
theorem vX11_commonDivisor (G : GP) (d : Nat) (a0 : Int64) (a1 : Int64) (m : Mem) (K : Int64 → Mem → Prop) (hF : Gw G (d) mX11_commonDivisor 9 [.long a0, uu, .long a1, uu, .long a0, uu, .long a1, uu, .int 0, uu, uu] [] m (Ql K)) : Evl G (d) mX11_commonDivisor [.long a0, .long a1] m K := by
  refine Ev.go [.long a0, uu, .long a1, uu, uu, uu, uu, uu, uu, uu, uu] (by decide) (Nat.le_of_ble_eq_true rfl) rfl ?_
  refine go_lload_n dX11_commonDivisor_0 rfl ?_
  refine go_lstore (L' := [.long a0, uu, .long a1, uu, .long a0, uu, uu, uu, uu, uu, uu]) dX11_commonDivisor_1 (Nat.le_of_ble_eq_true rfl) rfl ?_
  refine go_lload_n dX11_commonDivisor_3 rfl ?_
  refine go_lstore (L' := [.long a0, uu, .long a1, uu, .long a0, uu, .long a1, uu, uu, uu, uu]) dX11_commonDivisor_4 (Nat.le_of_ble_eq_true rfl) rfl ?_
  refine go_iconst (v := 0) dX11_commonDivisor_6 (by decide) ?_
  refine go_istore (L' := [.long a0, uu, .long a1, uu, .long a0, uu, .long a1, uu, .int 0, uu, uu]) dX11_commonDivisor_7 (Nat.le_of_ble_eq_true rfl) rfl ?_
  exact hF
theorem vX11_commonDivisor_9 (G : GP) (d : Nat) (u0 : Value) (u1 : Value) (u2 : Value) (u3 : Value) (l4 : Int64) (u5 : Value) (l6 : Int64) (u7 : Value) (l8 : Int32) (u9 : Value) (u10 : Value) (m : Mem) (K : Int64 → Mem → Prop) (hF : ((100 ≤ l8) → K l4 m) ∧ ((¬ 100 ≤ l8) → (((lg_cmp l6 0) = 0) → K l4 m) ∧ ((¬ (lg_cmp l6 0) = 0) → ¬ l6 = 0 ∧ ∀ x1 : Int64, x1 = l4 - l4 / l6 * l6 → ∀ x2 : Int32, x2 = l8 + 1 → Gw G (d) mX11_commonDivisor 9 [uu, uu, uu, uu, .long l6, uu, .long x1, uu, .int x2, .long x1, uu] [] m (Ql K)))) : Gw G (d) mX11_commonDivisor 9 [u0, u1, u2, u3, .long l4, u5, .long l6, u7, .int l8, u9, u10] [] m (Ql K) := by
  refine Gw.weak (L' := [uu, uu, uu, uu, .long l4, uu, .long l6, uu, .int l8, uu, uu]) ⟨Or.inr rfl, Or.inr rfl, Or.inr rfl, Or.inr rfl, Or.inl rfl, Or.inr rfl, Or.inl rfl, Or.inr rfl, Or.inl rfl, Or.inr rfl, Or.inr rfl, trivial⟩ ?_
  refine go_iload dX11_commonDivisor_9 rfl ?_
  refine go_bipush (v := 100) dX11_commonDivisor_11 (by decide) ?_
  refine go_icmp_ge 44 dX11_commonDivisor_13 rfl ⟨fun hc => ?_, fun hc => ?_⟩
  · have hF := hF.1 hc
    refine go_lload dX11_commonDivisor_44 rfl ?_
    exact go_lret (S := []) dX11_commonDivisor_46 rfl ⟨_, rfl, hF⟩
  · have hF := hF.2 hc
    refine go_lload dX11_commonDivisor_16 rfl ?_
    refine go_lconst (v := 0) dX11_commonDivisor_18 (by decide) ?_
    refine go_lcmp dX11_commonDivisor_19 ?_
    refine go_if_eq 44 dX11_commonDivisor_20 rfl ⟨fun hc => ?_, fun hc => ?_⟩
    · have hF := hF.1 hc
      refine go_lload dX11_commonDivisor_44 rfl ?_
      exact go_lret (S := []) dX11_commonDivisor_46 rfl ⟨_, rfl, hF⟩
    · have hF := hF.2 hc
      refine go_lload dX11_commonDivisor_23 rfl ?_
      refine go_lload dX11_commonDivisor_25 rfl ?_
      obtain ⟨h0, hF⟩ := hF
      refine go_lrem dX11_commonDivisor_27 h0 ?_
      refine Gw.namel (fun x1 ex1 => ?_)
      have hF := hF x1 ex1
      refine go_lstore (L' := [uu, uu, uu, uu, .long l4, uu, .long l6, uu, .int l8, .long x1, uu]) dX11_commonDivisor_28 (Nat.le_of_ble_eq_true rfl) rfl ?_
      refine go_lload dX11_commonDivisor_30 rfl ?_
      refine go_lstore (L' := [uu, uu, uu, uu, .long l6, uu, .long l6, uu, .int l8, .long x1, uu]) dX11_commonDivisor_32 (Nat.le_of_ble_eq_true rfl) rfl ?_
      refine go_lload dX11_commonDivisor_34 rfl ?_
      refine go_lstore (L' := [uu, uu, uu, uu, .long l6, uu, .long x1, uu, .int l8, .long x1, uu]) dX11_commonDivisor_36 (Nat.le_of_ble_eq_true rfl) rfl ?_
      obtain ⟨x2, ex2⟩ : ∃ z : Int32, z = l8 + 1 := ⟨_, rfl⟩
      have hF := hF x2 ex2
      refine go_iinc (v := x2) (L' := [uu, uu, uu, uu, .long l6, uu, .long x1, uu, .int x2, .long x1, uu]) dX11_commonDivisor_38 rfl (by rw [ex2]; rfl) (Nat.le_of_ble_eq_true rfl) rfl ?_
      refine go_goto 9 dX11_commonDivisor_41 rfl ?_
      exact hF
