theorem vX1_forget (G : GP) (d : Nat)  (m : Mem) (K : Mem → Prop) (hF : Evv G (d) mJ7_fill_53178 [.ref (ga G 265), .int 0] m (fun m1 => K m1)) : Evv G (d + 1) mX1_forget [.ref (ga G 262)] m K := by
  refine Ev.go [.ref (ga G 262)] (by decide) (Nat.le_of_ble_eq_true rfl) rfl ?_
  refine go_aload_n dX1_forget_0 rfl ?_
  refine go_getR (k := 4) (r := 265) dX1_forget_1 sh_262 rfl inX1 (Nat.le_of_ble_eq_true rfl) lf_X1_22 rfl rfl ?_
  refine go_iconst (v := 0) dX1_forget_4 (by decide) ?_
  refine go_callS mJ7_fill_53178 dX1_forget_5 lm_X1_33 okJ7_fill_53178 isJ7_fill_53178 (As := [.ref (ga G 265), .int 0]) (S := []) rfl rfl (Nat.le_of_ble_eq_true rfl) hF (k_v (fun m1 hF => ?_))
  exact go_vret (S := []) dX1_forget_8 rfl ⟨rfl, hF⟩
theorem vX1_ruling (G : GP) (d : Nat)  (m : Mem) (K : Option Nat → Mem → Prop) (hF : ((0 ≤ (m.1 1 6) ∧ (m.1 1 6) < m.1 1 5) → vp_in (m.1 1 6) 4 ∧ ∀ t1 : Nat, t1 = 238 + 6 * (m.1 1 6).toNatClampNeg → K (some t1) m) ∧ (¬ (0 ≤ (m.1 1 6) ∧ (m.1 1 6) < m.1 1 5) → K none m)) : Evr G (d + 1) mX1_ruling [.ref (ga G 262)] m K := by
  refine Ev.go [.ref (ga G 262)] (by decide) (Nat.le_of_ble_eq_true rfl) rfl ?_
  refine go_aload_n dX1_ruling_0 rfl ?_
  refine go_getR (k := 0) (r := 1) dX1_ruling_1 sh_262 rfl inX1 (Nat.le_of_ble_eq_true rfl) lf_X1_25 rfl rfl ?_
  refine go_aload_n dX1_ruling_4 rfl ?_
  refine go_getR (k := 0) (r := 1) dX1_ruling_5 sh_262 rfl inX1 (Nat.le_of_ble_eq_true rfl) lf_X1_25 rfl rfl ?_
  refine go_getI (k := 6) dX1_ruling_8 sh_1 rfl inX10 (Nat.le_of_ble_eq_true rfl) lf_X1_39 rfl ?_
  rcases Classical.em (0 ≤ (m.1 1 6) ∧ (m.1 1 6) < m.1 1 5) with hp | hp
  · have hF := hF.1 hp
    refine go_callV mX10_hasText dX1_ruling_11 lm_X1_45 okX10_hasText isX10_hasText sh_1 rfl (As := [.int (m.1 1 6)]) (S := []) rfl rfl (Nat.le_of_ble_eq_true rfl) (eX10_hasText G _ (m.1 1 6) m (fun r m' => r = 1 ∧ m = m') ⟨fun _ => ⟨rfl, rfl⟩, fun q => absurd hp q⟩) (k_i (fun r m' hr => ?_))
    obtain ⟨hr1, hr2⟩ := hr
    subst hr1
    subst hr2
    refine go_if_eq 32 dX1_ruling_14 rfl ⟨fun hc => absurd hc (by decide), fun _ => ?_⟩
    refine go_aload_n dX1_ruling_17 rfl ?_
    refine go_getR (k := 1) (r := 227) dX1_ruling_18 sh_262 rfl inX1 (Nat.le_of_ble_eq_true rfl) lf_X1_29 rfl rfl ?_
    refine go_aload_n dX1_ruling_21 rfl ?_
    refine go_getR (k := 0) (r := 1) dX1_ruling_22 sh_262 rfl inX1 (Nat.le_of_ble_eq_true rfl) lf_X1_25 rfl rfl ?_
    refine go_getI (k := 6) dX1_ruling_25 sh_1 rfl inX10 (Nat.le_of_ble_eq_true rfl) lf_X1_39 rfl ?_
    obtain ⟨hi, hF⟩ := hF
    obtain ⟨t1, et1⟩ : ∃ z : Nat, z = 238 + 6 * (m.1 1 6).toNatClampNeg := ⟨_, rfl⟩
    have hF := hF t1 et1
    obtain ⟨gt1, ht1⟩ := tx_get hi et1
    refine go_aaldT dX1_ruling_28 sh_227 hi gt1 ?_
    refine go_goto 33 dX1_ruling_29 rfl ?_
    exact go_aret (S := []) dX1_ruling_33 rfl (Or.inr ⟨_, rfl⟩) ⟨some _, rfl, hF⟩
  · have hF := hF.2 hp
    refine go_callV mX10_hasText dX1_ruling_11 lm_X1_45 okX10_hasText isX10_hasText sh_1 rfl (As := [.int (m.1 1 6)]) (S := []) rfl rfl (Nat.le_of_ble_eq_true rfl) (eX10_hasText G _ (m.1 1 6) m (fun r m' => r = 0 ∧ m = m') ⟨fun q => absurd q hp, fun _ => ⟨rfl, rfl⟩⟩) (k_i (fun r m' hr => ?_))
    obtain ⟨hr1, hr2⟩ := hr
    subst hr1
    subst hr2
    refine go_if_eq 32 dX1_ruling_14 rfl ⟨fun _ => ?_, fun hc => absurd hc (by decide)⟩
    refine go_null dX1_ruling_32 ?_
    exact go_aret (S := []) dX1_ruling_33 rfl (Or.inl rfl) ⟨none, rfl, hF⟩
theorem vX1_hasGrammar (G : GP) (d : Nat)  (m : Mem) (K : Int32 → Mem → Prop) (hF : Evr G (d + 1) mX1_ruling [.ref (ga G 262)] m (fun r2 m1 => (r2 = none → K 0 m1) ∧ (∀ t3, r2 = some t3 → TxAt t3 ∧ vp_in 1 3 ∧ ((m1.1 (t3 + 4) (1 : Int32).toNatClampNeg < m1.1 (t3 + 5) (1 : Int32).toNatClampNeg) → K 1 m1) ∧ (¬ (m1.1 (t3 + 4) (1 : Int32).toNatClampNeg < m1.1 (t3 + 5) (1 : Int32).toNatClampNeg) → vp_in 2 3 ∧ ((m1.1 (t3 + 4) (2 : Int32).toNatClampNeg < m1.1 (t3 + 5) (2 : Int32).toNatClampNeg) → K 1 m1) ∧ (¬ (m1.1 (t3 + 4) (2 : Int32).toNatClampNeg < m1.1 (t3 + 5) (2 : Int32).toNatClampNeg) → K 0 m1))))) : Evi G (d + 2) mX1_hasGrammar [.ref (ga G 262)] m K := by
  refine Ev.go [.ref (ga G 262), uu] (by decide) (Nat.le_of_ble_eq_true rfl) rfl ?_
  refine go_aload_n dX1_hasGrammar_0 rfl ?_
  refine go_callV mX1_ruling dX1_hasGrammar_1 lm_X1_49 okX1_ruling isX1_ruling sh_262 rfl (As := []) (S := []) rfl rfl (Nat.le_of_ble_eq_true rfl) hF (k_r (fun m1 hF => ?_) (fun t3 m1 hF => ?_))
  · have hF := hF.1 rfl
    refine go_nstore_n (L' := [.ref (ga G 262), .null]) dX1_hasGrammar_4 (Nat.le_of_ble_eq_true rfl) rfl ?_
    refine go_nload_n dX1_hasGrammar_5 rfl ?_
    refine go_ifnullN 29 dX1_hasGrammar_6 rfl ?_
    refine go_iconst (v := 0) dX1_hasGrammar_29 (by decide) ?_
    exact go_zret (S := []) dX1_hasGrammar_30 rfl (by decide) ⟨_, rfl, hF⟩
  · obtain ⟨ht3, hF⟩ := hF.2 t3 rfl
    refine go_astore_n (L' := [.ref (ga G 262), .ref (ga G t3)]) dX1_hasGrammar_4 (Nat.le_of_ble_eq_true rfl) rfl ?_
    refine go_aload_n dX1_hasGrammar_5 rfl ?_
    refine go_ifnullR dX1_hasGrammar_6 ?_
    refine go_aload_n dX1_hasGrammar_9 rfl ?_
    refine go_iconst (v := 1) dX1_hasGrammar_10 (by decide) ?_
    obtain ⟨ho, hF⟩ := hF
    rcases Classical.em (m1.1 (t3 + 4) (1 : Int32).toNatClampNeg < m1.1 (t3 + 5) (1 : Int32).toNatClampNeg) with hp | hp
    · have hF := hF.1 hp
      refine go_callV mX8_hasLaw dX1_hasGrammar_11 lm_X1_54 okX8_hasLaw isX8_hasLaw ht3.1 rfl (As := [.int 1]) (S := []) rfl rfl (Nat.le_of_ble_eq_true rfl) (eX8_hasLaw G _ t3 ht3 1 m1 (fun r m' => r = 1 ∧ m1 = m') ho ⟨fun _ => ⟨rfl, rfl⟩, fun q => absurd hp q⟩) (k_i (fun r m' hr => ?_))
      obtain ⟨hr1, hr2⟩ := hr
      subst hr1
      subst hr2
      refine go_if_ne 25 dX1_hasGrammar_14 rfl ⟨fun _ => ?_, fun hc => absurd hc (by decide)⟩
      refine go_iconst (v := 1) dX1_hasGrammar_25 (by decide) ?_
      refine go_goto 30 dX1_hasGrammar_26 rfl ?_
      exact go_zret (S := []) dX1_hasGrammar_30 rfl (by decide) ⟨_, rfl, hF⟩
    · have hF := hF.2 hp
      refine go_callV mX8_hasLaw dX1_hasGrammar_11 lm_X1_54 okX8_hasLaw isX8_hasLaw ht3.1 rfl (As := [.int 1]) (S := []) rfl rfl (Nat.le_of_ble_eq_true rfl) (eX8_hasLaw G _ t3 ht3 1 m1 (fun r m' => r = 0 ∧ m1 = m') ho ⟨fun q => absurd q hp, fun _ => ⟨rfl, rfl⟩⟩) (k_i (fun r m' hr => ?_))
      obtain ⟨hr1, hr2⟩ := hr
      subst hr1
      subst hr2
      refine go_if_ne 25 dX1_hasGrammar_14 rfl ⟨fun hc => absurd hc (by decide), fun _ => ?_⟩
      refine go_aload_n dX1_hasGrammar_17 rfl ?_
      refine go_iconst (v := 2) dX1_hasGrammar_18 (by decide) ?_
      obtain ⟨ho, hF⟩ := hF
      rcases Classical.em (m1.1 (t3 + 4) (2 : Int32).toNatClampNeg < m1.1 (t3 + 5) (2 : Int32).toNatClampNeg) with hp | hp
      · have hF := hF.1 hp
        refine go_callV mX8_hasLaw dX1_hasGrammar_19 lm_X1_54 okX8_hasLaw isX8_hasLaw ht3.1 rfl (As := [.int 2]) (S := []) rfl rfl (Nat.le_of_ble_eq_true rfl) (eX8_hasLaw G _ t3 ht3 2 m1 (fun r m' => r = 1 ∧ m1 = m') ho ⟨fun _ => ⟨rfl, rfl⟩, fun q => absurd hp q⟩) (k_i (fun r m' hr => ?_))
        obtain ⟨hr1, hr2⟩ := hr
        subst hr1
        subst hr2
        refine go_if_eq 29 dX1_hasGrammar_22 rfl ⟨fun hc => absurd hc (by decide), fun _ => ?_⟩
        refine go_iconst (v := 1) dX1_hasGrammar_25 (by decide) ?_
        refine go_goto 30 dX1_hasGrammar_26 rfl ?_
        exact go_zret (S := []) dX1_hasGrammar_30 rfl (by decide) ⟨_, rfl, hF⟩
      · have hF := hF.2 hp
        refine go_callV mX8_hasLaw dX1_hasGrammar_19 lm_X1_54 okX8_hasLaw isX8_hasLaw ht3.1 rfl (As := [.int 2]) (S := []) rfl rfl (Nat.le_of_ble_eq_true rfl) (eX8_hasLaw G _ t3 ht3 2 m1 (fun r m' => r = 0 ∧ m1 = m') ho ⟨fun q => absurd q hp, fun _ => ⟨rfl, rfl⟩⟩) (k_i (fun r m' hr => ?_))
        obtain ⟨hr1, hr2⟩ := hr
        subst hr1
        subst hr2
        refine go_if_eq 29 dX1_hasGrammar_22 rfl ⟨fun _ => ?_, fun hc => absurd hc (by decide)⟩
        refine go_iconst (v := 0) dX1_hasGrammar_29 (by decide) ?_
        exact go_zret (S := []) dX1_hasGrammar_30 rfl (by decide) ⟨_, rfl, hF⟩
theorem vX1_getsOver (G : GP) (d : Nat) (a0 : Int32) (a1 : Int32) (a2 : Int32) (m : Mem) (K : Int32 → Mem → Prop) (hF : ((0 ≤ a0 ∧ a0 < m.1 2 0) → Evr G (d + 2) mX1_ruling [.ref (ga G 262)] m (fun r2 m1 => (r2 = none → vp_in a0 6 ∧ (((m1.1 3 a0.toNatClampNeg) ≤ (a2 - (m1.1 12 1))) → K 0 m1) ∧ ((¬ (m1.1 3 a0.toNatClampNeg) ≤ (a2 - (m1.1 12 1))) → K 1 m1)) ∧ (∀ t3, r2 = some t3 → TxAt t3 ∧ vp_in 0 3 ∧ ((m1.1 (t3 + 4) (0 : Int32).toNatClampNeg < m1.1 (t3 + 5) (0 : Int32).toNatClampNeg) → vp_in a0 6 ∧ Evv G (d + 2) mX1_name [.ref (ga G 262), .int 117, .int (m1.1 3 a0.toNatClampNeg)] m1 (fun m4 => vp_in a0 6 ∧ Evv G (d + 2) mX1_name [.ref (ga G 262), .int 111, .int (m4.1 4 a0.toNatClampNeg)] m4 (fun m5 => vp_in a0 6 ∧ Evv G (d + 2) mX1_name [.ref (ga G 262), .int 112, .int (m5.1 5 a0.toNatClampNeg)] m5 (fun m6 => Evv G (d + 2) mX1_name [.ref (ga G 262), .int 107, .int a2] m6 (fun m7 => Evv G (d + 2) mX1_name [.ref (ga G 262), .int 108, .int (m7.1 12 1)] m7 (fun m8 => Evv G (d + 2) mX1_name [.ref (ga G 262), .int 109, .int (m8.1 12 2)] m8 (fun m9 => Evv G (d + 2) mX1_name [.ref (ga G 262), .int 118, .int a1] m9 (fun m10 => Evv G (d + 2) mX1_name [.ref (ga G 262), .int 103, .int a0] m10 (fun m11 => Evi G (d + 2) mX1_says [.ref (ga G 262), .ref (ga G t3), .int 0] m11 (fun r13 m12 => (r13 = 0 ∨ r13 = 1) ∧ K r13 m12)))))))))) ∧ (¬ (m1.1 (t3 + 4) (0 : Int32).toNatClampNeg < m1.1 (t3 + 5) (0 : Int32).toNatClampNeg) → vp_in a0 6 ∧ (((m1.1 3 a0.toNatClampNeg) ≤ (a2 - (m1.1 12 1))) → K 0 m1) ∧ ((¬ (m1.1 3 a0.toNatClampNeg) ≤ (a2 - (m1.1 12 1))) → K 1 m1))))) ∧ (¬ (0 ≤ a0 ∧ a0 < m.1 2 0) → K 0 m)) : Evi G (d + 3) mX1_getsOver [.ref (ga G 262), .int a0, .int a1, .int a2] m K := by
  refine Ev.go [.ref (ga G 262), .int a0, .int a1, .int a2, uu, uu] (by decide) (Nat.le_of_ble_eq_true rfl) rfl ?_
  refine go_aload_n dX1_getsOver_0 rfl ?_
  refine go_getR (k := 0) (r := 1) dX1_getsOver_1 sh_262 rfl inX1 (Nat.le_of_ble_eq_true rfl) lf_X1_25 rfl rfl ?_
  refine go_getR (k := 0) (r := 2) dX1_getsOver_4 sh_1 rfl inX10 (Nat.le_of_ble_eq_true rfl) lf_X1_57 rfl rfl ?_
  refine go_astore (L' := [.ref (ga G 262), .int a0, .int a1, .int a2, .ref (ga G 2), uu]) dX1_getsOver_7 (Nat.le_of_ble_eq_true rfl) rfl ?_
  refine go_aload dX1_getsOver_9 rfl ?_
  refine go_iload_n dX1_getsOver_11 rfl ?_
  rcases Classical.em (0 ≤ a0 ∧ a0 < m.1 2 0) with hp | hp
  · have hF := hF.1 hp
    refine go_callV mX2_hasBell dX1_getsOver_12 lm_X1_61 okX2_hasBell isX2_hasBell sh_2 rfl (As := [.int a0]) (S := []) rfl rfl (Nat.le_of_ble_eq_true rfl) (eX2_hasBell G _ a0 m (fun r m' => r = 1 ∧ m = m') ⟨fun _ => ⟨rfl, rfl⟩, fun q => absurd hp q⟩) (k_i (fun r m' hr => ?_))
    obtain ⟨hr1, hr2⟩ := hr
    subst hr1
    subst hr2
    refine go_if_ne 20 dX1_getsOver_15 rfl ⟨fun _ => ?_, fun hc => absurd hc (by decide)⟩
    refine go_aload_n dX1_getsOver_20 rfl ?_
    refine go_callV mX1_ruling dX1_getsOver_21 lm_X1_49 okX1_ruling isX1_ruling sh_262 rfl (As := []) (S := []) rfl rfl (Nat.le_of_ble_eq_true rfl) hF (k_r (fun m1 hF => ?_) (fun t3 m1 hF => ?_))
    · have hF := hF.1 rfl
      refine go_nstore (L' := [.ref (ga G 262), .int a0, .int a1, .int a2, .ref (ga G 2), .null]) dX1_getsOver_24 (Nat.le_of_ble_eq_true rfl) rfl ?_
      refine go_nload dX1_getsOver_26 rfl ?_
      refine go_ifnullN 40 dX1_getsOver_28 rfl ?_
      refine go_aload dX1_getsOver_40 rfl ?_
      refine go_getR (k := 1) (r := 3) dX1_getsOver_42 sh_2 rfl inX2 (Nat.le_of_ble_eq_true rfl) lf_X1_66 rfl rfl ?_
      refine go_iload_n dX1_getsOver_45 rfl ?_
      obtain ⟨hi, hF⟩ := hF
      refine go_iald dX1_getsOver_46 sh_3 hi ?_
      refine go_iload_n dX1_getsOver_47 rfl ?_
      refine go_aload_n dX1_getsOver_48 rfl ?_
      refine go_getR (k := 0) (r := 1) dX1_getsOver_49 sh_262 rfl inX1 (Nat.le_of_ble_eq_true rfl) lf_X1_25 rfl rfl ?_
      refine go_getR (k := 1) (r := 12) dX1_getsOver_52 sh_1 rfl inX10 (Nat.le_of_ble_eq_true rfl) lf_X1_69 rfl rfl ?_
      refine go_getI (k := 1) dX1_getsOver_55 sh_12 rfl inX5 (Nat.le_of_ble_eq_true rfl) lf_X1_73 rfl ?_
      refine go_isub dX1_getsOver_58 ?_
      refine go_icmp_le 66 dX1_getsOver_59 rfl ⟨fun hc => ?_, fun hc => ?_⟩
      · have hF := hF.1 hc
        refine go_iconst (v := 0) dX1_getsOver_66 (by decide) ?_
        exact go_zret (S := []) dX1_getsOver_67 rfl (by decide) ⟨_, rfl, hF⟩
      · have hF := hF.2 hc
        refine go_iconst (v := 1) dX1_getsOver_62 (by decide) ?_
        refine go_goto 67 dX1_getsOver_63 rfl ?_
        exact go_zret (S := []) dX1_getsOver_67 rfl (by decide) ⟨_, rfl, hF⟩
    · obtain ⟨ht3, hF⟩ := hF.2 t3 rfl
      refine go_astore (L' := [.ref (ga G 262), .int a0, .int a1, .int a2, .ref (ga G 2), .ref (ga G t3)]) dX1_getsOver_24 (Nat.le_of_ble_eq_true rfl) rfl ?_
      refine go_aload dX1_getsOver_26 rfl ?_
      refine go_ifnullR dX1_getsOver_28 ?_
      refine go_aload dX1_getsOver_31 rfl ?_
      refine go_iconst (v := 0) dX1_getsOver_33 (by decide) ?_
      obtain ⟨ho, hF⟩ := hF
      rcases Classical.em (m1.1 (t3 + 4) (0 : Int32).toNatClampNeg < m1.1 (t3 + 5) (0 : Int32).toNatClampNeg) with hp | hp
      · have hF := hF.1 hp
        refine go_callV mX8_hasLaw dX1_getsOver_34 lm_X1_54 okX8_hasLaw isX8_hasLaw ht3.1 rfl (As := [.int 0]) (S := []) rfl rfl (Nat.le_of_ble_eq_true rfl) (eX8_hasLaw G _ t3 ht3 0 m1 (fun r m' => r = 1 ∧ m1 = m') ho ⟨fun _ => ⟨rfl, rfl⟩, fun q => absurd hp q⟩) (k_i (fun r m' hr => ?_))
        obtain ⟨hr1, hr2⟩ := hr
        subst hr1
        subst hr2
        refine go_if_ne 68 dX1_getsOver_37 rfl ⟨fun _ => ?_, fun hc => absurd hc (by decide)⟩
        refine go_aload_n dX1_getsOver_68 rfl ?_
        refine go_bipush (v := 117) dX1_getsOver_69 (by decide) ?_
        refine go_aload dX1_getsOver_71 rfl ?_
        refine go_getR (k := 1) (r := 3) dX1_getsOver_73 sh_2 rfl inX2 (Nat.le_of_ble_eq_true rfl) lf_X1_66 rfl rfl ?_
        refine go_iload_n dX1_getsOver_76 rfl ?_
        obtain ⟨hi, hF⟩ := hF
        refine go_iald dX1_getsOver_77 sh_3 hi ?_
        refine go_callV mX1_name dX1_getsOver_78 lm_X1_78 okX1_name isX1_name sh_262 rfl (As := [.int 117, .int (m1.1 3 a0.toNatClampNeg)]) (S := []) rfl rfl (Nat.le_of_ble_eq_true rfl) hF (k_v (fun m4 hF => ?_))
        refine go_aload_n dX1_getsOver_81 rfl ?_
        refine go_bipush (v := 111) dX1_getsOver_82 (by decide) ?_
        refine go_aload dX1_getsOver_84 rfl ?_
        refine go_getR (k := 2) (r := 4) dX1_getsOver_86 sh_2 rfl inX2 (Nat.le_of_ble_eq_true rfl) lf_X1_82 rfl rfl ?_
        refine go_iload_n dX1_getsOver_89 rfl ?_
        obtain ⟨hi, hF⟩ := hF
        refine go_iald dX1_getsOver_90 sh_4 hi ?_
        refine go_callV mX1_name dX1_getsOver_91 lm_X1_78 okX1_name isX1_name sh_262 rfl (As := [.int 111, .int (m4.1 4 a0.toNatClampNeg)]) (S := []) rfl rfl (Nat.le_of_ble_eq_true rfl) hF (k_v (fun m5 hF => ?_))
        refine go_aload_n dX1_getsOver_94 rfl ?_
        refine go_bipush (v := 112) dX1_getsOver_95 (by decide) ?_
        refine go_aload dX1_getsOver_97 rfl ?_
        refine go_getR (k := 3) (r := 5) dX1_getsOver_99 sh_2 rfl inX2 (Nat.le_of_ble_eq_true rfl) lf_X1_85 rfl rfl ?_
        refine go_iload_n dX1_getsOver_102 rfl ?_
        obtain ⟨hi, hF⟩ := hF
        refine go_iald dX1_getsOver_103 sh_5 hi ?_
        refine go_callV mX1_name dX1_getsOver_104 lm_X1_78 okX1_name isX1_name sh_262 rfl (As := [.int 112, .int (m5.1 5 a0.toNatClampNeg)]) (S := []) rfl rfl (Nat.le_of_ble_eq_true rfl) hF (k_v (fun m6 hF => ?_))
        refine go_aload_n dX1_getsOver_107 rfl ?_
        refine go_bipush (v := 107) dX1_getsOver_108 (by decide) ?_
        refine go_iload_n dX1_getsOver_110 rfl ?_
        refine go_callV mX1_name dX1_getsOver_111 lm_X1_78 okX1_name isX1_name sh_262 rfl (As := [.int 107, .int a2]) (S := []) rfl rfl (Nat.le_of_ble_eq_true rfl) hF (k_v (fun m7 hF => ?_))
        refine go_aload_n dX1_getsOver_114 rfl ?_
        refine go_bipush (v := 108) dX1_getsOver_115 (by decide) ?_
        refine go_aload_n dX1_getsOver_117 rfl ?_
        refine go_getR (k := 0) (r := 1) dX1_getsOver_118 sh_262 rfl inX1 (Nat.le_of_ble_eq_true rfl) lf_X1_25 rfl rfl ?_
        refine go_getR (k := 1) (r := 12) dX1_getsOver_121 sh_1 rfl inX10 (Nat.le_of_ble_eq_true rfl) lf_X1_69 rfl rfl ?_
        refine go_getI (k := 1) dX1_getsOver_124 sh_12 rfl inX5 (Nat.le_of_ble_eq_true rfl) lf_X1_73 rfl ?_
        refine go_callV mX1_name dX1_getsOver_127 lm_X1_78 okX1_name isX1_name sh_262 rfl (As := [.int 108, .int (m7.1 12 1)]) (S := []) rfl rfl (Nat.le_of_ble_eq_true rfl) hF (k_v (fun m8 hF => ?_))
        refine go_aload_n dX1_getsOver_130 rfl ?_
        refine go_bipush (v := 109) dX1_getsOver_131 (by decide) ?_
        refine go_aload_n dX1_getsOver_133 rfl ?_
        refine go_getR (k := 0) (r := 1) dX1_getsOver_134 sh_262 rfl inX1 (Nat.le_of_ble_eq_true rfl) lf_X1_25 rfl rfl ?_
        refine go_getR (k := 1) (r := 12) dX1_getsOver_137 sh_1 rfl inX10 (Nat.le_of_ble_eq_true rfl) lf_X1_69 rfl rfl ?_
        refine go_getI (k := 2) dX1_getsOver_140 sh_12 rfl inX5 (Nat.le_of_ble_eq_true rfl) lf_X1_88 rfl ?_
        refine go_callV mX1_name dX1_getsOver_143 lm_X1_78 okX1_name isX1_name sh_262 rfl (As := [.int 109, .int (m8.1 12 2)]) (S := []) rfl rfl (Nat.le_of_ble_eq_true rfl) hF (k_v (fun m9 hF => ?_))
        refine go_aload_n dX1_getsOver_146 rfl ?_
        refine go_bipush (v := 118) dX1_getsOver_147 (by decide) ?_
        refine go_iload_n dX1_getsOver_149 rfl ?_
        refine go_callV mX1_name dX1_getsOver_150 lm_X1_78 okX1_name isX1_name sh_262 rfl (As := [.int 118, .int a1]) (S := []) rfl rfl (Nat.le_of_ble_eq_true rfl) hF (k_v (fun m10 hF => ?_))
        refine go_aload_n dX1_getsOver_153 rfl ?_
        refine go_bipush (v := 103) dX1_getsOver_154 (by decide) ?_
        refine go_iload_n dX1_getsOver_156 rfl ?_
        refine go_callV mX1_name dX1_getsOver_157 lm_X1_78 okX1_name isX1_name sh_262 rfl (As := [.int 103, .int a0]) (S := []) rfl rfl (Nat.le_of_ble_eq_true rfl) hF (k_v (fun m11 hF => ?_))
        refine go_aload_n dX1_getsOver_160 rfl ?_
        refine go_aload dX1_getsOver_161 rfl ?_
        refine go_iconst (v := 0) dX1_getsOver_163 (by decide) ?_
        refine go_callV mX1_says dX1_getsOver_164 lm_X1_91 okX1_says isX1_says sh_262 rfl (As := [.ref (ga G t3), .int 0]) (S := []) rfl rfl (Nat.le_of_ble_eq_true rfl) hF (k_i (fun r13 m12 hF => ?_))
        exact go_zret (S := []) dX1_getsOver_167 rfl hF.1 ⟨_, rfl, hF.2⟩
      · have hF := hF.2 hp
        refine go_callV mX8_hasLaw dX1_getsOver_34 lm_X1_54 okX8_hasLaw isX8_hasLaw ht3.1 rfl (As := [.int 0]) (S := []) rfl rfl (Nat.le_of_ble_eq_true rfl) (eX8_hasLaw G _ t3 ht3 0 m1 (fun r m' => r = 0 ∧ m1 = m') ho ⟨fun q => absurd q hp, fun _ => ⟨rfl, rfl⟩⟩) (k_i (fun r m' hr => ?_))
        obtain ⟨hr1, hr2⟩ := hr
        subst hr1
        subst hr2
        refine go_if_ne 68 dX1_getsOver_37 rfl ⟨fun hc => absurd hc (by decide), fun _ => ?_⟩
        refine go_aload dX1_getsOver_40 rfl ?_
        refine go_getR (k := 1) (r := 3) dX1_getsOver_42 sh_2 rfl inX2 (Nat.le_of_ble_eq_true rfl) lf_X1_66 rfl rfl ?_
        refine go_iload_n dX1_getsOver_45 rfl ?_
        obtain ⟨hi, hF⟩ := hF
        refine go_iald dX1_getsOver_46 sh_3 hi ?_
        refine go_iload_n dX1_getsOver_47 rfl ?_
        refine go_aload_n dX1_getsOver_48 rfl ?_
        refine go_getR (k := 0) (r := 1) dX1_getsOver_49 sh_262 rfl inX1 (Nat.le_of_ble_eq_true rfl) lf_X1_25 rfl rfl ?_
        refine go_getR (k := 1) (r := 12) dX1_getsOver_52 sh_1 rfl inX10 (Nat.le_of_ble_eq_true rfl) lf_X1_69 rfl rfl ?_
        refine go_getI (k := 1) dX1_getsOver_55 sh_12 rfl inX5 (Nat.le_of_ble_eq_true rfl) lf_X1_73 rfl ?_
        refine go_isub dX1_getsOver_58 ?_
        refine go_icmp_le 66 dX1_getsOver_59 rfl ⟨fun hc => ?_, fun hc => ?_⟩
        · have hF := hF.1 hc
          refine go_iconst (v := 0) dX1_getsOver_66 (by decide) ?_
          exact go_zret (S := []) dX1_getsOver_67 rfl (by decide) ⟨_, rfl, hF⟩
        · have hF := hF.2 hc
          refine go_iconst (v := 1) dX1_getsOver_62 (by decide) ?_
          refine go_goto 67 dX1_getsOver_63 rfl ?_
          exact go_zret (S := []) dX1_getsOver_67 rfl (by decide) ⟨_, rfl, hF⟩
  · have hF := hF.2 hp
    refine go_callV mX2_hasBell dX1_getsOver_12 lm_X1_61 okX2_hasBell isX2_hasBell sh_2 rfl (As := [.int a0]) (S := []) rfl rfl (Nat.le_of_ble_eq_true rfl) (eX2_hasBell G _ a0 m (fun r m' => r = 0 ∧ m = m') ⟨fun q => absurd q hp, fun _ => ⟨rfl, rfl⟩⟩) (k_i (fun r m' hr => ?_))
    obtain ⟨hr1, hr2⟩ := hr
    subst hr1
    subst hr2
    refine go_if_ne 20 dX1_getsOver_15 rfl ⟨fun hc => absurd hc (by decide), fun _ => ?_⟩
    refine go_iconst (v := 0) dX1_getsOver_18 (by decide) ?_
    exact go_zret (S := []) dX1_getsOver_19 rfl (by decide) ⟨_, rfl, hF⟩
theorem vX1_mayStand (G : GP) (d : Nat) (a0 : Int32) (a1 : Int32) (a2 : Int32) (m : Mem) (K : Int32 → Mem → Prop) (hF : Evr G (d + 2) mX1_ruling [.ref (ga G 262)] m (fun r2 m1 => (r2 = none → ((¬ a0 = (-1)) → K 1 m1) ∧ ((a0 = (-1)) → K 1 m1)) ∧ (∀ t3, r2 = some t3 → TxAt t3 ∧ ((¬ a0 = (-1)) → vp_in 1 3 ∧ ((m1.1 (t3 + 4) (1 : Int32).toNatClampNeg < m1.1 (t3 + 5) (1 : Int32).toNatClampNeg) → ((¬ a0 = (-1)) → (((m1.1 t3 4) = 0) → ∀ x4 : Int32, x4 = imin a2 1 → ∀ x5 : Int32, x5 = (((x4 * 10) + a0) * 10) + a1 → ((x5 < 0) → K 0 m1) ∧ ((¬ x5 < 0) → ((x5 < 2400) → vp_in x5 2400 ∧ ((¬ (m1.1 265 x5.toNatClampNeg) = 0) → vp_in x5 2400 ∧ ((¬ (m1.1 265 x5.toNatClampNeg) = 1) → K 0 m1) ∧ (((m1.1 265 x5.toNatClampNeg) = 1) → K 1 m1)) ∧ (((m1.1 265 x5.toNatClampNeg) = 0) → Evv G (d + 2) mX1_namePair [.ref (ga G 262), .int a0, .int a1, .int a2] m1 (fun m6 => Evi G (d + 2) mX1_says [.ref (ga G 262), .ref (ga G t3), .int 1] m6 (fun r8 m7 => ((r8 = 0) → vp_in x5 2400 ∧ ∀ m9 : Mem, m9 = wI m7 265 x5.toNatClampNeg 2 → vp_in x5 2400 ∧ ((¬ (m9.1 265 x5.toNatClampNeg) = 1) → K 0 m9) ∧ (((m9.1 265 x5.toNatClampNeg) = 1) → K 1 m9)) ∧ ((¬ r8 = 0) → vp_in x5 2400 ∧ ∀ m10 : Mem, m10 = wI m7 265 x5.toNatClampNeg 1 → vp_in x5 2400 ∧ ((¬ (m10.1 265 x5.toNatClampNeg) = 1) → K 0 m10) ∧ (((m10.1 265 x5.toNatClampNeg) = 1) → K 1 m10)))))) ∧ ((¬ x5 < 2400) → K 0 m1))) ∧ ((¬ (m1.1 t3 4) = 0) → ∀ x11 : Int32, x11 = (((a2 * 10) + a0) * 10) + a1 → ((x11 < 0) → K 0 m1) ∧ ((¬ x11 < 0) → ((x11 < 2400) → vp_in x11 2400 ∧ ((¬ (m1.1 265 x11.toNatClampNeg) = 0) → vp_in x11 2400 ∧ ((¬ (m1.1 265 x11.toNatClampNeg) = 1) → K 0 m1) ∧ (((m1.1 265 x11.toNatClampNeg) = 1) → K 1 m1)) ∧ (((m1.1 265 x11.toNatClampNeg) = 0) → Evv G (d + 2) mX1_namePair [.ref (ga G 262), .int a0, .int a1, .int a2] m1 (fun m12 => Evi G (d + 2) mX1_says [.ref (ga G 262), .ref (ga G t3), .int 1] m12 (fun r14 m13 => ((r14 = 0) → vp_in x11 2400 ∧ ∀ m15 : Mem, m15 = wI m13 265 x11.toNatClampNeg 2 → vp_in x11 2400 ∧ ((¬ (m15.1 265 x11.toNatClampNeg) = 1) → K 0 m15) ∧ (((m15.1 265 x11.toNatClampNeg) = 1) → K 1 m15)) ∧ ((¬ r14 = 0) → vp_in x11 2400 ∧ ∀ m16 : Mem, m16 = wI m13 265 x11.toNatClampNeg 1 → vp_in x11 2400 ∧ ((¬ (m16.1 265 x11.toNatClampNeg) = 1) → K 0 m16) ∧ (((m16.1 265 x11.toNatClampNeg) = 1) → K 1 m16)))))) ∧ ((¬ x11 < 2400) → K 0 m1)))) ∧ ((a0 = (-1)) → (((m1.1 t3 4) = 0) → ∀ x17 : Int32, x17 = imin a2 1 → ∀ x18 : Int32, x18 = (((x17 * 10) + a1) * 10) + a1 → ((x18 < 0) → K 0 m1) ∧ ((¬ x18 < 0) → ((x18 < 2400) → vp_in x18 2400 ∧ ((¬ (m1.1 265 x18.toNatClampNeg) = 0) → vp_in x18 2400 ∧ ((¬ (m1.1 265 x18.toNatClampNeg) = 1) → K 0 m1) ∧ (((m1.1 265 x18.toNatClampNeg) = 1) → K 1 m1)) ∧ (((m1.1 265 x18.toNatClampNeg) = 0) → Evv G (d + 2) mX1_namePair [.ref (ga G 262), .int a1, .int a1, .int a2] m1 (fun m19 => Evi G (d + 2) mX1_says [.ref (ga G 262), .ref (ga G t3), .int 1] m19 (fun r21 m20 => ((r21 = 0) → vp_in x18 2400 ∧ ∀ m22 : Mem, m22 = wI m20 265 x18.toNatClampNeg 2 → vp_in x18 2400 ∧ ((¬ (m22.1 265 x18.toNatClampNeg) = 1) → K 0 m22) ∧ (((m22.1 265 x18.toNatClampNeg) = 1) → K 1 m22)) ∧ ((¬ r21 = 0) → vp_in x18 2400 ∧ ∀ m23 : Mem, m23 = wI m20 265 x18.toNatClampNeg 1 → vp_in x18 2400 ∧ ((¬ (m23.1 265 x18.toNatClampNeg) = 1) → K 0 m23) ∧ (((m23.1 265 x18.toNatClampNeg) = 1) → K 1 m23)))))) ∧ ((¬ x18 < 2400) → K 0 m1))) ∧ ((¬ (m1.1 t3 4) = 0) → ∀ x24 : Int32, x24 = (((a2 * 10) + a1) * 10) + a1 → ((x24 < 0) → K 0 m1) ∧ ((¬ x24 < 0) → ((x24 < 2400) → vp_in x24 2400 ∧ ((¬ (m1.1 265 x24.toNatClampNeg) = 0) → vp_in x24 2400 ∧ ((¬ (m1.1 265 x24.toNatClampNeg) = 1) → K 0 m1) ∧ (((m1.1 265 x24.toNatClampNeg) = 1) → K 1 m1)) ∧ (((m1.1 265 x24.toNatClampNeg) = 0) → Evv G (d + 2) mX1_namePair [.ref (ga G 262), .int a1, .int a1, .int a2] m1 (fun m25 => Evi G (d + 2) mX1_says [.ref (ga G 262), .ref (ga G t3), .int 1] m25 (fun r27 m26 => ((r27 = 0) → vp_in x24 2400 ∧ ∀ m28 : Mem, m28 = wI m26 265 x24.toNatClampNeg 2 → vp_in x24 2400 ∧ ((¬ (m28.1 265 x24.toNatClampNeg) = 1) → K 0 m28) ∧ (((m28.1 265 x24.toNatClampNeg) = 1) → K 1 m28)) ∧ ((¬ r27 = 0) → vp_in x24 2400 ∧ ∀ m29 : Mem, m29 = wI m26 265 x24.toNatClampNeg 1 → vp_in x24 2400 ∧ ((¬ (m29.1 265 x24.toNatClampNeg) = 1) → K 0 m29) ∧ (((m29.1 265 x24.toNatClampNeg) = 1) → K 1 m29)))))) ∧ ((¬ x24 < 2400) → K 0 m1))))) ∧ (¬ (m1.1 (t3 + 4) (1 : Int32).toNatClampNeg < m1.1 (t3 + 5) (1 : Int32).toNatClampNeg) → K 1 m1)) ∧ ((a0 = (-1)) → vp_in 2 3 ∧ ((m1.1 (t3 + 4) (2 : Int32).toNatClampNeg < m1.1 (t3 + 5) (2 : Int32).toNatClampNeg) → ((¬ a0 = (-1)) → (((m1.1 t3 4) = 0) → ∀ x30 : Int32, x30 = imin a2 1 → ∀ x31 : Int32, x31 = (((x30 * 10) + a0) * 10) + a1 → ((x31 < 0) → K 0 m1) ∧ ((¬ x31 < 0) → ((x31 < 2400) → vp_in x31 2400 ∧ ((¬ (m1.1 265 x31.toNatClampNeg) = 0) → vp_in x31 2400 ∧ ((¬ (m1.1 265 x31.toNatClampNeg) = 1) → K 0 m1) ∧ (((m1.1 265 x31.toNatClampNeg) = 1) → K 1 m1)) ∧ (((m1.1 265 x31.toNatClampNeg) = 0) → Evv G (d + 2) mX1_namePair [.ref (ga G 262), .int a0, .int a1, .int a2] m1 (fun m32 => Evi G (d + 2) mX1_says [.ref (ga G 262), .ref (ga G t3), .int 2] m32 (fun r34 m33 => ((r34 = 0) → vp_in x31 2400 ∧ ∀ m35 : Mem, m35 = wI m33 265 x31.toNatClampNeg 2 → vp_in x31 2400 ∧ ((¬ (m35.1 265 x31.toNatClampNeg) = 1) → K 0 m35) ∧ (((m35.1 265 x31.toNatClampNeg) = 1) → K 1 m35)) ∧ ((¬ r34 = 0) → vp_in x31 2400 ∧ ∀ m36 : Mem, m36 = wI m33 265 x31.toNatClampNeg 1 → vp_in x31 2400 ∧ ((¬ (m36.1 265 x31.toNatClampNeg) = 1) → K 0 m36) ∧ (((m36.1 265 x31.toNatClampNeg) = 1) → K 1 m36)))))) ∧ ((¬ x31 < 2400) → K 0 m1))) ∧ ((¬ (m1.1 t3 4) = 0) → ∀ x37 : Int32, x37 = (((a2 * 10) + a0) * 10) + a1 → ((x37 < 0) → K 0 m1) ∧ ((¬ x37 < 0) → ((x37 < 2400) → vp_in x37 2400 ∧ ((¬ (m1.1 265 x37.toNatClampNeg) = 0) → vp_in x37 2400 ∧ ((¬ (m1.1 265 x37.toNatClampNeg) = 1) → K 0 m1) ∧ (((m1.1 265 x37.toNatClampNeg) = 1) → K 1 m1)) ∧ (((m1.1 265 x37.toNatClampNeg) = 0) → Evv G (d + 2) mX1_namePair [.ref (ga G 262), .int a0, .int a1, .int a2] m1 (fun m38 => Evi G (d + 2) mX1_says [.ref (ga G 262), .ref (ga G t3), .int 2] m38 (fun r40 m39 => ((r40 = 0) → vp_in x37 2400 ∧ ∀ m41 : Mem, m41 = wI m39 265 x37.toNatClampNeg 2 → vp_in x37 2400 ∧ ((¬ (m41.1 265 x37.toNatClampNeg) = 1) → K 0 m41) ∧ (((m41.1 265 x37.toNatClampNeg) = 1) → K 1 m41)) ∧ ((¬ r40 = 0) → vp_in x37 2400 ∧ ∀ m42 : Mem, m42 = wI m39 265 x37.toNatClampNeg 1 → vp_in x37 2400 ∧ ((¬ (m42.1 265 x37.toNatClampNeg) = 1) → K 0 m42) ∧ (((m42.1 265 x37.toNatClampNeg) = 1) → K 1 m42)))))) ∧ ((¬ x37 < 2400) → K 0 m1)))) ∧ ((a0 = (-1)) → (((m1.1 t3 4) = 0) → ∀ x43 : Int32, x43 = imin a2 1 → ∀ x44 : Int32, x44 = (((x43 * 10) + a1) * 10) + a1 → ((x44 < 0) → K 0 m1) ∧ ((¬ x44 < 0) → ((x44 < 2400) → vp_in x44 2400 ∧ ((¬ (m1.1 265 x44.toNatClampNeg) = 0) → vp_in x44 2400 ∧ ((¬ (m1.1 265 x44.toNatClampNeg) = 1) → K 0 m1) ∧ (((m1.1 265 x44.toNatClampNeg) = 1) → K 1 m1)) ∧ (((m1.1 265 x44.toNatClampNeg) = 0) → Evv G (d + 2) mX1_namePair [.ref (ga G 262), .int a1, .int a1, .int a2] m1 (fun m45 => Evi G (d + 2) mX1_says [.ref (ga G 262), .ref (ga G t3), .int 2] m45 (fun r47 m46 => ((r47 = 0) → vp_in x44 2400 ∧ ∀ m48 : Mem, m48 = wI m46 265 x44.toNatClampNeg 2 → vp_in x44 2400 ∧ ((¬ (m48.1 265 x44.toNatClampNeg) = 1) → K 0 m48) ∧ (((m48.1 265 x44.toNatClampNeg) = 1) → K 1 m48)) ∧ ((¬ r47 = 0) → vp_in x44 2400 ∧ ∀ m49 : Mem, m49 = wI m46 265 x44.toNatClampNeg 1 → vp_in x44 2400 ∧ ((¬ (m49.1 265 x44.toNatClampNeg) = 1) → K 0 m49) ∧ (((m49.1 265 x44.toNatClampNeg) = 1) → K 1 m49)))))) ∧ ((¬ x44 < 2400) → K 0 m1))) ∧ ((¬ (m1.1 t3 4) = 0) → ∀ x50 : Int32, x50 = (((a2 * 10) + a1) * 10) + a1 → ((x50 < 0) → K 0 m1) ∧ ((¬ x50 < 0) → ((x50 < 2400) → vp_in x50 2400 ∧ ((¬ (m1.1 265 x50.toNatClampNeg) = 0) → vp_in x50 2400 ∧ ((¬ (m1.1 265 x50.toNatClampNeg) = 1) → K 0 m1) ∧ (((m1.1 265 x50.toNatClampNeg) = 1) → K 1 m1)) ∧ (((m1.1 265 x50.toNatClampNeg) = 0) → Evv G (d + 2) mX1_namePair [.ref (ga G 262), .int a1, .int a1, .int a2] m1 (fun m51 => Evi G (d + 2) mX1_says [.ref (ga G 262), .ref (ga G t3), .int 2] m51 (fun r53 m52 => ((r53 = 0) → vp_in x50 2400 ∧ ∀ m54 : Mem, m54 = wI m52 265 x50.toNatClampNeg 2 → vp_in x50 2400 ∧ ((¬ (m54.1 265 x50.toNatClampNeg) = 1) → K 0 m54) ∧ (((m54.1 265 x50.toNatClampNeg) = 1) → K 1 m54)) ∧ ((¬ r53 = 0) → vp_in x50 2400 ∧ ∀ m55 : Mem, m55 = wI m52 265 x50.toNatClampNeg 1 → vp_in x50 2400 ∧ ((¬ (m55.1 265 x50.toNatClampNeg) = 1) → K 0 m55) ∧ (((m55.1 265 x50.toNatClampNeg) = 1) → K 1 m55)))))) ∧ ((¬ x50 < 2400) → K 0 m1))))) ∧ (¬ (m1.1 (t3 + 4) (2 : Int32).toNatClampNeg < m1.1 (t3 + 5) (2 : Int32).toNatClampNeg) → K 1 m1))))) : Evi G (d + 3) mX1_mayStand [.ref (ga G 262), .int a0, .int a1, .int a2] m K := by
  refine Ev.go [.ref (ga G 262), .int a0, .int a1, .int a2, uu, uu, uu, uu, uu] (by decide) (Nat.le_of_ble_eq_true rfl) rfl ?_
  refine go_aload_n dX1_mayStand_0 rfl ?_
  refine go_callV mX1_ruling dX1_mayStand_1 lm_X1_49 okX1_ruling isX1_ruling sh_262 rfl (As := []) (S := []) rfl rfl (Nat.le_of_ble_eq_true rfl) hF (k_r (fun m1 hF => ?_) (fun t3 m1 hF => ?_))
  · have hF := hF.1 rfl
    refine go_nstore (L' := [.ref (ga G 262), .int a0, .int a1, .int a2, .null, uu, uu, uu, uu]) dX1_mayStand_4 (Nat.le_of_ble_eq_true rfl) rfl ?_
    refine go_iload_n dX1_mayStand_6 rfl ?_
    refine go_iconst (v := -1) dX1_mayStand_7 (by decide) ?_
    refine go_icmp_ne 15 dX1_mayStand_8 rfl ⟨fun hc => ?_, fun hc => ?_⟩
    · have hF := hF.1 hc
      refine go_iconst (v := 1) dX1_mayStand_15 (by decide) ?_
      refine go_istore (L' := [.ref (ga G 262), .int a0, .int a1, .int a2, .null, .int 1, uu, uu, uu]) dX1_mayStand_16 (Nat.le_of_ble_eq_true rfl) rfl ?_
      refine go_nload dX1_mayStand_18 rfl ?_
      refine go_ifnullN 33 dX1_mayStand_20 rfl ?_
      refine go_iconst (v := 1) dX1_mayStand_33 (by decide) ?_
      exact go_zret (S := []) dX1_mayStand_34 rfl (by decide) ⟨_, rfl, hF⟩
    · have hF := hF.2 hc
      refine go_iconst (v := 2) dX1_mayStand_11 (by decide) ?_
      refine go_goto 16 dX1_mayStand_12 rfl ?_
      refine go_istore (L' := [.ref (ga G 262), .int a0, .int a1, .int a2, .null, .int 2, uu, uu, uu]) dX1_mayStand_16 (Nat.le_of_ble_eq_true rfl) rfl ?_
      refine go_nload dX1_mayStand_18 rfl ?_
      refine go_ifnullN 33 dX1_mayStand_20 rfl ?_
      refine go_iconst (v := 1) dX1_mayStand_33 (by decide) ?_
      exact go_zret (S := []) dX1_mayStand_34 rfl (by decide) ⟨_, rfl, hF⟩
  · obtain ⟨ht3, hF⟩ := hF.2 t3 rfl
    refine go_astore (L' := [.ref (ga G 262), .int a0, .int a1, .int a2, .ref (ga G t3), uu, uu, uu, uu]) dX1_mayStand_4 (Nat.le_of_ble_eq_true rfl) rfl ?_
    refine go_iload_n dX1_mayStand_6 rfl ?_
    refine go_iconst (v := -1) dX1_mayStand_7 (by decide) ?_
    refine go_icmp_ne 15 dX1_mayStand_8 rfl ⟨fun hc => ?_, fun hc => ?_⟩
    · have hF := hF.1 hc
      refine go_iconst (v := 1) dX1_mayStand_15 (by decide) ?_
      refine go_istore (L' := [.ref (ga G 262), .int a0, .int a1, .int a2, .ref (ga G t3), .int 1, uu, uu, uu]) dX1_mayStand_16 (Nat.le_of_ble_eq_true rfl) rfl ?_
      refine go_aload dX1_mayStand_18 rfl ?_
      refine go_ifnullR dX1_mayStand_20 ?_
      refine go_aload dX1_mayStand_23 rfl ?_
      refine go_iload dX1_mayStand_25 rfl ?_
      obtain ⟨ho, hF⟩ := hF
      rcases Classical.em (m1.1 (t3 + 4) (1 : Int32).toNatClampNeg < m1.1 (t3 + 5) (1 : Int32).toNatClampNeg) with hp | hp
      · have hF := hF.1 hp
        refine go_callV mX8_hasLaw dX1_mayStand_27 lm_X1_54 okX8_hasLaw isX8_hasLaw ht3.1 rfl (As := [.int 1]) (S := []) rfl rfl (Nat.le_of_ble_eq_true rfl) (eX8_hasLaw G _ t3 ht3 1 m1 (fun r m' => r = 1 ∧ m1 = m') ho ⟨fun _ => ⟨rfl, rfl⟩, fun q => absurd hp q⟩) (k_i (fun r m' hr => ?_))
        obtain ⟨hr1, hr2⟩ := hr
        subst hr1
        subst hr2
        refine go_if_ne 35 dX1_mayStand_30 rfl ⟨fun _ => ?_, fun hc => absurd hc (by decide)⟩
        refine go_iload_n dX1_mayStand_35 rfl ?_
        refine go_iconst (v := -1) dX1_mayStand_36 (by decide) ?_
        refine go_icmp_ne 44 dX1_mayStand_37 rfl ⟨fun hc => ?_, fun hc => ?_⟩
        · have hF := hF.1 hc
          refine go_iload_n dX1_mayStand_44 rfl ?_
          refine go_istore (L' := [.ref (ga G 262), .int a0, .int a1, .int a2, .ref (ga G t3), .int 1, .int a0, uu, uu]) dX1_mayStand_45 (Nat.le_of_ble_eq_true rfl) rfl ?_
          refine go_aload dX1_mayStand_47 rfl ?_
          refine go_getI (k := 4) dX1_mayStand_49 ht3.1 rfl inX8 (Nat.le_of_ble_eq_true rfl) lf_X1_95 rfl ?_
          refine go_if_eq 59 dX1_mayStand_52 rfl ⟨fun hc => ?_, fun hc => ?_⟩
          · have hF := hF.1 hc
            refine go_iload_n dX1_mayStand_59 rfl ?_
            refine go_iconst (v := 1) dX1_mayStand_60 (by decide) ?_
            refine go_mmin dX1_mayStand_61 lm_X1_99 (Nat.le_of_ble_eq_true rfl) ?_
            refine Gw.namei (fun x4 ex4 => ?_)
            have hF := hF x4 ex4
            refine go_istore (L' := [.ref (ga G 262), .int a0, .int a1, .int a2, .ref (ga G t3), .int 1, .int a0, .int x4, uu]) dX1_mayStand_64 (Nat.le_of_ble_eq_true rfl) rfl ?_
            refine go_iload dX1_mayStand_66 rfl ?_
            refine go_bipush (v := 10) dX1_mayStand_68 (by decide) ?_
            refine go_imul dX1_mayStand_70 ?_
            refine go_iload dX1_mayStand_71 rfl ?_
            refine go_iadd dX1_mayStand_73 ?_
            refine go_bipush (v := 10) dX1_mayStand_74 (by decide) ?_
            refine go_imul dX1_mayStand_76 ?_
            refine go_iload_n dX1_mayStand_77 rfl ?_
            refine go_iadd dX1_mayStand_78 ?_
            refine Gw.namei (fun x5 ex5 => ?_)
            have hF := hF x5 ex5
            refine go_istore (L' := [.ref (ga G 262), .int a0, .int a1, .int a2, .ref (ga G t3), .int 1, .int a0, .int x4, .int x5]) dX1_mayStand_79 (Nat.le_of_ble_eq_true rfl) rfl ?_
            refine go_iload dX1_mayStand_81 rfl ?_
            refine go_if_lt 96 dX1_mayStand_83 rfl ⟨fun hc => ?_, fun hc => ?_⟩
            · have hF := hF.1 hc
              refine go_iconst (v := 0) dX1_mayStand_96 (by decide) ?_
              exact go_zret (S := []) dX1_mayStand_97 rfl (by decide) ⟨_, rfl, hF⟩
            · have hF := hF.2 hc
              refine go_iload dX1_mayStand_86 rfl ?_
              refine go_aload_n dX1_mayStand_88 rfl ?_
              refine go_getR (k := 4) (r := 265) dX1_mayStand_89 sh_262 rfl inX1 (Nat.le_of_ble_eq_true rfl) lf_X1_22 rfl rfl ?_
              refine go_alenI dX1_mayStand_92 sh_265 ?_
              refine go_icmp_lt 98 dX1_mayStand_93 rfl ⟨fun hc => ?_, fun hc => ?_⟩
              · have hF := hF.1 hc
                refine go_aload_n dX1_mayStand_98 rfl ?_
                refine go_getR (k := 4) (r := 265) dX1_mayStand_99 sh_262 rfl inX1 (Nat.le_of_ble_eq_true rfl) lf_X1_22 rfl rfl ?_
                refine go_iload dX1_mayStand_102 rfl ?_
                obtain ⟨hi, hF⟩ := hF
                refine go_iald dX1_mayStand_104 sh_265 hi ?_
                refine go_if_ne 139 dX1_mayStand_105 rfl ⟨fun hc => ?_, fun hc => ?_⟩
                · have hF := hF.1 hc
                  refine go_aload_n dX1_mayStand_139 rfl ?_
                  refine go_getR (k := 4) (r := 265) dX1_mayStand_140 sh_262 rfl inX1 (Nat.le_of_ble_eq_true rfl) lf_X1_22 rfl rfl ?_
                  refine go_iload dX1_mayStand_143 rfl ?_
                  obtain ⟨hi, hF⟩ := hF
                  refine go_iald dX1_mayStand_145 sh_265 hi ?_
                  refine go_iconst (v := 1) dX1_mayStand_146 (by decide) ?_
                  refine go_icmp_ne 154 dX1_mayStand_147 rfl ⟨fun hc => ?_, fun hc => ?_⟩
                  · have hF := hF.1 hc
                    refine go_iconst (v := 0) dX1_mayStand_154 (by decide) ?_
                    exact go_zret (S := []) dX1_mayStand_155 rfl (by decide) ⟨_, rfl, hF⟩
                  · have hF := hF.2 hc
                    refine go_iconst (v := 1) dX1_mayStand_150 (by decide) ?_
                    refine go_goto 155 dX1_mayStand_151 rfl ?_
                    exact go_zret (S := []) dX1_mayStand_155 rfl (by decide) ⟨_, rfl, hF⟩
                · have hF := hF.2 hc
                  refine go_aload_n dX1_mayStand_108 rfl ?_
                  refine go_iload dX1_mayStand_109 rfl ?_
                  refine go_iload_n dX1_mayStand_111 rfl ?_
                  refine go_iload_n dX1_mayStand_112 rfl ?_
                  refine go_callV mX1_namePair dX1_mayStand_113 lm_X1_105 okX1_namePair isX1_namePair sh_262 rfl (As := [.int a0, .int a1, .int a2]) (S := []) rfl rfl (Nat.le_of_ble_eq_true rfl) hF (k_v (fun m6 hF => ?_))
                  refine go_aload_n dX1_mayStand_116 rfl ?_
                  refine go_getR (k := 4) (r := 265) dX1_mayStand_117 sh_262 rfl inX1 (Nat.le_of_ble_eq_true rfl) lf_X1_22 rfl rfl ?_
                  refine go_iload dX1_mayStand_120 rfl ?_
                  refine go_aload_n dX1_mayStand_122 rfl ?_
                  refine go_aload dX1_mayStand_123 rfl ?_
                  refine go_iload dX1_mayStand_125 rfl ?_
                  refine go_callV mX1_says dX1_mayStand_127 lm_X1_91 okX1_says isX1_says sh_262 rfl (As := [.ref (ga G t3), .int 1]) (S := [.int x5, .ref (ga G 265)]) rfl rfl (Nat.le_of_ble_eq_true rfl) hF (k_i (fun r8 m7 hF => ?_))
                  refine go_if_eq 137 dX1_mayStand_130 rfl ⟨fun hc => ?_, fun hc => ?_⟩
                  · have hF := hF.1 hc
                    refine go_iconst (v := 2) dX1_mayStand_137 (by decide) ?_
                    obtain ⟨hi, hF⟩ := hF
                    refine go_iast dX1_mayStand_138 sh_265 hi ?_
                    obtain ⟨m9, em9⟩ : ∃ z : Mem, z = wI m7 265 x5.toNatClampNeg 2 := ⟨_, rfl⟩
                    rw [← em9]
                    have hF := hF m9 em9
                    refine go_aload_n dX1_mayStand_139 rfl ?_
                    refine go_getR (k := 4) (r := 265) dX1_mayStand_140 sh_262 rfl inX1 (Nat.le_of_ble_eq_true rfl) lf_X1_22 rfl rfl ?_
                    refine go_iload dX1_mayStand_143 rfl ?_
                    obtain ⟨hi, hF⟩ := hF
                    refine go_iald dX1_mayStand_145 sh_265 hi ?_
                    refine go_iconst (v := 1) dX1_mayStand_146 (by decide) ?_
                    refine go_icmp_ne 154 dX1_mayStand_147 rfl ⟨fun hc => ?_, fun hc => ?_⟩
                    · have hF := hF.1 hc
                      refine go_iconst (v := 0) dX1_mayStand_154 (by decide) ?_
                      exact go_zret (S := []) dX1_mayStand_155 rfl (by decide) ⟨_, rfl, hF⟩
                    · have hF := hF.2 hc
                      refine go_iconst (v := 1) dX1_mayStand_150 (by decide) ?_
                      refine go_goto 155 dX1_mayStand_151 rfl ?_
                      exact go_zret (S := []) dX1_mayStand_155 rfl (by decide) ⟨_, rfl, hF⟩
                  · have hF := hF.2 hc
                    refine go_iconst (v := 1) dX1_mayStand_133 (by decide) ?_
                    refine go_goto 138 dX1_mayStand_134 rfl ?_
                    obtain ⟨hi, hF⟩ := hF
                    refine go_iast dX1_mayStand_138 sh_265 hi ?_
                    obtain ⟨m10, em10⟩ : ∃ z : Mem, z = wI m7 265 x5.toNatClampNeg 1 := ⟨_, rfl⟩
                    rw [← em10]
                    have hF := hF m10 em10
                    refine go_aload_n dX1_mayStand_139 rfl ?_
                    refine go_getR (k := 4) (r := 265) dX1_mayStand_140 sh_262 rfl inX1 (Nat.le_of_ble_eq_true rfl) lf_X1_22 rfl rfl ?_
                    refine go_iload dX1_mayStand_143 rfl ?_
                    obtain ⟨hi, hF⟩ := hF
                    refine go_iald dX1_mayStand_145 sh_265 hi ?_
                    refine go_iconst (v := 1) dX1_mayStand_146 (by decide) ?_
                    refine go_icmp_ne 154 dX1_mayStand_147 rfl ⟨fun hc => ?_, fun hc => ?_⟩
                    · have hF := hF.1 hc
                      refine go_iconst (v := 0) dX1_mayStand_154 (by decide) ?_
                      exact go_zret (S := []) dX1_mayStand_155 rfl (by decide) ⟨_, rfl, hF⟩
                    · have hF := hF.2 hc
                      refine go_iconst (v := 1) dX1_mayStand_150 (by decide) ?_
                      refine go_goto 155 dX1_mayStand_151 rfl ?_
                      exact go_zret (S := []) dX1_mayStand_155 rfl (by decide) ⟨_, rfl, hF⟩
              · have hF := hF.2 hc
                refine go_iconst (v := 0) dX1_mayStand_96 (by decide) ?_
                exact go_zret (S := []) dX1_mayStand_97 rfl (by decide) ⟨_, rfl, hF⟩
          · have hF := hF.2 hc
            refine go_iload_n dX1_mayStand_55 rfl ?_
            refine go_goto 64 dX1_mayStand_56 rfl ?_
            refine go_istore (L' := [.ref (ga G 262), .int a0, .int a1, .int a2, .ref (ga G t3), .int 1, .int a0, .int a2, uu]) dX1_mayStand_64 (Nat.le_of_ble_eq_true rfl) rfl ?_
            refine go_iload dX1_mayStand_66 rfl ?_
            refine go_bipush (v := 10) dX1_mayStand_68 (by decide) ?_
            refine go_imul dX1_mayStand_70 ?_
            refine go_iload dX1_mayStand_71 rfl ?_
            refine go_iadd dX1_mayStand_73 ?_
            refine go_bipush (v := 10) dX1_mayStand_74 (by decide) ?_
            refine go_imul dX1_mayStand_76 ?_
            refine go_iload_n dX1_mayStand_77 rfl ?_
            refine go_iadd dX1_mayStand_78 ?_
            refine Gw.namei (fun x11 ex11 => ?_)
            have hF := hF x11 ex11
            refine go_istore (L' := [.ref (ga G 262), .int a0, .int a1, .int a2, .ref (ga G t3), .int 1, .int a0, .int a2, .int x11]) dX1_mayStand_79 (Nat.le_of_ble_eq_true rfl) rfl ?_
            refine go_iload dX1_mayStand_81 rfl ?_
            refine go_if_lt 96 dX1_mayStand_83 rfl ⟨fun hc => ?_, fun hc => ?_⟩
            · have hF := hF.1 hc
              refine go_iconst (v := 0) dX1_mayStand_96 (by decide) ?_
              exact go_zret (S := []) dX1_mayStand_97 rfl (by decide) ⟨_, rfl, hF⟩
            · have hF := hF.2 hc
              refine go_iload dX1_mayStand_86 rfl ?_
              refine go_aload_n dX1_mayStand_88 rfl ?_
              refine go_getR (k := 4) (r := 265) dX1_mayStand_89 sh_262 rfl inX1 (Nat.le_of_ble_eq_true rfl) lf_X1_22 rfl rfl ?_
              refine go_alenI dX1_mayStand_92 sh_265 ?_
              refine go_icmp_lt 98 dX1_mayStand_93 rfl ⟨fun hc => ?_, fun hc => ?_⟩
              · have hF := hF.1 hc
                refine go_aload_n dX1_mayStand_98 rfl ?_
                refine go_getR (k := 4) (r := 265) dX1_mayStand_99 sh_262 rfl inX1 (Nat.le_of_ble_eq_true rfl) lf_X1_22 rfl rfl ?_
                refine go_iload dX1_mayStand_102 rfl ?_
                obtain ⟨hi, hF⟩ := hF
                refine go_iald dX1_mayStand_104 sh_265 hi ?_
                refine go_if_ne 139 dX1_mayStand_105 rfl ⟨fun hc => ?_, fun hc => ?_⟩
                · have hF := hF.1 hc
                  refine go_aload_n dX1_mayStand_139 rfl ?_
                  refine go_getR (k := 4) (r := 265) dX1_mayStand_140 sh_262 rfl inX1 (Nat.le_of_ble_eq_true rfl) lf_X1_22 rfl rfl ?_
                  refine go_iload dX1_mayStand_143 rfl ?_
                  obtain ⟨hi, hF⟩ := hF
                  refine go_iald dX1_mayStand_145 sh_265 hi ?_
                  refine go_iconst (v := 1) dX1_mayStand_146 (by decide) ?_
                  refine go_icmp_ne 154 dX1_mayStand_147 rfl ⟨fun hc => ?_, fun hc => ?_⟩
                  · have hF := hF.1 hc
                    refine go_iconst (v := 0) dX1_mayStand_154 (by decide) ?_
                    exact go_zret (S := []) dX1_mayStand_155 rfl (by decide) ⟨_, rfl, hF⟩
                  · have hF := hF.2 hc
                    refine go_iconst (v := 1) dX1_mayStand_150 (by decide) ?_
                    refine go_goto 155 dX1_mayStand_151 rfl ?_
                    exact go_zret (S := []) dX1_mayStand_155 rfl (by decide) ⟨_, rfl, hF⟩
                · have hF := hF.2 hc
                  refine go_aload_n dX1_mayStand_108 rfl ?_
                  refine go_iload dX1_mayStand_109 rfl ?_
                  refine go_iload_n dX1_mayStand_111 rfl ?_
                  refine go_iload_n dX1_mayStand_112 rfl ?_
                  refine go_callV mX1_namePair dX1_mayStand_113 lm_X1_105 okX1_namePair isX1_namePair sh_262 rfl (As := [.int a0, .int a1, .int a2]) (S := []) rfl rfl (Nat.le_of_ble_eq_true rfl) hF (k_v (fun m12 hF => ?_))
                  refine go_aload_n dX1_mayStand_116 rfl ?_
                  refine go_getR (k := 4) (r := 265) dX1_mayStand_117 sh_262 rfl inX1 (Nat.le_of_ble_eq_true rfl) lf_X1_22 rfl rfl ?_
                  refine go_iload dX1_mayStand_120 rfl ?_
                  refine go_aload_n dX1_mayStand_122 rfl ?_
                  refine go_aload dX1_mayStand_123 rfl ?_
                  refine go_iload dX1_mayStand_125 rfl ?_
                  refine go_callV mX1_says dX1_mayStand_127 lm_X1_91 okX1_says isX1_says sh_262 rfl (As := [.ref (ga G t3), .int 1]) (S := [.int x11, .ref (ga G 265)]) rfl rfl (Nat.le_of_ble_eq_true rfl) hF (k_i (fun r14 m13 hF => ?_))
                  refine go_if_eq 137 dX1_mayStand_130 rfl ⟨fun hc => ?_, fun hc => ?_⟩
                  · have hF := hF.1 hc
                    refine go_iconst (v := 2) dX1_mayStand_137 (by decide) ?_
                    obtain ⟨hi, hF⟩ := hF
                    refine go_iast dX1_mayStand_138 sh_265 hi ?_
                    obtain ⟨m15, em15⟩ : ∃ z : Mem, z = wI m13 265 x11.toNatClampNeg 2 := ⟨_, rfl⟩
                    rw [← em15]
                    have hF := hF m15 em15
                    refine go_aload_n dX1_mayStand_139 rfl ?_
                    refine go_getR (k := 4) (r := 265) dX1_mayStand_140 sh_262 rfl inX1 (Nat.le_of_ble_eq_true rfl) lf_X1_22 rfl rfl ?_
                    refine go_iload dX1_mayStand_143 rfl ?_
                    obtain ⟨hi, hF⟩ := hF
                    refine go_iald dX1_mayStand_145 sh_265 hi ?_
                    refine go_iconst (v := 1) dX1_mayStand_146 (by decide) ?_
                    refine go_icmp_ne 154 dX1_mayStand_147 rfl ⟨fun hc => ?_, fun hc => ?_⟩
                    · have hF := hF.1 hc
                      refine go_iconst (v := 0) dX1_mayStand_154 (by decide) ?_
                      exact go_zret (S := []) dX1_mayStand_155 rfl (by decide) ⟨_, rfl, hF⟩
                    · have hF := hF.2 hc
                      refine go_iconst (v := 1) dX1_mayStand_150 (by decide) ?_
                      refine go_goto 155 dX1_mayStand_151 rfl ?_
                      exact go_zret (S := []) dX1_mayStand_155 rfl (by decide) ⟨_, rfl, hF⟩
                  · have hF := hF.2 hc
                    refine go_iconst (v := 1) dX1_mayStand_133 (by decide) ?_
                    refine go_goto 138 dX1_mayStand_134 rfl ?_
                    obtain ⟨hi, hF⟩ := hF
                    refine go_iast dX1_mayStand_138 sh_265 hi ?_
                    obtain ⟨m16, em16⟩ : ∃ z : Mem, z = wI m13 265 x11.toNatClampNeg 1 := ⟨_, rfl⟩
                    rw [← em16]
                    have hF := hF m16 em16
                    refine go_aload_n dX1_mayStand_139 rfl ?_
                    refine go_getR (k := 4) (r := 265) dX1_mayStand_140 sh_262 rfl inX1 (Nat.le_of_ble_eq_true rfl) lf_X1_22 rfl rfl ?_
                    refine go_iload dX1_mayStand_143 rfl ?_
                    obtain ⟨hi, hF⟩ := hF
                    refine go_iald dX1_mayStand_145 sh_265 hi ?_
                    refine go_iconst (v := 1) dX1_mayStand_146 (by decide) ?_
                    refine go_icmp_ne 154 dX1_mayStand_147 rfl ⟨fun hc => ?_, fun hc => ?_⟩
                    · have hF := hF.1 hc
                      refine go_iconst (v := 0) dX1_mayStand_154 (by decide) ?_
                      exact go_zret (S := []) dX1_mayStand_155 rfl (by decide) ⟨_, rfl, hF⟩
                    · have hF := hF.2 hc
                      refine go_iconst (v := 1) dX1_mayStand_150 (by decide) ?_
                      refine go_goto 155 dX1_mayStand_151 rfl ?_
                      exact go_zret (S := []) dX1_mayStand_155 rfl (by decide) ⟨_, rfl, hF⟩
              · have hF := hF.2 hc
                refine go_iconst (v := 0) dX1_mayStand_96 (by decide) ?_
                exact go_zret (S := []) dX1_mayStand_97 rfl (by decide) ⟨_, rfl, hF⟩
        · have hF := hF.2 hc
          refine go_iload_n dX1_mayStand_40 rfl ?_
          refine go_goto 45 dX1_mayStand_41 rfl ?_
          refine go_istore (L' := [.ref (ga G 262), .int a0, .int a1, .int a2, .ref (ga G t3), .int 1, .int a1, uu, uu]) dX1_mayStand_45 (Nat.le_of_ble_eq_true rfl) rfl ?_
          refine go_aload dX1_mayStand_47 rfl ?_
          refine go_getI (k := 4) dX1_mayStand_49 ht3.1 rfl inX8 (Nat.le_of_ble_eq_true rfl) lf_X1_95 rfl ?_
          refine go_if_eq 59 dX1_mayStand_52 rfl ⟨fun hc => ?_, fun hc => ?_⟩
          · have hF := hF.1 hc
            refine go_iload_n dX1_mayStand_59 rfl ?_
            refine go_iconst (v := 1) dX1_mayStand_60 (by decide) ?_
            refine go_mmin dX1_mayStand_61 lm_X1_99 (Nat.le_of_ble_eq_true rfl) ?_
            refine Gw.namei (fun x17 ex17 => ?_)
            have hF := hF x17 ex17
            refine go_istore (L' := [.ref (ga G 262), .int a0, .int a1, .int a2, .ref (ga G t3), .int 1, .int a1, .int x17, uu]) dX1_mayStand_64 (Nat.le_of_ble_eq_true rfl) rfl ?_
            refine go_iload dX1_mayStand_66 rfl ?_
            refine go_bipush (v := 10) dX1_mayStand_68 (by decide) ?_
            refine go_imul dX1_mayStand_70 ?_
            refine go_iload dX1_mayStand_71 rfl ?_
            refine go_iadd dX1_mayStand_73 ?_
            refine go_bipush (v := 10) dX1_mayStand_74 (by decide) ?_
            refine go_imul dX1_mayStand_76 ?_
            refine go_iload_n dX1_mayStand_77 rfl ?_
            refine go_iadd dX1_mayStand_78 ?_
            refine Gw.namei (fun x18 ex18 => ?_)
            have hF := hF x18 ex18
            refine go_istore (L' := [.ref (ga G 262), .int a0, .int a1, .int a2, .ref (ga G t3), .int 1, .int a1, .int x17, .int x18]) dX1_mayStand_79 (Nat.le_of_ble_eq_true rfl) rfl ?_
            refine go_iload dX1_mayStand_81 rfl ?_
            refine go_if_lt 96 dX1_mayStand_83 rfl ⟨fun hc => ?_, fun hc => ?_⟩
            · have hF := hF.1 hc
              refine go_iconst (v := 0) dX1_mayStand_96 (by decide) ?_
              exact go_zret (S := []) dX1_mayStand_97 rfl (by decide) ⟨_, rfl, hF⟩
            · have hF := hF.2 hc
              refine go_iload dX1_mayStand_86 rfl ?_
              refine go_aload_n dX1_mayStand_88 rfl ?_
              refine go_getR (k := 4) (r := 265) dX1_mayStand_89 sh_262 rfl inX1 (Nat.le_of_ble_eq_true rfl) lf_X1_22 rfl rfl ?_
              refine go_alenI dX1_mayStand_92 sh_265 ?_
              refine go_icmp_lt 98 dX1_mayStand_93 rfl ⟨fun hc => ?_, fun hc => ?_⟩
              · have hF := hF.1 hc
                refine go_aload_n dX1_mayStand_98 rfl ?_
                refine go_getR (k := 4) (r := 265) dX1_mayStand_99 sh_262 rfl inX1 (Nat.le_of_ble_eq_true rfl) lf_X1_22 rfl rfl ?_
                refine go_iload dX1_mayStand_102 rfl ?_
                obtain ⟨hi, hF⟩ := hF
                refine go_iald dX1_mayStand_104 sh_265 hi ?_
                refine go_if_ne 139 dX1_mayStand_105 rfl ⟨fun hc => ?_, fun hc => ?_⟩
                · have hF := hF.1 hc
                  refine go_aload_n dX1_mayStand_139 rfl ?_
                  refine go_getR (k := 4) (r := 265) dX1_mayStand_140 sh_262 rfl inX1 (Nat.le_of_ble_eq_true rfl) lf_X1_22 rfl rfl ?_
                  refine go_iload dX1_mayStand_143 rfl ?_
                  obtain ⟨hi, hF⟩ := hF
                  refine go_iald dX1_mayStand_145 sh_265 hi ?_
                  refine go_iconst (v := 1) dX1_mayStand_146 (by decide) ?_
                  refine go_icmp_ne 154 dX1_mayStand_147 rfl ⟨fun hc => ?_, fun hc => ?_⟩
                  · have hF := hF.1 hc
                    refine go_iconst (v := 0) dX1_mayStand_154 (by decide) ?_
                    exact go_zret (S := []) dX1_mayStand_155 rfl (by decide) ⟨_, rfl, hF⟩
                  · have hF := hF.2 hc
                    refine go_iconst (v := 1) dX1_mayStand_150 (by decide) ?_
                    refine go_goto 155 dX1_mayStand_151 rfl ?_
                    exact go_zret (S := []) dX1_mayStand_155 rfl (by decide) ⟨_, rfl, hF⟩
                · have hF := hF.2 hc
                  refine go_aload_n dX1_mayStand_108 rfl ?_
                  refine go_iload dX1_mayStand_109 rfl ?_
                  refine go_iload_n dX1_mayStand_111 rfl ?_
                  refine go_iload_n dX1_mayStand_112 rfl ?_
                  refine go_callV mX1_namePair dX1_mayStand_113 lm_X1_105 okX1_namePair isX1_namePair sh_262 rfl (As := [.int a1, .int a1, .int a2]) (S := []) rfl rfl (Nat.le_of_ble_eq_true rfl) hF (k_v (fun m19 hF => ?_))
                  refine go_aload_n dX1_mayStand_116 rfl ?_
                  refine go_getR (k := 4) (r := 265) dX1_mayStand_117 sh_262 rfl inX1 (Nat.le_of_ble_eq_true rfl) lf_X1_22 rfl rfl ?_
                  refine go_iload dX1_mayStand_120 rfl ?_
                  refine go_aload_n dX1_mayStand_122 rfl ?_
                  refine go_aload dX1_mayStand_123 rfl ?_
                  refine go_iload dX1_mayStand_125 rfl ?_
                  refine go_callV mX1_says dX1_mayStand_127 lm_X1_91 okX1_says isX1_says sh_262 rfl (As := [.ref (ga G t3), .int 1]) (S := [.int x18, .ref (ga G 265)]) rfl rfl (Nat.le_of_ble_eq_true rfl) hF (k_i (fun r21 m20 hF => ?_))
                  refine go_if_eq 137 dX1_mayStand_130 rfl ⟨fun hc => ?_, fun hc => ?_⟩
                  · have hF := hF.1 hc
                    refine go_iconst (v := 2) dX1_mayStand_137 (by decide) ?_
                    obtain ⟨hi, hF⟩ := hF
                    refine go_iast dX1_mayStand_138 sh_265 hi ?_
                    obtain ⟨m22, em22⟩ : ∃ z : Mem, z = wI m20 265 x18.toNatClampNeg 2 := ⟨_, rfl⟩
                    rw [← em22]
                    have hF := hF m22 em22
                    refine go_aload_n dX1_mayStand_139 rfl ?_
                    refine go_getR (k := 4) (r := 265) dX1_mayStand_140 sh_262 rfl inX1 (Nat.le_of_ble_eq_true rfl) lf_X1_22 rfl rfl ?_
                    refine go_iload dX1_mayStand_143 rfl ?_
                    obtain ⟨hi, hF⟩ := hF
                    refine go_iald dX1_mayStand_145 sh_265 hi ?_
                    refine go_iconst (v := 1) dX1_mayStand_146 (by decide) ?_
                    refine go_icmp_ne 154 dX1_mayStand_147 rfl ⟨fun hc => ?_, fun hc => ?_⟩
                    · have hF := hF.1 hc
                      refine go_iconst (v := 0) dX1_mayStand_154 (by decide) ?_
                      exact go_zret (S := []) dX1_mayStand_155 rfl (by decide) ⟨_, rfl, hF⟩
                    · have hF := hF.2 hc
                      refine go_iconst (v := 1) dX1_mayStand_150 (by decide) ?_
                      refine go_goto 155 dX1_mayStand_151 rfl ?_
                      exact go_zret (S := []) dX1_mayStand_155 rfl (by decide) ⟨_, rfl, hF⟩
                  · have hF := hF.2 hc
                    refine go_iconst (v := 1) dX1_mayStand_133 (by decide) ?_
                    refine go_goto 138 dX1_mayStand_134 rfl ?_
                    obtain ⟨hi, hF⟩ := hF
                    refine go_iast dX1_mayStand_138 sh_265 hi ?_
                    obtain ⟨m23, em23⟩ : ∃ z : Mem, z = wI m20 265 x18.toNatClampNeg 1 := ⟨_, rfl⟩
                    rw [← em23]
                    have hF := hF m23 em23
                    refine go_aload_n dX1_mayStand_139 rfl ?_
                    refine go_getR (k := 4) (r := 265) dX1_mayStand_140 sh_262 rfl inX1 (Nat.le_of_ble_eq_true rfl) lf_X1_22 rfl rfl ?_
                    refine go_iload dX1_mayStand_143 rfl ?_
                    obtain ⟨hi, hF⟩ := hF
                    refine go_iald dX1_mayStand_145 sh_265 hi ?_
                    refine go_iconst (v := 1) dX1_mayStand_146 (by decide) ?_
                    refine go_icmp_ne 154 dX1_mayStand_147 rfl ⟨fun hc => ?_, fun hc => ?_⟩
                    · have hF := hF.1 hc
                      refine go_iconst (v := 0) dX1_mayStand_154 (by decide) ?_
                      exact go_zret (S := []) dX1_mayStand_155 rfl (by decide) ⟨_, rfl, hF⟩
                    · have hF := hF.2 hc
                      refine go_iconst (v := 1) dX1_mayStand_150 (by decide) ?_
                      refine go_goto 155 dX1_mayStand_151 rfl ?_
                      exact go_zret (S := []) dX1_mayStand_155 rfl (by decide) ⟨_, rfl, hF⟩
              · have hF := hF.2 hc
                refine go_iconst (v := 0) dX1_mayStand_96 (by decide) ?_
                exact go_zret (S := []) dX1_mayStand_97 rfl (by decide) ⟨_, rfl, hF⟩
          · have hF := hF.2 hc
            refine go_iload_n dX1_mayStand_55 rfl ?_
            refine go_goto 64 dX1_mayStand_56 rfl ?_
            refine go_istore (L' := [.ref (ga G 262), .int a0, .int a1, .int a2, .ref (ga G t3), .int 1, .int a1, .int a2, uu]) dX1_mayStand_64 (Nat.le_of_ble_eq_true rfl) rfl ?_
            refine go_iload dX1_mayStand_66 rfl ?_
            refine go_bipush (v := 10) dX1_mayStand_68 (by decide) ?_
            refine go_imul dX1_mayStand_70 ?_
            refine go_iload dX1_mayStand_71 rfl ?_
            refine go_iadd dX1_mayStand_73 ?_
            refine go_bipush (v := 10) dX1_mayStand_74 (by decide) ?_
            refine go_imul dX1_mayStand_76 ?_
            refine go_iload_n dX1_mayStand_77 rfl ?_
            refine go_iadd dX1_mayStand_78 ?_
            refine Gw.namei (fun x24 ex24 => ?_)
            have hF := hF x24 ex24
            refine go_istore (L' := [.ref (ga G 262), .int a0, .int a1, .int a2, .ref (ga G t3), .int 1, .int a1, .int a2, .int x24]) dX1_mayStand_79 (Nat.le_of_ble_eq_true rfl) rfl ?_
            refine go_iload dX1_mayStand_81 rfl ?_
            refine go_if_lt 96 dX1_mayStand_83 rfl ⟨fun hc => ?_, fun hc => ?_⟩
            · have hF := hF.1 hc
              refine go_iconst (v := 0) dX1_mayStand_96 (by decide) ?_
              exact go_zret (S := []) dX1_mayStand_97 rfl (by decide) ⟨_, rfl, hF⟩
            · have hF := hF.2 hc
              refine go_iload dX1_mayStand_86 rfl ?_
              refine go_aload_n dX1_mayStand_88 rfl ?_
              refine go_getR (k := 4) (r := 265) dX1_mayStand_89 sh_262 rfl inX1 (Nat.le_of_ble_eq_true rfl) lf_X1_22 rfl rfl ?_
              refine go_alenI dX1_mayStand_92 sh_265 ?_
              refine go_icmp_lt 98 dX1_mayStand_93 rfl ⟨fun hc => ?_, fun hc => ?_⟩
              · have hF := hF.1 hc
                refine go_aload_n dX1_mayStand_98 rfl ?_
                refine go_getR (k := 4) (r := 265) dX1_mayStand_99 sh_262 rfl inX1 (Nat.le_of_ble_eq_true rfl) lf_X1_22 rfl rfl ?_
                refine go_iload dX1_mayStand_102 rfl ?_
                obtain ⟨hi, hF⟩ := hF
                refine go_iald dX1_mayStand_104 sh_265 hi ?_
                refine go_if_ne 139 dX1_mayStand_105 rfl ⟨fun hc => ?_, fun hc => ?_⟩
                · have hF := hF.1 hc
                  refine go_aload_n dX1_mayStand_139 rfl ?_
                  refine go_getR (k := 4) (r := 265) dX1_mayStand_140 sh_262 rfl inX1 (Nat.le_of_ble_eq_true rfl) lf_X1_22 rfl rfl ?_
                  refine go_iload dX1_mayStand_143 rfl ?_
                  obtain ⟨hi, hF⟩ := hF
                  refine go_iald dX1_mayStand_145 sh_265 hi ?_
                  refine go_iconst (v := 1) dX1_mayStand_146 (by decide) ?_
                  refine go_icmp_ne 154 dX1_mayStand_147 rfl ⟨fun hc => ?_, fun hc => ?_⟩
                  · have hF := hF.1 hc
                    refine go_iconst (v := 0) dX1_mayStand_154 (by decide) ?_
                    exact go_zret (S := []) dX1_mayStand_155 rfl (by decide) ⟨_, rfl, hF⟩
                  · have hF := hF.2 hc
                    refine go_iconst (v := 1) dX1_mayStand_150 (by decide) ?_
                    refine go_goto 155 dX1_mayStand_151 rfl ?_
                    exact go_zret (S := []) dX1_mayStand_155 rfl (by decide) ⟨_, rfl, hF⟩
                · have hF := hF.2 hc
                  refine go_aload_n dX1_mayStand_108 rfl ?_
                  refine go_iload dX1_mayStand_109 rfl ?_
                  refine go_iload_n dX1_mayStand_111 rfl ?_
                  refine go_iload_n dX1_mayStand_112 rfl ?_
                  refine go_callV mX1_namePair dX1_mayStand_113 lm_X1_105 okX1_namePair isX1_namePair sh_262 rfl (As := [.int a1, .int a1, .int a2]) (S := []) rfl rfl (Nat.le_of_ble_eq_true rfl) hF (k_v (fun m25 hF => ?_))
                  refine go_aload_n dX1_mayStand_116 rfl ?_
                  refine go_getR (k := 4) (r := 265) dX1_mayStand_117 sh_262 rfl inX1 (Nat.le_of_ble_eq_true rfl) lf_X1_22 rfl rfl ?_
                  refine go_iload dX1_mayStand_120 rfl ?_
                  refine go_aload_n dX1_mayStand_122 rfl ?_
                  refine go_aload dX1_mayStand_123 rfl ?_
                  refine go_iload dX1_mayStand_125 rfl ?_
                  refine go_callV mX1_says dX1_mayStand_127 lm_X1_91 okX1_says isX1_says sh_262 rfl (As := [.ref (ga G t3), .int 1]) (S := [.int x24, .ref (ga G 265)]) rfl rfl (Nat.le_of_ble_eq_true rfl) hF (k_i (fun r27 m26 hF => ?_))
                  refine go_if_eq 137 dX1_mayStand_130 rfl ⟨fun hc => ?_, fun hc => ?_⟩
                  · have hF := hF.1 hc
                    refine go_iconst (v := 2) dX1_mayStand_137 (by decide) ?_
                    obtain ⟨hi, hF⟩ := hF
                    refine go_iast dX1_mayStand_138 sh_265 hi ?_
                    obtain ⟨m28, em28⟩ : ∃ z : Mem, z = wI m26 265 x24.toNatClampNeg 2 := ⟨_, rfl⟩
                    rw [← em28]
                    have hF := hF m28 em28
                    refine go_aload_n dX1_mayStand_139 rfl ?_
                    refine go_getR (k := 4) (r := 265) dX1_mayStand_140 sh_262 rfl inX1 (Nat.le_of_ble_eq_true rfl) lf_X1_22 rfl rfl ?_
                    refine go_iload dX1_mayStand_143 rfl ?_
                    obtain ⟨hi, hF⟩ := hF
                    refine go_iald dX1_mayStand_145 sh_265 hi ?_
                    refine go_iconst (v := 1) dX1_mayStand_146 (by decide) ?_
                    refine go_icmp_ne 154 dX1_mayStand_147 rfl ⟨fun hc => ?_, fun hc => ?_⟩
                    · have hF := hF.1 hc
                      refine go_iconst (v := 0) dX1_mayStand_154 (by decide) ?_
                      exact go_zret (S := []) dX1_mayStand_155 rfl (by decide) ⟨_, rfl, hF⟩
                    · have hF := hF.2 hc
                      refine go_iconst (v := 1) dX1_mayStand_150 (by decide) ?_
                      refine go_goto 155 dX1_mayStand_151 rfl ?_
                      exact go_zret (S := []) dX1_mayStand_155 rfl (by decide) ⟨_, rfl, hF⟩
                  · have hF := hF.2 hc
                    refine go_iconst (v := 1) dX1_mayStand_133 (by decide) ?_
                    refine go_goto 138 dX1_mayStand_134 rfl ?_
                    obtain ⟨hi, hF⟩ := hF
                    refine go_iast dX1_mayStand_138 sh_265 hi ?_
                    obtain ⟨m29, em29⟩ : ∃ z : Mem, z = wI m26 265 x24.toNatClampNeg 1 := ⟨_, rfl⟩
                    rw [← em29]
                    have hF := hF m29 em29
                    refine go_aload_n dX1_mayStand_139 rfl ?_
                    refine go_getR (k := 4) (r := 265) dX1_mayStand_140 sh_262 rfl inX1 (Nat.le_of_ble_eq_true rfl) lf_X1_22 rfl rfl ?_
                    refine go_iload dX1_mayStand_143 rfl ?_
                    obtain ⟨hi, hF⟩ := hF
                    refine go_iald dX1_mayStand_145 sh_265 hi ?_
                    refine go_iconst (v := 1) dX1_mayStand_146 (by decide) ?_
                    refine go_icmp_ne 154 dX1_mayStand_147 rfl ⟨fun hc => ?_, fun hc => ?_⟩
                    · have hF := hF.1 hc
                      refine go_iconst (v := 0) dX1_mayStand_154 (by decide) ?_
                      exact go_zret (S := []) dX1_mayStand_155 rfl (by decide) ⟨_, rfl, hF⟩
                    · have hF := hF.2 hc
                      refine go_iconst (v := 1) dX1_mayStand_150 (by decide) ?_
                      refine go_goto 155 dX1_mayStand_151 rfl ?_
                      exact go_zret (S := []) dX1_mayStand_155 rfl (by decide) ⟨_, rfl, hF⟩
              · have hF := hF.2 hc
                refine go_iconst (v := 0) dX1_mayStand_96 (by decide) ?_
                exact go_zret (S := []) dX1_mayStand_97 rfl (by decide) ⟨_, rfl, hF⟩
      · have hF := hF.2 hp
        refine go_callV mX8_hasLaw dX1_mayStand_27 lm_X1_54 okX8_hasLaw isX8_hasLaw ht3.1 rfl (As := [.int 1]) (S := []) rfl rfl (Nat.le_of_ble_eq_true rfl) (eX8_hasLaw G _ t3 ht3 1 m1 (fun r m' => r = 0 ∧ m1 = m') ho ⟨fun q => absurd q hp, fun _ => ⟨rfl, rfl⟩⟩) (k_i (fun r m' hr => ?_))
        obtain ⟨hr1, hr2⟩ := hr
        subst hr1
        subst hr2
        refine go_if_ne 35 dX1_mayStand_30 rfl ⟨fun hc => absurd hc (by decide), fun _ => ?_⟩
        refine go_iconst (v := 1) dX1_mayStand_33 (by decide) ?_
        exact go_zret (S := []) dX1_mayStand_34 rfl (by decide) ⟨_, rfl, hF⟩
    · have hF := hF.2 hc
      refine go_iconst (v := 2) dX1_mayStand_11 (by decide) ?_
      refine go_goto 16 dX1_mayStand_12 rfl ?_
      refine go_istore (L' := [.ref (ga G 262), .int a0, .int a1, .int a2, .ref (ga G t3), .int 2, uu, uu, uu]) dX1_mayStand_16 (Nat.le_of_ble_eq_true rfl) rfl ?_
      refine go_aload dX1_mayStand_18 rfl ?_
      refine go_ifnullR dX1_mayStand_20 ?_
      refine go_aload dX1_mayStand_23 rfl ?_
      refine go_iload dX1_mayStand_25 rfl ?_
      obtain ⟨ho, hF⟩ := hF
      rcases Classical.em (m1.1 (t3 + 4) (2 : Int32).toNatClampNeg < m1.1 (t3 + 5) (2 : Int32).toNatClampNeg) with hp | hp
      · have hF := hF.1 hp
        refine go_callV mX8_hasLaw dX1_mayStand_27 lm_X1_54 okX8_hasLaw isX8_hasLaw ht3.1 rfl (As := [.int 2]) (S := []) rfl rfl (Nat.le_of_ble_eq_true rfl) (eX8_hasLaw G _ t3 ht3 2 m1 (fun r m' => r = 1 ∧ m1 = m') ho ⟨fun _ => ⟨rfl, rfl⟩, fun q => absurd hp q⟩) (k_i (fun r m' hr => ?_))
        obtain ⟨hr1, hr2⟩ := hr
        subst hr1
        subst hr2
        refine go_if_ne 35 dX1_mayStand_30 rfl ⟨fun _ => ?_, fun hc => absurd hc (by decide)⟩
        refine go_iload_n dX1_mayStand_35 rfl ?_
        refine go_iconst (v := -1) dX1_mayStand_36 (by decide) ?_
        refine go_icmp_ne 44 dX1_mayStand_37 rfl ⟨fun hc => ?_, fun hc => ?_⟩
        · have hF := hF.1 hc
          refine go_iload_n dX1_mayStand_44 rfl ?_
          refine go_istore (L' := [.ref (ga G 262), .int a0, .int a1, .int a2, .ref (ga G t3), .int 2, .int a0, uu, uu]) dX1_mayStand_45 (Nat.le_of_ble_eq_true rfl) rfl ?_
          refine go_aload dX1_mayStand_47 rfl ?_
          refine go_getI (k := 4) dX1_mayStand_49 ht3.1 rfl inX8 (Nat.le_of_ble_eq_true rfl) lf_X1_95 rfl ?_
          refine go_if_eq 59 dX1_mayStand_52 rfl ⟨fun hc => ?_, fun hc => ?_⟩
          · have hF := hF.1 hc
            refine go_iload_n dX1_mayStand_59 rfl ?_
            refine go_iconst (v := 1) dX1_mayStand_60 (by decide) ?_
            refine go_mmin dX1_mayStand_61 lm_X1_99 (Nat.le_of_ble_eq_true rfl) ?_
            refine Gw.namei (fun x30 ex30 => ?_)
            have hF := hF x30 ex30
            refine go_istore (L' := [.ref (ga G 262), .int a0, .int a1, .int a2, .ref (ga G t3), .int 2, .int a0, .int x30, uu]) dX1_mayStand_64 (Nat.le_of_ble_eq_true rfl) rfl ?_
            refine go_iload dX1_mayStand_66 rfl ?_
            refine go_bipush (v := 10) dX1_mayStand_68 (by decide) ?_
            refine go_imul dX1_mayStand_70 ?_
            refine go_iload dX1_mayStand_71 rfl ?_
            refine go_iadd dX1_mayStand_73 ?_
            refine go_bipush (v := 10) dX1_mayStand_74 (by decide) ?_
            refine go_imul dX1_mayStand_76 ?_
            refine go_iload_n dX1_mayStand_77 rfl ?_
            refine go_iadd dX1_mayStand_78 ?_
            refine Gw.namei (fun x31 ex31 => ?_)
            have hF := hF x31 ex31
            refine go_istore (L' := [.ref (ga G 262), .int a0, .int a1, .int a2, .ref (ga G t3), .int 2, .int a0, .int x30, .int x31]) dX1_mayStand_79 (Nat.le_of_ble_eq_true rfl) rfl ?_
            refine go_iload dX1_mayStand_81 rfl ?_
            refine go_if_lt 96 dX1_mayStand_83 rfl ⟨fun hc => ?_, fun hc => ?_⟩
            · have hF := hF.1 hc
              refine go_iconst (v := 0) dX1_mayStand_96 (by decide) ?_
              exact go_zret (S := []) dX1_mayStand_97 rfl (by decide) ⟨_, rfl, hF⟩
            · have hF := hF.2 hc
              refine go_iload dX1_mayStand_86 rfl ?_
              refine go_aload_n dX1_mayStand_88 rfl ?_
              refine go_getR (k := 4) (r := 265) dX1_mayStand_89 sh_262 rfl inX1 (Nat.le_of_ble_eq_true rfl) lf_X1_22 rfl rfl ?_
              refine go_alenI dX1_mayStand_92 sh_265 ?_
              refine go_icmp_lt 98 dX1_mayStand_93 rfl ⟨fun hc => ?_, fun hc => ?_⟩
              · have hF := hF.1 hc
                refine go_aload_n dX1_mayStand_98 rfl ?_
                refine go_getR (k := 4) (r := 265) dX1_mayStand_99 sh_262 rfl inX1 (Nat.le_of_ble_eq_true rfl) lf_X1_22 rfl rfl ?_
                refine go_iload dX1_mayStand_102 rfl ?_
                obtain ⟨hi, hF⟩ := hF
                refine go_iald dX1_mayStand_104 sh_265 hi ?_
                refine go_if_ne 139 dX1_mayStand_105 rfl ⟨fun hc => ?_, fun hc => ?_⟩
                · have hF := hF.1 hc
                  refine go_aload_n dX1_mayStand_139 rfl ?_
                  refine go_getR (k := 4) (r := 265) dX1_mayStand_140 sh_262 rfl inX1 (Nat.le_of_ble_eq_true rfl) lf_X1_22 rfl rfl ?_
                  refine go_iload dX1_mayStand_143 rfl ?_
                  obtain ⟨hi, hF⟩ := hF
                  refine go_iald dX1_mayStand_145 sh_265 hi ?_
                  refine go_iconst (v := 1) dX1_mayStand_146 (by decide) ?_
                  refine go_icmp_ne 154 dX1_mayStand_147 rfl ⟨fun hc => ?_, fun hc => ?_⟩
                  · have hF := hF.1 hc
                    refine go_iconst (v := 0) dX1_mayStand_154 (by decide) ?_
                    exact go_zret (S := []) dX1_mayStand_155 rfl (by decide) ⟨_, rfl, hF⟩
                  · have hF := hF.2 hc
                    refine go_iconst (v := 1) dX1_mayStand_150 (by decide) ?_
                    refine go_goto 155 dX1_mayStand_151 rfl ?_
                    exact go_zret (S := []) dX1_mayStand_155 rfl (by decide) ⟨_, rfl, hF⟩
                · have hF := hF.2 hc
                  refine go_aload_n dX1_mayStand_108 rfl ?_
                  refine go_iload dX1_mayStand_109 rfl ?_
                  refine go_iload_n dX1_mayStand_111 rfl ?_
                  refine go_iload_n dX1_mayStand_112 rfl ?_
                  refine go_callV mX1_namePair dX1_mayStand_113 lm_X1_105 okX1_namePair isX1_namePair sh_262 rfl (As := [.int a0, .int a1, .int a2]) (S := []) rfl rfl (Nat.le_of_ble_eq_true rfl) hF (k_v (fun m32 hF => ?_))
                  refine go_aload_n dX1_mayStand_116 rfl ?_
                  refine go_getR (k := 4) (r := 265) dX1_mayStand_117 sh_262 rfl inX1 (Nat.le_of_ble_eq_true rfl) lf_X1_22 rfl rfl ?_
                  refine go_iload dX1_mayStand_120 rfl ?_
                  refine go_aload_n dX1_mayStand_122 rfl ?_
                  refine go_aload dX1_mayStand_123 rfl ?_
                  refine go_iload dX1_mayStand_125 rfl ?_
                  refine go_callV mX1_says dX1_mayStand_127 lm_X1_91 okX1_says isX1_says sh_262 rfl (As := [.ref (ga G t3), .int 2]) (S := [.int x31, .ref (ga G 265)]) rfl rfl (Nat.le_of_ble_eq_true rfl) hF (k_i (fun r34 m33 hF => ?_))
                  refine go_if_eq 137 dX1_mayStand_130 rfl ⟨fun hc => ?_, fun hc => ?_⟩
                  · have hF := hF.1 hc
                    refine go_iconst (v := 2) dX1_mayStand_137 (by decide) ?_
                    obtain ⟨hi, hF⟩ := hF
                    refine go_iast dX1_mayStand_138 sh_265 hi ?_
                    obtain ⟨m35, em35⟩ : ∃ z : Mem, z = wI m33 265 x31.toNatClampNeg 2 := ⟨_, rfl⟩
                    rw [← em35]
                    have hF := hF m35 em35
                    refine go_aload_n dX1_mayStand_139 rfl ?_
                    refine go_getR (k := 4) (r := 265) dX1_mayStand_140 sh_262 rfl inX1 (Nat.le_of_ble_eq_true rfl) lf_X1_22 rfl rfl ?_
                    refine go_iload dX1_mayStand_143 rfl ?_
                    obtain ⟨hi, hF⟩ := hF
                    refine go_iald dX1_mayStand_145 sh_265 hi ?_
                    refine go_iconst (v := 1) dX1_mayStand_146 (by decide) ?_
                    refine go_icmp_ne 154 dX1_mayStand_147 rfl ⟨fun hc => ?_, fun hc => ?_⟩
                    · have hF := hF.1 hc
                      refine go_iconst (v := 0) dX1_mayStand_154 (by decide) ?_
                      exact go_zret (S := []) dX1_mayStand_155 rfl (by decide) ⟨_, rfl, hF⟩
                    · have hF := hF.2 hc
                      refine go_iconst (v := 1) dX1_mayStand_150 (by decide) ?_
                      refine go_goto 155 dX1_mayStand_151 rfl ?_
                      exact go_zret (S := []) dX1_mayStand_155 rfl (by decide) ⟨_, rfl, hF⟩
                  · have hF := hF.2 hc
                    refine go_iconst (v := 1) dX1_mayStand_133 (by decide) ?_
                    refine go_goto 138 dX1_mayStand_134 rfl ?_
                    obtain ⟨hi, hF⟩ := hF
                    refine go_iast dX1_mayStand_138 sh_265 hi ?_
                    obtain ⟨m36, em36⟩ : ∃ z : Mem, z = wI m33 265 x31.toNatClampNeg 1 := ⟨_, rfl⟩
                    rw [← em36]
                    have hF := hF m36 em36
                    refine go_aload_n dX1_mayStand_139 rfl ?_
                    refine go_getR (k := 4) (r := 265) dX1_mayStand_140 sh_262 rfl inX1 (Nat.le_of_ble_eq_true rfl) lf_X1_22 rfl rfl ?_
                    refine go_iload dX1_mayStand_143 rfl ?_
                    obtain ⟨hi, hF⟩ := hF
                    refine go_iald dX1_mayStand_145 sh_265 hi ?_
                    refine go_iconst (v := 1) dX1_mayStand_146 (by decide) ?_
                    refine go_icmp_ne 154 dX1_mayStand_147 rfl ⟨fun hc => ?_, fun hc => ?_⟩
                    · have hF := hF.1 hc
                      refine go_iconst (v := 0) dX1_mayStand_154 (by decide) ?_
                      exact go_zret (S := []) dX1_mayStand_155 rfl (by decide) ⟨_, rfl, hF⟩
                    · have hF := hF.2 hc
                      refine go_iconst (v := 1) dX1_mayStand_150 (by decide) ?_
                      refine go_goto 155 dX1_mayStand_151 rfl ?_
                      exact go_zret (S := []) dX1_mayStand_155 rfl (by decide) ⟨_, rfl, hF⟩
              · have hF := hF.2 hc
                refine go_iconst (v := 0) dX1_mayStand_96 (by decide) ?_
                exact go_zret (S := []) dX1_mayStand_97 rfl (by decide) ⟨_, rfl, hF⟩
          · have hF := hF.2 hc
            refine go_iload_n dX1_mayStand_55 rfl ?_
            refine go_goto 64 dX1_mayStand_56 rfl ?_
            refine go_istore (L' := [.ref (ga G 262), .int a0, .int a1, .int a2, .ref (ga G t3), .int 2, .int a0, .int a2, uu]) dX1_mayStand_64 (Nat.le_of_ble_eq_true rfl) rfl ?_
            refine go_iload dX1_mayStand_66 rfl ?_
            refine go_bipush (v := 10) dX1_mayStand_68 (by decide) ?_
            refine go_imul dX1_mayStand_70 ?_
            refine go_iload dX1_mayStand_71 rfl ?_
            refine go_iadd dX1_mayStand_73 ?_
            refine go_bipush (v := 10) dX1_mayStand_74 (by decide) ?_
            refine go_imul dX1_mayStand_76 ?_
            refine go_iload_n dX1_mayStand_77 rfl ?_
            refine go_iadd dX1_mayStand_78 ?_
            refine Gw.namei (fun x37 ex37 => ?_)
            have hF := hF x37 ex37
            refine go_istore (L' := [.ref (ga G 262), .int a0, .int a1, .int a2, .ref (ga G t3), .int 2, .int a0, .int a2, .int x37]) dX1_mayStand_79 (Nat.le_of_ble_eq_true rfl) rfl ?_
            refine go_iload dX1_mayStand_81 rfl ?_
            refine go_if_lt 96 dX1_mayStand_83 rfl ⟨fun hc => ?_, fun hc => ?_⟩
            · have hF := hF.1 hc
              refine go_iconst (v := 0) dX1_mayStand_96 (by decide) ?_
              exact go_zret (S := []) dX1_mayStand_97 rfl (by decide) ⟨_, rfl, hF⟩
            · have hF := hF.2 hc
              refine go_iload dX1_mayStand_86 rfl ?_
              refine go_aload_n dX1_mayStand_88 rfl ?_
              refine go_getR (k := 4) (r := 265) dX1_mayStand_89 sh_262 rfl inX1 (Nat.le_of_ble_eq_true rfl) lf_X1_22 rfl rfl ?_
              refine go_alenI dX1_mayStand_92 sh_265 ?_
              refine go_icmp_lt 98 dX1_mayStand_93 rfl ⟨fun hc => ?_, fun hc => ?_⟩
              · have hF := hF.1 hc
                refine go_aload_n dX1_mayStand_98 rfl ?_
                refine go_getR (k := 4) (r := 265) dX1_mayStand_99 sh_262 rfl inX1 (Nat.le_of_ble_eq_true rfl) lf_X1_22 rfl rfl ?_
                refine go_iload dX1_mayStand_102 rfl ?_
                obtain ⟨hi, hF⟩ := hF
                refine go_iald dX1_mayStand_104 sh_265 hi ?_
                refine go_if_ne 139 dX1_mayStand_105 rfl ⟨fun hc => ?_, fun hc => ?_⟩
                · have hF := hF.1 hc
                  refine go_aload_n dX1_mayStand_139 rfl ?_
                  refine go_getR (k := 4) (r := 265) dX1_mayStand_140 sh_262 rfl inX1 (Nat.le_of_ble_eq_true rfl) lf_X1_22 rfl rfl ?_
                  refine go_iload dX1_mayStand_143 rfl ?_
                  obtain ⟨hi, hF⟩ := hF
                  refine go_iald dX1_mayStand_145 sh_265 hi ?_
                  refine go_iconst (v := 1) dX1_mayStand_146 (by decide) ?_
                  refine go_icmp_ne 154 dX1_mayStand_147 rfl ⟨fun hc => ?_, fun hc => ?_⟩
                  · have hF := hF.1 hc
                    refine go_iconst (v := 0) dX1_mayStand_154 (by decide) ?_
                    exact go_zret (S := []) dX1_mayStand_155 rfl (by decide) ⟨_, rfl, hF⟩
                  · have hF := hF.2 hc
                    refine go_iconst (v := 1) dX1_mayStand_150 (by decide) ?_
                    refine go_goto 155 dX1_mayStand_151 rfl ?_
                    exact go_zret (S := []) dX1_mayStand_155 rfl (by decide) ⟨_, rfl, hF⟩
                · have hF := hF.2 hc
                  refine go_aload_n dX1_mayStand_108 rfl ?_
                  refine go_iload dX1_mayStand_109 rfl ?_
                  refine go_iload_n dX1_mayStand_111 rfl ?_
                  refine go_iload_n dX1_mayStand_112 rfl ?_
                  refine go_callV mX1_namePair dX1_mayStand_113 lm_X1_105 okX1_namePair isX1_namePair sh_262 rfl (As := [.int a0, .int a1, .int a2]) (S := []) rfl rfl (Nat.le_of_ble_eq_true rfl) hF (k_v (fun m38 hF => ?_))
                  refine go_aload_n dX1_mayStand_116 rfl ?_
                  refine go_getR (k := 4) (r := 265) dX1_mayStand_117 sh_262 rfl inX1 (Nat.le_of_ble_eq_true rfl) lf_X1_22 rfl rfl ?_
                  refine go_iload dX1_mayStand_120 rfl ?_
                  refine go_aload_n dX1_mayStand_122 rfl ?_
                  refine go_aload dX1_mayStand_123 rfl ?_
                  refine go_iload dX1_mayStand_125 rfl ?_
                  refine go_callV mX1_says dX1_mayStand_127 lm_X1_91 okX1_says isX1_says sh_262 rfl (As := [.ref (ga G t3), .int 2]) (S := [.int x37, .ref (ga G 265)]) rfl rfl (Nat.le_of_ble_eq_true rfl) hF (k_i (fun r40 m39 hF => ?_))
                  refine go_if_eq 137 dX1_mayStand_130 rfl ⟨fun hc => ?_, fun hc => ?_⟩
                  · have hF := hF.1 hc
                    refine go_iconst (v := 2) dX1_mayStand_137 (by decide) ?_
                    obtain ⟨hi, hF⟩ := hF
                    refine go_iast dX1_mayStand_138 sh_265 hi ?_
                    obtain ⟨m41, em41⟩ : ∃ z : Mem, z = wI m39 265 x37.toNatClampNeg 2 := ⟨_, rfl⟩
                    rw [← em41]
                    have hF := hF m41 em41
                    refine go_aload_n dX1_mayStand_139 rfl ?_
                    refine go_getR (k := 4) (r := 265) dX1_mayStand_140 sh_262 rfl inX1 (Nat.le_of_ble_eq_true rfl) lf_X1_22 rfl rfl ?_
                    refine go_iload dX1_mayStand_143 rfl ?_
                    obtain ⟨hi, hF⟩ := hF
                    refine go_iald dX1_mayStand_145 sh_265 hi ?_
                    refine go_iconst (v := 1) dX1_mayStand_146 (by decide) ?_
                    refine go_icmp_ne 154 dX1_mayStand_147 rfl ⟨fun hc => ?_, fun hc => ?_⟩
                    · have hF := hF.1 hc
                      refine go_iconst (v := 0) dX1_mayStand_154 (by decide) ?_
                      exact go_zret (S := []) dX1_mayStand_155 rfl (by decide) ⟨_, rfl, hF⟩
                    · have hF := hF.2 hc
                      refine go_iconst (v := 1) dX1_mayStand_150 (by decide) ?_
                      refine go_goto 155 dX1_mayStand_151 rfl ?_
                      exact go_zret (S := []) dX1_mayStand_155 rfl (by decide) ⟨_, rfl, hF⟩
                  · have hF := hF.2 hc
                    refine go_iconst (v := 1) dX1_mayStand_133 (by decide) ?_
                    refine go_goto 138 dX1_mayStand_134 rfl ?_
                    obtain ⟨hi, hF⟩ := hF
                    refine go_iast dX1_mayStand_138 sh_265 hi ?_
                    obtain ⟨m42, em42⟩ : ∃ z : Mem, z = wI m39 265 x37.toNatClampNeg 1 := ⟨_, rfl⟩
                    rw [← em42]
                    have hF := hF m42 em42
                    refine go_aload_n dX1_mayStand_139 rfl ?_
                    refine go_getR (k := 4) (r := 265) dX1_mayStand_140 sh_262 rfl inX1 (Nat.le_of_ble_eq_true rfl) lf_X1_22 rfl rfl ?_
                    refine go_iload dX1_mayStand_143 rfl ?_
                    obtain ⟨hi, hF⟩ := hF
                    refine go_iald dX1_mayStand_145 sh_265 hi ?_
                    refine go_iconst (v := 1) dX1_mayStand_146 (by decide) ?_
                    refine go_icmp_ne 154 dX1_mayStand_147 rfl ⟨fun hc => ?_, fun hc => ?_⟩
                    · have hF := hF.1 hc
                      refine go_iconst (v := 0) dX1_mayStand_154 (by decide) ?_
                      exact go_zret (S := []) dX1_mayStand_155 rfl (by decide) ⟨_, rfl, hF⟩
                    · have hF := hF.2 hc
                      refine go_iconst (v := 1) dX1_mayStand_150 (by decide) ?_
                      refine go_goto 155 dX1_mayStand_151 rfl ?_
                      exact go_zret (S := []) dX1_mayStand_155 rfl (by decide) ⟨_, rfl, hF⟩
              · have hF := hF.2 hc
                refine go_iconst (v := 0) dX1_mayStand_96 (by decide) ?_
                exact go_zret (S := []) dX1_mayStand_97 rfl (by decide) ⟨_, rfl, hF⟩
        · have hF := hF.2 hc
          refine go_iload_n dX1_mayStand_40 rfl ?_
          refine go_goto 45 dX1_mayStand_41 rfl ?_
          refine go_istore (L' := [.ref (ga G 262), .int a0, .int a1, .int a2, .ref (ga G t3), .int 2, .int a1, uu, uu]) dX1_mayStand_45 (Nat.le_of_ble_eq_true rfl) rfl ?_
          refine go_aload dX1_mayStand_47 rfl ?_
          refine go_getI (k := 4) dX1_mayStand_49 ht3.1 rfl inX8 (Nat.le_of_ble_eq_true rfl) lf_X1_95 rfl ?_
          refine go_if_eq 59 dX1_mayStand_52 rfl ⟨fun hc => ?_, fun hc => ?_⟩
          · have hF := hF.1 hc
            refine go_iload_n dX1_mayStand_59 rfl ?_
            refine go_iconst (v := 1) dX1_mayStand_60 (by decide) ?_
            refine go_mmin dX1_mayStand_61 lm_X1_99 (Nat.le_of_ble_eq_true rfl) ?_
            refine Gw.namei (fun x43 ex43 => ?_)
            have hF := hF x43 ex43
            refine go_istore (L' := [.ref (ga G 262), .int a0, .int a1, .int a2, .ref (ga G t3), .int 2, .int a1, .int x43, uu]) dX1_mayStand_64 (Nat.le_of_ble_eq_true rfl) rfl ?_
            refine go_iload dX1_mayStand_66 rfl ?_
            refine go_bipush (v := 10) dX1_mayStand_68 (by decide) ?_
            refine go_imul dX1_mayStand_70 ?_
            refine go_iload dX1_mayStand_71 rfl ?_
            refine go_iadd dX1_mayStand_73 ?_
            refine go_bipush (v := 10) dX1_mayStand_74 (by decide) ?_
            refine go_imul dX1_mayStand_76 ?_
            refine go_iload_n dX1_mayStand_77 rfl ?_
            refine go_iadd dX1_mayStand_78 ?_
            refine Gw.namei (fun x44 ex44 => ?_)
            have hF := hF x44 ex44
            refine go_istore (L' := [.ref (ga G 262), .int a0, .int a1, .int a2, .ref (ga G t3), .int 2, .int a1, .int x43, .int x44]) dX1_mayStand_79 (Nat.le_of_ble_eq_true rfl) rfl ?_
            refine go_iload dX1_mayStand_81 rfl ?_
            refine go_if_lt 96 dX1_mayStand_83 rfl ⟨fun hc => ?_, fun hc => ?_⟩
            · have hF := hF.1 hc
              refine go_iconst (v := 0) dX1_mayStand_96 (by decide) ?_
              exact go_zret (S := []) dX1_mayStand_97 rfl (by decide) ⟨_, rfl, hF⟩
            · have hF := hF.2 hc
              refine go_iload dX1_mayStand_86 rfl ?_
              refine go_aload_n dX1_mayStand_88 rfl ?_
              refine go_getR (k := 4) (r := 265) dX1_mayStand_89 sh_262 rfl inX1 (Nat.le_of_ble_eq_true rfl) lf_X1_22 rfl rfl ?_
              refine go_alenI dX1_mayStand_92 sh_265 ?_
              refine go_icmp_lt 98 dX1_mayStand_93 rfl ⟨fun hc => ?_, fun hc => ?_⟩
              · have hF := hF.1 hc
                refine go_aload_n dX1_mayStand_98 rfl ?_
                refine go_getR (k := 4) (r := 265) dX1_mayStand_99 sh_262 rfl inX1 (Nat.le_of_ble_eq_true rfl) lf_X1_22 rfl rfl ?_
                refine go_iload dX1_mayStand_102 rfl ?_
                obtain ⟨hi, hF⟩ := hF
                refine go_iald dX1_mayStand_104 sh_265 hi ?_
                refine go_if_ne 139 dX1_mayStand_105 rfl ⟨fun hc => ?_, fun hc => ?_⟩
                · have hF := hF.1 hc
                  refine go_aload_n dX1_mayStand_139 rfl ?_
                  refine go_getR (k := 4) (r := 265) dX1_mayStand_140 sh_262 rfl inX1 (Nat.le_of_ble_eq_true rfl) lf_X1_22 rfl rfl ?_
                  refine go_iload dX1_mayStand_143 rfl ?_
                  obtain ⟨hi, hF⟩ := hF
                  refine go_iald dX1_mayStand_145 sh_265 hi ?_
                  refine go_iconst (v := 1) dX1_mayStand_146 (by decide) ?_
                  refine go_icmp_ne 154 dX1_mayStand_147 rfl ⟨fun hc => ?_, fun hc => ?_⟩
                  · have hF := hF.1 hc
                    refine go_iconst (v := 0) dX1_mayStand_154 (by decide) ?_
                    exact go_zret (S := []) dX1_mayStand_155 rfl (by decide) ⟨_, rfl, hF⟩
                  · have hF := hF.2 hc
                    refine go_iconst (v := 1) dX1_mayStand_150 (by decide) ?_
                    refine go_goto 155 dX1_mayStand_151 rfl ?_
                    exact go_zret (S := []) dX1_mayStand_155 rfl (by decide) ⟨_, rfl, hF⟩
                · have hF := hF.2 hc
                  refine go_aload_n dX1_mayStand_108 rfl ?_
                  refine go_iload dX1_mayStand_109 rfl ?_
                  refine go_iload_n dX1_mayStand_111 rfl ?_
                  refine go_iload_n dX1_mayStand_112 rfl ?_
                  refine go_callV mX1_namePair dX1_mayStand_113 lm_X1_105 okX1_namePair isX1_namePair sh_262 rfl (As := [.int a1, .int a1, .int a2]) (S := []) rfl rfl (Nat.le_of_ble_eq_true rfl) hF (k_v (fun m45 hF => ?_))
                  refine go_aload_n dX1_mayStand_116 rfl ?_
                  refine go_getR (k := 4) (r := 265) dX1_mayStand_117 sh_262 rfl inX1 (Nat.le_of_ble_eq_true rfl) lf_X1_22 rfl rfl ?_
                  refine go_iload dX1_mayStand_120 rfl ?_
                  refine go_aload_n dX1_mayStand_122 rfl ?_
                  refine go_aload dX1_mayStand_123 rfl ?_
                  refine go_iload dX1_mayStand_125 rfl ?_
                  refine go_callV mX1_says dX1_mayStand_127 lm_X1_91 okX1_says isX1_says sh_262 rfl (As := [.ref (ga G t3), .int 2]) (S := [.int x44, .ref (ga G 265)]) rfl rfl (Nat.le_of_ble_eq_true rfl) hF (k_i (fun r47 m46 hF => ?_))
                  refine go_if_eq 137 dX1_mayStand_130 rfl ⟨fun hc => ?_, fun hc => ?_⟩
                  · have hF := hF.1 hc
                    refine go_iconst (v := 2) dX1_mayStand_137 (by decide) ?_
                    obtain ⟨hi, hF⟩ := hF
                    refine go_iast dX1_mayStand_138 sh_265 hi ?_
                    obtain ⟨m48, em48⟩ : ∃ z : Mem, z = wI m46 265 x44.toNatClampNeg 2 := ⟨_, rfl⟩
                    rw [← em48]
                    have hF := hF m48 em48
                    refine go_aload_n dX1_mayStand_139 rfl ?_
                    refine go_getR (k := 4) (r := 265) dX1_mayStand_140 sh_262 rfl inX1 (Nat.le_of_ble_eq_true rfl) lf_X1_22 rfl rfl ?_
                    refine go_iload dX1_mayStand_143 rfl ?_
                    obtain ⟨hi, hF⟩ := hF
                    refine go_iald dX1_mayStand_145 sh_265 hi ?_
                    refine go_iconst (v := 1) dX1_mayStand_146 (by decide) ?_
                    refine go_icmp_ne 154 dX1_mayStand_147 rfl ⟨fun hc => ?_, fun hc => ?_⟩
                    · have hF := hF.1 hc
                      refine go_iconst (v := 0) dX1_mayStand_154 (by decide) ?_
                      exact go_zret (S := []) dX1_mayStand_155 rfl (by decide) ⟨_, rfl, hF⟩
                    · have hF := hF.2 hc
                      refine go_iconst (v := 1) dX1_mayStand_150 (by decide) ?_
                      refine go_goto 155 dX1_mayStand_151 rfl ?_
                      exact go_zret (S := []) dX1_mayStand_155 rfl (by decide) ⟨_, rfl, hF⟩
                  · have hF := hF.2 hc
                    refine go_iconst (v := 1) dX1_mayStand_133 (by decide) ?_
                    refine go_goto 138 dX1_mayStand_134 rfl ?_
                    obtain ⟨hi, hF⟩ := hF
                    refine go_iast dX1_mayStand_138 sh_265 hi ?_
                    obtain ⟨m49, em49⟩ : ∃ z : Mem, z = wI m46 265 x44.toNatClampNeg 1 := ⟨_, rfl⟩
                    rw [← em49]
                    have hF := hF m49 em49
                    refine go_aload_n dX1_mayStand_139 rfl ?_
                    refine go_getR (k := 4) (r := 265) dX1_mayStand_140 sh_262 rfl inX1 (Nat.le_of_ble_eq_true rfl) lf_X1_22 rfl rfl ?_
                    refine go_iload dX1_mayStand_143 rfl ?_
                    obtain ⟨hi, hF⟩ := hF
                    refine go_iald dX1_mayStand_145 sh_265 hi ?_
                    refine go_iconst (v := 1) dX1_mayStand_146 (by decide) ?_
                    refine go_icmp_ne 154 dX1_mayStand_147 rfl ⟨fun hc => ?_, fun hc => ?_⟩
                    · have hF := hF.1 hc
                      refine go_iconst (v := 0) dX1_mayStand_154 (by decide) ?_
                      exact go_zret (S := []) dX1_mayStand_155 rfl (by decide) ⟨_, rfl, hF⟩
                    · have hF := hF.2 hc
                      refine go_iconst (v := 1) dX1_mayStand_150 (by decide) ?_
                      refine go_goto 155 dX1_mayStand_151 rfl ?_
                      exact go_zret (S := []) dX1_mayStand_155 rfl (by decide) ⟨_, rfl, hF⟩
              · have hF := hF.2 hc
                refine go_iconst (v := 0) dX1_mayStand_96 (by decide) ?_
                exact go_zret (S := []) dX1_mayStand_97 rfl (by decide) ⟨_, rfl, hF⟩
          · have hF := hF.2 hc
            refine go_iload_n dX1_mayStand_55 rfl ?_
            refine go_goto 64 dX1_mayStand_56 rfl ?_
            refine go_istore (L' := [.ref (ga G 262), .int a0, .int a1, .int a2, .ref (ga G t3), .int 2, .int a1, .int a2, uu]) dX1_mayStand_64 (Nat.le_of_ble_eq_true rfl) rfl ?_
            refine go_iload dX1_mayStand_66 rfl ?_
            refine go_bipush (v := 10) dX1_mayStand_68 (by decide) ?_
            refine go_imul dX1_mayStand_70 ?_
            refine go_iload dX1_mayStand_71 rfl ?_
            refine go_iadd dX1_mayStand_73 ?_
            refine go_bipush (v := 10) dX1_mayStand_74 (by decide) ?_
            refine go_imul dX1_mayStand_76 ?_
            refine go_iload_n dX1_mayStand_77 rfl ?_
            refine go_iadd dX1_mayStand_78 ?_
            refine Gw.namei (fun x50 ex50 => ?_)
            have hF := hF x50 ex50
            refine go_istore (L' := [.ref (ga G 262), .int a0, .int a1, .int a2, .ref (ga G t3), .int 2, .int a1, .int a2, .int x50]) dX1_mayStand_79 (Nat.le_of_ble_eq_true rfl) rfl ?_
            refine go_iload dX1_mayStand_81 rfl ?_
            refine go_if_lt 96 dX1_mayStand_83 rfl ⟨fun hc => ?_, fun hc => ?_⟩
            · have hF := hF.1 hc
              refine go_iconst (v := 0) dX1_mayStand_96 (by decide) ?_
              exact go_zret (S := []) dX1_mayStand_97 rfl (by decide) ⟨_, rfl, hF⟩
            · have hF := hF.2 hc
              refine go_iload dX1_mayStand_86 rfl ?_
              refine go_aload_n dX1_mayStand_88 rfl ?_
              refine go_getR (k := 4) (r := 265) dX1_mayStand_89 sh_262 rfl inX1 (Nat.le_of_ble_eq_true rfl) lf_X1_22 rfl rfl ?_
              refine go_alenI dX1_mayStand_92 sh_265 ?_
              refine go_icmp_lt 98 dX1_mayStand_93 rfl ⟨fun hc => ?_, fun hc => ?_⟩
              · have hF := hF.1 hc
                refine go_aload_n dX1_mayStand_98 rfl ?_
                refine go_getR (k := 4) (r := 265) dX1_mayStand_99 sh_262 rfl inX1 (Nat.le_of_ble_eq_true rfl) lf_X1_22 rfl rfl ?_
                refine go_iload dX1_mayStand_102 rfl ?_
                obtain ⟨hi, hF⟩ := hF
                refine go_iald dX1_mayStand_104 sh_265 hi ?_
                refine go_if_ne 139 dX1_mayStand_105 rfl ⟨fun hc => ?_, fun hc => ?_⟩
                · have hF := hF.1 hc
                  refine go_aload_n dX1_mayStand_139 rfl ?_
                  refine go_getR (k := 4) (r := 265) dX1_mayStand_140 sh_262 rfl inX1 (Nat.le_of_ble_eq_true rfl) lf_X1_22 rfl rfl ?_
                  refine go_iload dX1_mayStand_143 rfl ?_
                  obtain ⟨hi, hF⟩ := hF
                  refine go_iald dX1_mayStand_145 sh_265 hi ?_
                  refine go_iconst (v := 1) dX1_mayStand_146 (by decide) ?_
                  refine go_icmp_ne 154 dX1_mayStand_147 rfl ⟨fun hc => ?_, fun hc => ?_⟩
                  · have hF := hF.1 hc
                    refine go_iconst (v := 0) dX1_mayStand_154 (by decide) ?_
                    exact go_zret (S := []) dX1_mayStand_155 rfl (by decide) ⟨_, rfl, hF⟩
                  · have hF := hF.2 hc
                    refine go_iconst (v := 1) dX1_mayStand_150 (by decide) ?_
                    refine go_goto 155 dX1_mayStand_151 rfl ?_
                    exact go_zret (S := []) dX1_mayStand_155 rfl (by decide) ⟨_, rfl, hF⟩
                · have hF := hF.2 hc
                  refine go_aload_n dX1_mayStand_108 rfl ?_
                  refine go_iload dX1_mayStand_109 rfl ?_
                  refine go_iload_n dX1_mayStand_111 rfl ?_
                  refine go_iload_n dX1_mayStand_112 rfl ?_
                  refine go_callV mX1_namePair dX1_mayStand_113 lm_X1_105 okX1_namePair isX1_namePair sh_262 rfl (As := [.int a1, .int a1, .int a2]) (S := []) rfl rfl (Nat.le_of_ble_eq_true rfl) hF (k_v (fun m51 hF => ?_))
                  refine go_aload_n dX1_mayStand_116 rfl ?_
                  refine go_getR (k := 4) (r := 265) dX1_mayStand_117 sh_262 rfl inX1 (Nat.le_of_ble_eq_true rfl) lf_X1_22 rfl rfl ?_
                  refine go_iload dX1_mayStand_120 rfl ?_
                  refine go_aload_n dX1_mayStand_122 rfl ?_
                  refine go_aload dX1_mayStand_123 rfl ?_
                  refine go_iload dX1_mayStand_125 rfl ?_
                  refine go_callV mX1_says dX1_mayStand_127 lm_X1_91 okX1_says isX1_says sh_262 rfl (As := [.ref (ga G t3), .int 2]) (S := [.int x50, .ref (ga G 265)]) rfl rfl (Nat.le_of_ble_eq_true rfl) hF (k_i (fun r53 m52 hF => ?_))
                  refine go_if_eq 137 dX1_mayStand_130 rfl ⟨fun hc => ?_, fun hc => ?_⟩
                  · have hF := hF.1 hc
                    refine go_iconst (v := 2) dX1_mayStand_137 (by decide) ?_
                    obtain ⟨hi, hF⟩ := hF
                    refine go_iast dX1_mayStand_138 sh_265 hi ?_
                    obtain ⟨m54, em54⟩ : ∃ z : Mem, z = wI m52 265 x50.toNatClampNeg 2 := ⟨_, rfl⟩
                    rw [← em54]
                    have hF := hF m54 em54
                    refine go_aload_n dX1_mayStand_139 rfl ?_
                    refine go_getR (k := 4) (r := 265) dX1_mayStand_140 sh_262 rfl inX1 (Nat.le_of_ble_eq_true rfl) lf_X1_22 rfl rfl ?_
                    refine go_iload dX1_mayStand_143 rfl ?_
                    obtain ⟨hi, hF⟩ := hF
                    refine go_iald dX1_mayStand_145 sh_265 hi ?_
                    refine go_iconst (v := 1) dX1_mayStand_146 (by decide) ?_
                    refine go_icmp_ne 154 dX1_mayStand_147 rfl ⟨fun hc => ?_, fun hc => ?_⟩
                    · have hF := hF.1 hc
                      refine go_iconst (v := 0) dX1_mayStand_154 (by decide) ?_
                      exact go_zret (S := []) dX1_mayStand_155 rfl (by decide) ⟨_, rfl, hF⟩
                    · have hF := hF.2 hc
                      refine go_iconst (v := 1) dX1_mayStand_150 (by decide) ?_
                      refine go_goto 155 dX1_mayStand_151 rfl ?_
                      exact go_zret (S := []) dX1_mayStand_155 rfl (by decide) ⟨_, rfl, hF⟩
                  · have hF := hF.2 hc
                    refine go_iconst (v := 1) dX1_mayStand_133 (by decide) ?_
                    refine go_goto 138 dX1_mayStand_134 rfl ?_
                    obtain ⟨hi, hF⟩ := hF
                    refine go_iast dX1_mayStand_138 sh_265 hi ?_
                    obtain ⟨m55, em55⟩ : ∃ z : Mem, z = wI m52 265 x50.toNatClampNeg 1 := ⟨_, rfl⟩
                    rw [← em55]
                    have hF := hF m55 em55
                    refine go_aload_n dX1_mayStand_139 rfl ?_
                    refine go_getR (k := 4) (r := 265) dX1_mayStand_140 sh_262 rfl inX1 (Nat.le_of_ble_eq_true rfl) lf_X1_22 rfl rfl ?_
                    refine go_iload dX1_mayStand_143 rfl ?_
                    obtain ⟨hi, hF⟩ := hF
                    refine go_iald dX1_mayStand_145 sh_265 hi ?_
                    refine go_iconst (v := 1) dX1_mayStand_146 (by decide) ?_
                    refine go_icmp_ne 154 dX1_mayStand_147 rfl ⟨fun hc => ?_, fun hc => ?_⟩
                    · have hF := hF.1 hc
                      refine go_iconst (v := 0) dX1_mayStand_154 (by decide) ?_
                      exact go_zret (S := []) dX1_mayStand_155 rfl (by decide) ⟨_, rfl, hF⟩
                    · have hF := hF.2 hc
                      refine go_iconst (v := 1) dX1_mayStand_150 (by decide) ?_
                      refine go_goto 155 dX1_mayStand_151 rfl ?_
                      exact go_zret (S := []) dX1_mayStand_155 rfl (by decide) ⟨_, rfl, hF⟩
              · have hF := hF.2 hc
                refine go_iconst (v := 0) dX1_mayStand_96 (by decide) ?_
                exact go_zret (S := []) dX1_mayStand_97 rfl (by decide) ⟨_, rfl, hF⟩
      · have hF := hF.2 hp
        refine go_callV mX8_hasLaw dX1_mayStand_27 lm_X1_54 okX8_hasLaw isX8_hasLaw ht3.1 rfl (As := [.int 2]) (S := []) rfl rfl (Nat.le_of_ble_eq_true rfl) (eX8_hasLaw G _ t3 ht3 2 m1 (fun r m' => r = 0 ∧ m1 = m') ho ⟨fun q => absurd q hp, fun _ => ⟨rfl, rfl⟩⟩) (k_i (fun r m' hr => ?_))
        obtain ⟨hr1, hr2⟩ := hr
        subst hr1
        subst hr2
        refine go_if_ne 35 dX1_mayStand_30 rfl ⟨fun hc => absurd hc (by decide), fun _ => ?_⟩
        refine go_iconst (v := 1) dX1_mayStand_33 (by decide) ?_
        exact go_zret (S := []) dX1_mayStand_34 rfl (by decide) ⟨_, rfl, hF⟩
theorem vX1_follows (G : GP) (d : Nat) (p0 : Nat) (hp0 : TxAt p0) (a1 : Int32) (a2 : Int32) (a3 : Int32) (m : Mem) (K : Int32 → Mem → Prop) (hF : vp_in 1 3 ∧ ((m.1 (p0 + 4) (1 : Int32).toNatClampNeg < m.1 (p0 + 5) (1 : Int32).toNatClampNeg) → Evv G (d + 2) mX1_namePair [.ref (ga G 262), .int a1, .int a2, .int a3] m (fun m1 => Evi G (d + 2) mX1_says [.ref (ga G 262), .ref (ga G p0), .int 1] m1 (fun r3 m2 => (r3 = 0 ∨ r3 = 1) ∧ K r3 m2))) ∧ (¬ (m.1 (p0 + 4) (1 : Int32).toNatClampNeg < m.1 (p0 + 5) (1 : Int32).toNatClampNeg) → K 1 m)) : Evi G (d + 3) mX1_follows [.ref (ga G 262), .ref (ga G p0), .int a1, .int a2, .int a3] m K := by
  refine Ev.go [.ref (ga G 262), .ref (ga G p0), .int a1, .int a2, .int a3] (by decide) (Nat.le_of_ble_eq_true rfl) rfl ?_
  refine go_aload_n dX1_follows_0 rfl ?_
  refine go_iconst (v := 1) dX1_follows_1 (by decide) ?_
  obtain ⟨ho, hF⟩ := hF
  rcases Classical.em (m.1 (p0 + 4) (1 : Int32).toNatClampNeg < m.1 (p0 + 5) (1 : Int32).toNatClampNeg) with hp | hp
  · have hF := hF.1 hp
    refine go_callV mX8_hasLaw dX1_follows_2 lm_X1_54 okX8_hasLaw isX8_hasLaw hp0.1 rfl (As := [.int 1]) (S := []) rfl rfl (Nat.le_of_ble_eq_true rfl) (eX8_hasLaw G _ p0 hp0 1 m (fun r m' => r = 1 ∧ m = m') ho ⟨fun _ => ⟨rfl, rfl⟩, fun q => absurd hp q⟩) (k_i (fun r m' hr => ?_))
    obtain ⟨hr1, hr2⟩ := hr
    subst hr1
    subst hr2
    refine go_if_ne 10 dX1_follows_5 rfl ⟨fun _ => ?_, fun hc => absurd hc (by decide)⟩
    refine go_aload_n dX1_follows_10 rfl ?_
    refine go_iload_n dX1_follows_11 rfl ?_
    refine go_iload_n dX1_follows_12 rfl ?_
    refine go_iload dX1_follows_13 rfl ?_
    refine go_callV mX1_namePair dX1_follows_15 lm_X1_105 okX1_namePair isX1_namePair sh_262 rfl (As := [.int a1, .int a2, .int a3]) (S := []) rfl rfl (Nat.le_of_ble_eq_true rfl) hF (k_v (fun m1 hF => ?_))
    refine go_aload_n dX1_follows_18 rfl ?_
    refine go_aload_n dX1_follows_19 rfl ?_
    refine go_iconst (v := 1) dX1_follows_20 (by decide) ?_
    refine go_callV mX1_says dX1_follows_21 lm_X1_91 okX1_says isX1_says sh_262 rfl (As := [.ref (ga G p0), .int 1]) (S := []) rfl rfl (Nat.le_of_ble_eq_true rfl) hF (k_i (fun r3 m2 hF => ?_))
    exact go_zret (S := []) dX1_follows_24 rfl hF.1 ⟨_, rfl, hF.2⟩
  · have hF := hF.2 hp
    refine go_callV mX8_hasLaw dX1_follows_2 lm_X1_54 okX8_hasLaw isX8_hasLaw hp0.1 rfl (As := [.int 1]) (S := []) rfl rfl (Nat.le_of_ble_eq_true rfl) (eX8_hasLaw G _ p0 hp0 1 m (fun r m' => r = 0 ∧ m = m') ho ⟨fun q => absurd q hp, fun _ => ⟨rfl, rfl⟩⟩) (k_i (fun r m' hr => ?_))
    obtain ⟨hr1, hr2⟩ := hr
    subst hr1
    subst hr2
    refine go_if_ne 10 dX1_follows_5 rfl ⟨fun hc => absurd hc (by decide), fun _ => ?_⟩
    refine go_iconst (v := 1) dX1_follows_8 (by decide) ?_
    exact go_zret (S := []) dX1_follows_9 rfl (by decide) ⟨_, rfl, hF⟩
theorem vX1_namePair (G : GP) (d : Nat) (a0 : Int32) (a1 : Int32) (a2 : Int32) (m : Mem) (K : Mem → Prop) (hF : vp_in a0 10 ∧ Evv G (d) mX1_name [.ref (ga G 262), .int 119, .int (m.1 8 a0.toNatClampNeg)] m (fun m1 => vp_in a0 10 ∧ Evv G (d) mX1_name [.ref (ga G 262), .int 113, .int (m1.1 9 a0.toNatClampNeg)] m1 (fun m2 => vp_in a1 10 ∧ Evv G (d) mX1_name [.ref (ga G 262), .int 120, .int (m2.1 8 a1.toNatClampNeg)] m2 (fun m3 => vp_in a1 10 ∧ Evv G (d) mX1_name [.ref (ga G 262), .int 121, .int (m3.1 9 a1.toNatClampNeg)] m3 (fun m4 => Evv G (d) mX1_name [.ref (ga G 262), .int 122, .int a2] m4 (fun m5 => K m5)))))) : Evv G (d + 1) mX1_namePair [.ref (ga G 262), .int a0, .int a1, .int a2] m K := by
  refine Ev.go [.ref (ga G 262), .int a0, .int a1, .int a2, uu] (by decide) (Nat.le_of_ble_eq_true rfl) rfl ?_
  refine go_aload_n dX1_namePair_0 rfl ?_
  refine go_getR (k := 0) (r := 1) dX1_namePair_1 sh_262 rfl inX1 (Nat.le_of_ble_eq_true rfl) lf_X1_25 rfl rfl ?_
  refine go_getR (k := 0) (r := 2) dX1_namePair_4 sh_1 rfl inX10 (Nat.le_of_ble_eq_true rfl) lf_X1_57 rfl rfl ?_
  refine go_astore (L' := [.ref (ga G 262), .int a0, .int a1, .int a2, .ref (ga G 2)]) dX1_namePair_7 (Nat.le_of_ble_eq_true rfl) rfl ?_
  refine go_aload_n dX1_namePair_9 rfl ?_
  refine go_bipush (v := 119) dX1_namePair_10 (by decide) ?_
  refine go_aload dX1_namePair_12 rfl ?_
  refine go_getR (k := 7) (r := 8) dX1_namePair_14 sh_2 rfl inX2 (Nat.le_of_ble_eq_true rfl) lf_X1_109 rfl rfl ?_
  refine go_iload_n dX1_namePair_17 rfl ?_
  obtain ⟨hi, hF⟩ := hF
  refine go_iald dX1_namePair_18 sh_8 hi ?_
  refine go_callV mX1_name dX1_namePair_19 lm_X1_78 okX1_name isX1_name sh_262 rfl (As := [.int 119, .int (m.1 8 a0.toNatClampNeg)]) (S := []) rfl rfl (Nat.le_of_ble_eq_true rfl) hF (k_v (fun m1 hF => ?_))
  refine go_aload_n dX1_namePair_22 rfl ?_
  refine go_bipush (v := 113) dX1_namePair_23 (by decide) ?_
  refine go_aload dX1_namePair_25 rfl ?_
  refine go_getR (k := 8) (r := 9) dX1_namePair_27 sh_2 rfl inX2 (Nat.le_of_ble_eq_true rfl) lf_X1_112 rfl rfl ?_
  refine go_iload_n dX1_namePair_30 rfl ?_
  obtain ⟨hi, hF⟩ := hF
  refine go_iald dX1_namePair_31 sh_9 hi ?_
  refine go_callV mX1_name dX1_namePair_32 lm_X1_78 okX1_name isX1_name sh_262 rfl (As := [.int 113, .int (m1.1 9 a0.toNatClampNeg)]) (S := []) rfl rfl (Nat.le_of_ble_eq_true rfl) hF (k_v (fun m2 hF => ?_))
  refine go_aload_n dX1_namePair_35 rfl ?_
  refine go_bipush (v := 120) dX1_namePair_36 (by decide) ?_
  refine go_aload dX1_namePair_38 rfl ?_
  refine go_getR (k := 7) (r := 8) dX1_namePair_40 sh_2 rfl inX2 (Nat.le_of_ble_eq_true rfl) lf_X1_109 rfl rfl ?_
  refine go_iload_n dX1_namePair_43 rfl ?_
  obtain ⟨hi, hF⟩ := hF
  refine go_iald dX1_namePair_44 sh_8 hi ?_
  refine go_callV mX1_name dX1_namePair_45 lm_X1_78 okX1_name isX1_name sh_262 rfl (As := [.int 120, .int (m2.1 8 a1.toNatClampNeg)]) (S := []) rfl rfl (Nat.le_of_ble_eq_true rfl) hF (k_v (fun m3 hF => ?_))
  refine go_aload_n dX1_namePair_48 rfl ?_
  refine go_bipush (v := 121) dX1_namePair_49 (by decide) ?_
  refine go_aload dX1_namePair_51 rfl ?_
  refine go_getR (k := 8) (r := 9) dX1_namePair_53 sh_2 rfl inX2 (Nat.le_of_ble_eq_true rfl) lf_X1_112 rfl rfl ?_
  refine go_iload_n dX1_namePair_56 rfl ?_
  obtain ⟨hi, hF⟩ := hF
  refine go_iald dX1_namePair_57 sh_9 hi ?_
  refine go_callV mX1_name dX1_namePair_58 lm_X1_78 okX1_name isX1_name sh_262 rfl (As := [.int 121, .int (m3.1 9 a1.toNatClampNeg)]) (S := []) rfl rfl (Nat.le_of_ble_eq_true rfl) hF (k_v (fun m4 hF => ?_))
  refine go_aload_n dX1_namePair_61 rfl ?_
  refine go_bipush (v := 122) dX1_namePair_62 (by decide) ?_
  refine go_iload_n dX1_namePair_64 rfl ?_
  refine go_callV mX1_name dX1_namePair_65 lm_X1_78 okX1_name isX1_name sh_262 rfl (As := [.int 122, .int a2]) (S := []) rfl rfl (Nat.le_of_ble_eq_true rfl) hF (k_v (fun m5 hF => ?_))
  exact go_vret (S := []) dX1_namePair_68 rfl ⟨rfl, hF⟩
theorem vX1_name (G : GP) (d : Nat) (a0 : Int32) (a1 : Int32) (m : Mem) (K : Mem → Prop) (hF : vp_in (a0 - 100) 23 ∧ ∀ m1 : Mem, m1 = wI m 263 (a0 - 100).toNatClampNeg a1 → K m1) : Evv G (d) mX1_name [.ref (ga G 262), .int a0, .int a1] m K := by
  refine Ev.go [.ref (ga G 262), .int a0, .int a1] (by decide) (Nat.le_of_ble_eq_true rfl) rfl ?_
  refine go_aload_n dX1_name_0 rfl ?_
  refine go_getR (k := 2) (r := 263) dX1_name_1 sh_262 rfl inX1 (Nat.le_of_ble_eq_true rfl) lf_X1_11 rfl rfl ?_
  refine go_iload_n dX1_name_4 rfl ?_
  refine go_bipush (v := 100) dX1_name_5 (by decide) ?_
  refine go_isub dX1_name_7 ?_
  refine go_iload_n dX1_name_8 rfl ?_
  obtain ⟨hi, hF⟩ := hF
  refine go_iast dX1_name_9 sh_263 hi ?_
  obtain ⟨m1, em1⟩ : ∃ z : Mem, z = wI m 263 (a0 - 100).toNatClampNeg a1 := ⟨_, rfl⟩
  rw [← em1]
  have hF := hF m1 em1
  exact go_vret (S := []) dX1_name_10 rfl ⟨rfl, hF⟩
theorem vX1_says (G : GP) (d : Nat) (p0 : Nat) (hp0 : TxAt p0) (a1 : Int32) (m : Mem) (K : Int32 → Mem → Prop) (hF : vp_in a1 3 ∧ ∀ x1 : Int32, x1 = m.1 (p0 + 4) a1.toNatClampNeg → Gw G (d + 2) mX1_says 10 [.ref (ga G 262), .ref (ga G p0), .int a1, .int 0, .int x1, uu] [] m (Qi K)) : Evi G (d + 2) mX1_says [.ref (ga G 262), .ref (ga G p0), .int a1] m K := by
  refine Ev.go [.ref (ga G 262), .ref (ga G p0), .int a1, uu, uu, uu] (by decide) (Nat.le_of_ble_eq_true rfl) rfl ?_
  refine go_iconst (v := 0) dX1_says_0 (by decide) ?_
  refine go_istore_n (L' := [.ref (ga G 262), .ref (ga G p0), .int a1, .int 0, uu, uu]) dX1_says_1 (Nat.le_of_ble_eq_true rfl) rfl ?_
  refine go_aload_n dX1_says_2 rfl ?_
  refine go_getR (k := 7) (r := (p0 + 4)) dX1_says_3 hp0.1 rfl inX8 (Nat.le_of_ble_eq_true rfl) lf_X1_115 rfl rfl ?_
  refine go_iload_n dX1_says_6 rfl ?_
  obtain ⟨hi, hF⟩ := hF
  refine go_iald dX1_says_7 hp0.2.2.2.2.1 hi ?_
  refine Gw.namei (fun x1 ex1 => ?_)
  have hF := hF x1 ex1
  refine go_istore (L' := [.ref (ga G 262), .ref (ga G p0), .int a1, .int 0, .int x1, uu]) dX1_says_8 (Nat.le_of_ble_eq_true rfl) rfl ?_
  exact hF
theorem vX1_says_10 (G : GP) (d : Nat) (p0 : Nat) (hp0 : TxAt p0) (l2 : Int32) (l3 : Int32) (l4 : Int32) (u5 : Value) (m : Mem) (K : Int32 → Mem → Prop) (hF : vp_in l2 3 ∧ (((m.1 (p0 + 5) l2.toNatClampNeg) ≤ l4) → (((m.1 264 0) = 0) → K 0 m) ∧ ((¬ (m.1 264 0) = 0) → K 1 m)) ∧ ((¬ (m.1 (p0 + 5) l2.toNatClampNeg) ≤ l4) → ((64 ≤ l3) → (((m.1 264 0) = 0) → K 0 m) ∧ ((¬ (m.1 264 0) = 0) → K 1 m)) ∧ ((¬ 64 ≤ l3) → vp_in l4 300 ∧ ∀ x2 : Int32, x2 = m.1 (p0 + 3) l4.toNatClampNeg → ((x2 = 115 ∨ x2 = 114 ∨ (x2 < 100 ∧ ¬ x2 = 5)) → ((l3 ≤ 1) → ∀ x3 : Int32, x3 = l4 + 1 → Gw G (d + 2) mX1_says 10 [.ref (ga G 262), .ref (ga G p0), .int l2, .int l3, .int x3, .int x2] [] m (Qi K)) ∧ ((¬ l3 ≤ 1) → ∀ x4 : Int32, x4 = l3 + (-1) → ((¬ x2 = 94) → vp_in (x4 - 1) 64 ∧ vp_in x4 64 ∧ Evl G (d + 1) mX1_joined [.int x2, .long ((m.1 264 (x4 - 1).toNatClampNeg).toInt64), .long ((m.1 264 x4.toNatClampNeg).toInt64)] m (fun r6 m5 => vp_in (x4 - 1) 64 ∧ ∀ m7 : Mem, m7 = wI m5 264 (x4 - 1).toNatClampNeg (heldV r6) → ∀ x8 : Int32, x8 = l4 + 1 → Gw G (d + 2) mX1_says 10 [.ref (ga G 262), .ref (ga G p0), .int l2, .int x4, .int x8, .int x2] [] m7 (Qi K))) ∧ ((x2 = 94) → vp_in (x4 - 1) 64 ∧ vp_in x4 64 ∧ Evi G (d + 1) mX1_power [.int (m.1 264 (x4 - 1).toNatClampNeg), .int (m.1 264 x4.toNatClampNeg)] m (fun r10 m9 => vp_in (x4 - 1) 64 ∧ ∀ m11 : Mem, m11 = wI m9 264 (x4 - 1).toNatClampNeg r10 → ∀ x12 : Int32, x12 = l4 + 1 → Gw G (d + 2) mX1_says 10 [.ref (ga G 262), .ref (ga G p0), .int l2, .int x4, .int x12, .int x2] [] m11 (Qi K))))) ∧ (¬ (x2 = 115 ∨ x2 = 114 ∨ (x2 < 100 ∧ ¬ x2 = 5)) → ((x2 = 116) → ((l3 ≤ 0) → ∀ x13 : Int32, x13 = l4 + 1 → Gw G (d + 2) mX1_says 10 [.ref (ga G 262), .ref (ga G p0), .int l2, .int l3, .int x13, .int x2] [] m (Qi K)) ∧ ((¬ l3 ≤ 0) → ((¬ x2 = 116) → vp_in (l3 - 1) 64 ∧ vp_in (l3 - 1) 64 ∧ ∀ m14 : Mem, m14 = wI m 264 (l3 - 1).toNatClampNeg ((0 : Int32) - (m.1 264 (l3 - 1).toNatClampNeg)) → ∀ x15 : Int32, x15 = l4 + 1 → Gw G (d + 2) mX1_says 10 [.ref (ga G 262), .ref (ga G p0), .int l2, .int l3, .int x15, .int x2] [] m14 (Qi K)) ∧ ((x2 = 116) → vp_in (l3 - 1) 64 ∧ vp_in (l3 - 1) 64 ∧ ∀ m16 : Mem, m16 = wI m 264 (l3 - 1).toNatClampNeg ((1 : Int32) - (m.1 264 (l3 - 1).toNatClampNeg)) → ∀ x17 : Int32, x17 = l4 + 1 → Gw G (d + 2) mX1_says 10 [.ref (ga G 262), .ref (ga G p0), .int l2, .int l3, .int x17, .int x2] [] m16 (Qi K)))) ∧ ((¬ x2 = 116) → ((¬ x2 = 5) → ((x2 < 1000) → vp_in (x2 - 100) 23 ∧ vp_in l3 64 ∧ ∀ m18 : Mem, m18 = wI m 264 l3.toNatClampNeg (m.1 263 (x2 - 100).toNatClampNeg) → ∀ x19 : Int32, x19 = l3 + 1 → ∀ x20 : Int32, x20 = l4 + 1 → Gw G (d + 2) mX1_says 10 [.ref (ga G 262), .ref (ga G p0), .int l2, .int x19, .int x20, .int x2] [] m18 (Qi K)) ∧ ((¬ x2 < 1000) → vp_in l3 64 ∧ ∀ m21 : Mem, m21 = wI m 264 l3.toNatClampNeg (x2 - 1000) → ∀ x22 : Int32, x22 = l3 + 1 → ∀ x23 : Int32, x23 = l4 + 1 → Gw G (d + 2) mX1_says 10 [.ref (ga G 262), .ref (ga G p0), .int l2, .int x22, .int x23, .int x2] [] m21 (Qi K))) ∧ ((x2 = 5) → ((l3 ≤ 0) → ∀ x24 : Int32, x24 = l4 + 1 → Gw G (d + 2) mX1_says 10 [.ref (ga G 262), .ref (ga G p0), .int l2, .int l3, .int x24, .int x2] [] m (Qi K)) ∧ ((¬ l3 ≤ 0) → ((¬ x2 = 116) → vp_in (l3 - 1) 64 ∧ vp_in (l3 - 1) 64 ∧ ∀ m25 : Mem, m25 = wI m 264 (l3 - 1).toNatClampNeg ((0 : Int32) - (m.1 264 (l3 - 1).toNatClampNeg)) → ∀ x26 : Int32, x26 = l4 + 1 → Gw G (d + 2) mX1_says 10 [.ref (ga G 262), .ref (ga G p0), .int l2, .int l3, .int x26, .int x2] [] m25 (Qi K)) ∧ ((x2 = 116) → vp_in (l3 - 1) 64 ∧ vp_in (l3 - 1) 64 ∧ ∀ m27 : Mem, m27 = wI m 264 (l3 - 1).toNatClampNeg ((1 : Int32) - (m.1 264 (l3 - 1).toNatClampNeg)) → ∀ x28 : Int32, x28 = l4 + 1 → Gw G (d + 2) mX1_says 10 [.ref (ga G 262), .ref (ga G p0), .int l2, .int l3, .int x28, .int x2] [] m27 (Qi K))))))))) : Gw G (d + 2) mX1_says 10 [.ref (ga G 262), .ref (ga G p0), .int l2, .int l3, .int l4, u5] [] m (Qi K) := by
  refine Gw.weak (L' := [.ref (ga G 262), .ref (ga G p0), .int l2, .int l3, .int l4, uu]) ⟨Or.inl rfl, Or.inl rfl, Or.inl rfl, Or.inl rfl, Or.inl rfl, Or.inr rfl, trivial⟩ ?_
  refine go_iload dX1_says_10 rfl ?_
  refine go_aload_n dX1_says_12 rfl ?_
  refine go_getR (k := 8) (r := (p0 + 5)) dX1_says_13 hp0.1 rfl inX8 (Nat.le_of_ble_eq_true rfl) lf_X1_118 rfl rfl ?_
  refine go_iload_n dX1_says_16 rfl ?_
  obtain ⟨hi, hF⟩ := hF
  refine go_iald dX1_says_17 hp0.2.2.2.2.2 hi ?_
  refine go_icmp_ge 208 dX1_says_18 rfl ⟨fun hc => ?_, fun hc => ?_⟩
  · have hF := hF.1 hc
    refine go_aload_n dX1_says_208 rfl ?_
    refine go_getR (k := 3) (r := 264) dX1_says_209 sh_262 rfl inX1 (Nat.le_of_ble_eq_true rfl) lf_X1_19 rfl rfl ?_
    refine go_iconst (v := 0) dX1_says_212 (by decide) ?_
    refine go_ialdK (k := 0) dX1_says_213 sh_264 (vp_in_dec (by decide)) (by decide) ?_
    refine go_if_eq 221 dX1_says_214 rfl ⟨fun hc => ?_, fun hc => ?_⟩
    · have hF := hF.1 hc
      refine go_iconst (v := 0) dX1_says_221 (by decide) ?_
      exact go_zret (S := []) dX1_says_222 rfl (by decide) ⟨_, rfl, hF⟩
    · have hF := hF.2 hc
      refine go_iconst (v := 1) dX1_says_217 (by decide) ?_
      refine go_goto 222 dX1_says_218 rfl ?_
      exact go_zret (S := []) dX1_says_222 rfl (by decide) ⟨_, rfl, hF⟩
  · have hF := hF.2 hc
    refine go_iload_n dX1_says_21 rfl ?_
    refine go_aload_n dX1_says_22 rfl ?_
    refine go_getR (k := 3) (r := 264) dX1_says_23 sh_262 rfl inX1 (Nat.le_of_ble_eq_true rfl) lf_X1_19 rfl rfl ?_
    refine go_alenI dX1_says_26 sh_264 ?_
    refine go_icmp_ge 208 dX1_says_27 rfl ⟨fun hc => ?_, fun hc => ?_⟩
    · have hF := hF.1 hc
      refine go_aload_n dX1_says_208 rfl ?_
      refine go_getR (k := 3) (r := 264) dX1_says_209 sh_262 rfl inX1 (Nat.le_of_ble_eq_true rfl) lf_X1_19 rfl rfl ?_
      refine go_iconst (v := 0) dX1_says_212 (by decide) ?_
      refine go_ialdK (k := 0) dX1_says_213 sh_264 (vp_in_dec (by decide)) (by decide) ?_
      refine go_if_eq 221 dX1_says_214 rfl ⟨fun hc => ?_, fun hc => ?_⟩
      · have hF := hF.1 hc
        refine go_iconst (v := 0) dX1_says_221 (by decide) ?_
        exact go_zret (S := []) dX1_says_222 rfl (by decide) ⟨_, rfl, hF⟩
      · have hF := hF.2 hc
        refine go_iconst (v := 1) dX1_says_217 (by decide) ?_
        refine go_goto 222 dX1_says_218 rfl ?_
        exact go_zret (S := []) dX1_says_222 rfl (by decide) ⟨_, rfl, hF⟩
    · have hF := hF.2 hc
      refine go_aload_n dX1_says_30 rfl ?_
      refine go_getR (k := 6) (r := (p0 + 3)) dX1_says_31 hp0.1 rfl inX8 (Nat.le_of_ble_eq_true rfl) lf_X1_121 rfl rfl ?_
      refine go_iload dX1_says_34 rfl ?_
      obtain ⟨hi, hF⟩ := hF
      refine go_iald dX1_says_36 hp0.2.2.2.1 hi ?_
      refine Gw.namei (fun x2 ex2 => ?_)
      have hF := hF x2 ex2
      refine go_istore (L' := [.ref (ga G 262), .ref (ga G p0), .int l2, .int l3, .int l4, .int x2]) dX1_says_37 (Nat.le_of_ble_eq_true rfl) rfl ?_
      refine go_iload dX1_says_39 rfl ?_
      rcases Classical.em (x2 = 115 ∨ x2 = 114 ∨ (x2 < 100 ∧ ¬ x2 = 5)) with hp | hp
      · have hF := hF.1 hp
        refine go_callS mX1_isJoint dX1_says_41 lm_X1_124 okX1_isJoint isX1_isJoint (As := [.int x2]) (S := []) rfl rfl (Nat.le_of_ble_eq_true rfl) (eX1_isJoint G _ x2 m (fun r m' => r = 1 ∧ m = m') ⟨fun _ => ⟨rfl, rfl⟩, fun q => absurd hp q⟩) (k_i (fun r m' hr => ?_))
        obtain ⟨hr1, hr2⟩ := hr
        subst hr1
        subst hr2
        refine go_if_eq 117 dX1_says_44 rfl ⟨fun hc => absurd hc (by decide), fun _ => ?_⟩
        refine go_iload_n dX1_says_47 rfl ?_
        refine go_iconst (v := 1) dX1_says_48 (by decide) ?_
        refine go_icmp_le 202 dX1_says_49 rfl ⟨fun hc => ?_, fun hc => ?_⟩
        · have hF := hF.1 hc
          obtain ⟨x3, ex3⟩ : ∃ z : Int32, z = l4 + 1 := ⟨_, rfl⟩
          have hF := hF x3 ex3
          refine go_iinc (v := x3) (L' := [.ref (ga G 262), .ref (ga G p0), .int l2, .int l3, .int x3, .int x2]) dX1_says_202 rfl (by rw [ex3]; rfl) (Nat.le_of_ble_eq_true rfl) rfl ?_
          refine go_goto 10 dX1_says_205 rfl ?_
          exact hF
        · have hF := hF.2 hc
          obtain ⟨x4, ex4⟩ : ∃ z : Int32, z = l3 + (-1) := ⟨_, rfl⟩
          have hF := hF x4 ex4
          refine go_iinc (v := x4) (L' := [.ref (ga G 262), .ref (ga G p0), .int l2, .int x4, .int l4, .int x2]) dX1_says_52 rfl (by rw [ex4]; rfl) (Nat.le_of_ble_eq_true rfl) rfl ?_
          refine go_aload_n dX1_says_55 rfl ?_
          refine go_getR (k := 3) (r := 264) dX1_says_56 sh_262 rfl inX1 (Nat.le_of_ble_eq_true rfl) lf_X1_19 rfl rfl ?_
          refine go_iload_n dX1_says_59 rfl ?_
          refine go_iconst (v := 1) dX1_says_60 (by decide) ?_
          refine go_isub dX1_says_61 ?_
          refine go_iload dX1_says_62 rfl ?_
          refine go_bipush (v := 94) dX1_says_64 (by decide) ?_
          refine go_icmp_ne 89 dX1_says_66 rfl ⟨fun hc => ?_, fun hc => ?_⟩
          · have hF := hF.1 hc
            refine go_iload dX1_says_89 rfl ?_
            refine go_aload_n dX1_says_91 rfl ?_
            refine go_getR (k := 3) (r := 264) dX1_says_92 sh_262 rfl inX1 (Nat.le_of_ble_eq_true rfl) lf_X1_19 rfl rfl ?_
            refine go_iload_n dX1_says_95 rfl ?_
            refine go_iconst (v := 1) dX1_says_96 (by decide) ?_
            refine go_isub dX1_says_97 ?_
            obtain ⟨hi, hF⟩ := hF
            refine go_iald dX1_says_98 sh_264 hi ?_
            refine go_i2l dX1_says_99 ?_
            refine go_aload_n dX1_says_100 rfl ?_
            refine go_getR (k := 3) (r := 264) dX1_says_101 sh_262 rfl inX1 (Nat.le_of_ble_eq_true rfl) lf_X1_19 rfl rfl ?_
            refine go_iload_n dX1_says_104 rfl ?_
            obtain ⟨hi, hF⟩ := hF
            refine go_iald dX1_says_105 sh_264 hi ?_
            refine go_i2l dX1_says_106 ?_
            refine go_callS mX1_joined dX1_says_107 lm_X1_130 okX1_joined isX1_joined (As := [.int x2, .long ((m.1 264 (x4 - 1).toNatClampNeg).toInt64), .long ((m.1 264 x4.toNatClampNeg).toInt64)]) (S := [.int (x4 - 1), .ref (ga G 264)]) rfl rfl (Nat.le_of_ble_eq_true rfl) hF (k_l (fun r6 m5 hF => ?_))
            refine go_callS mX1_held dX1_says_110 lm_X1_134 okX1_held isX1_held (As := [.long r6]) (S := [.int (x4 - 1), .ref (ga G 264)]) rfl rfl (Nat.le_of_ble_eq_true rfl) (eX1_held G _ r6 m5 (fun r m' => r = heldV r6 ∧ m5 = m') ⟨rfl, rfl⟩) (k_i (fun r m' hr => ?_))
            obtain ⟨hr1, hr2⟩ := hr
            subst hr1
            subst hr2
            obtain ⟨hi, hF⟩ := hF
            refine go_iast dX1_says_113 sh_264 hi ?_
            obtain ⟨m7, em7⟩ : ∃ z : Mem, z = wI m5 264 (x4 - 1).toNatClampNeg (heldV r6) := ⟨_, rfl⟩
            rw [← em7]
            have hF := hF m7 em7
            refine go_goto 202 dX1_says_114 rfl ?_
            obtain ⟨x8, ex8⟩ : ∃ z : Int32, z = l4 + 1 := ⟨_, rfl⟩
            have hF := hF x8 ex8
            refine go_iinc (v := x8) (L' := [.ref (ga G 262), .ref (ga G p0), .int l2, .int x4, .int x8, .int x2]) dX1_says_202 rfl (by rw [ex8]; rfl) (Nat.le_of_ble_eq_true rfl) rfl ?_
            refine go_goto 10 dX1_says_205 rfl ?_
            exact hF
          · have hF := hF.2 hc
            refine go_aload_n dX1_says_69 rfl ?_
            refine go_getR (k := 3) (r := 264) dX1_says_70 sh_262 rfl inX1 (Nat.le_of_ble_eq_true rfl) lf_X1_19 rfl rfl ?_
            refine go_iload_n dX1_says_73 rfl ?_
            refine go_iconst (v := 1) dX1_says_74 (by decide) ?_
            refine go_isub dX1_says_75 ?_
            obtain ⟨hi, hF⟩ := hF
            refine go_iald dX1_says_76 sh_264 hi ?_
            refine go_aload_n dX1_says_77 rfl ?_
            refine go_getR (k := 3) (r := 264) dX1_says_78 sh_262 rfl inX1 (Nat.le_of_ble_eq_true rfl) lf_X1_19 rfl rfl ?_
            refine go_iload_n dX1_says_81 rfl ?_
            obtain ⟨hi, hF⟩ := hF
            refine go_iald dX1_says_82 sh_264 hi ?_
            refine go_callS mX1_power dX1_says_83 lm_X1_127 okX1_power isX1_power (As := [.int (m.1 264 (x4 - 1).toNatClampNeg), .int (m.1 264 x4.toNatClampNeg)]) (S := [.int (x4 - 1), .ref (ga G 264)]) rfl rfl (Nat.le_of_ble_eq_true rfl) hF (k_i (fun r10 m9 hF => ?_))
            refine go_goto 113 dX1_says_86 rfl ?_
            obtain ⟨hi, hF⟩ := hF
            refine go_iast dX1_says_113 sh_264 hi ?_
            obtain ⟨m11, em11⟩ : ∃ z : Mem, z = wI m9 264 (x4 - 1).toNatClampNeg r10 := ⟨_, rfl⟩
            rw [← em11]
            have hF := hF m11 em11
            refine go_goto 202 dX1_says_114 rfl ?_
            obtain ⟨x12, ex12⟩ : ∃ z : Int32, z = l4 + 1 := ⟨_, rfl⟩
            have hF := hF x12 ex12
            refine go_iinc (v := x12) (L' := [.ref (ga G 262), .ref (ga G p0), .int l2, .int x4, .int x12, .int x2]) dX1_says_202 rfl (by rw [ex12]; rfl) (Nat.le_of_ble_eq_true rfl) rfl ?_
            refine go_goto 10 dX1_says_205 rfl ?_
            exact hF
      · have hF := hF.2 hp
        refine go_callS mX1_isJoint dX1_says_41 lm_X1_124 okX1_isJoint isX1_isJoint (As := [.int x2]) (S := []) rfl rfl (Nat.le_of_ble_eq_true rfl) (eX1_isJoint G _ x2 m (fun r m' => r = 0 ∧ m = m') ⟨fun q => absurd q hp, fun _ => ⟨rfl, rfl⟩⟩) (k_i (fun r m' hr => ?_))
        obtain ⟨hr1, hr2⟩ := hr
        subst hr1
        subst hr2
        refine go_if_eq 117 dX1_says_44 rfl ⟨fun _ => ?_, fun hc => absurd hc (by decide)⟩
        refine go_iload dX1_says_117 rfl ?_
        refine go_bipush (v := 116) dX1_says_119 (by decide) ?_
        refine go_icmp_eq 130 dX1_says_121 rfl ⟨fun hc => ?_, fun hc => ?_⟩
        · have hF := hF.1 hc
          refine go_iload_n dX1_says_130 rfl ?_
          refine go_if_le 202 dX1_says_131 rfl ⟨fun hc => ?_, fun hc => ?_⟩
          · have hF := hF.1 hc
            obtain ⟨x13, ex13⟩ : ∃ z : Int32, z = l4 + 1 := ⟨_, rfl⟩
            have hF := hF x13 ex13
            refine go_iinc (v := x13) (L' := [.ref (ga G 262), .ref (ga G p0), .int l2, .int l3, .int x13, .int x2]) dX1_says_202 rfl (by rw [ex13]; rfl) (Nat.le_of_ble_eq_true rfl) rfl ?_
            refine go_goto 10 dX1_says_205 rfl ?_
            exact hF
          · have hF := hF.2 hc
            refine go_aload_n dX1_says_134 rfl ?_
            refine go_getR (k := 3) (r := 264) dX1_says_135 sh_262 rfl inX1 (Nat.le_of_ble_eq_true rfl) lf_X1_19 rfl rfl ?_
            refine go_iload_n dX1_says_138 rfl ?_
            refine go_iconst (v := 1) dX1_says_139 (by decide) ?_
            refine go_isub dX1_says_140 ?_
            refine go_iload dX1_says_141 rfl ?_
            refine go_bipush (v := 116) dX1_says_143 (by decide) ?_
            refine go_icmp_ne 152 dX1_says_145 rfl ⟨fun hc => ?_, fun hc => ?_⟩
            · have hF := hF.1 hc
              refine go_iconst (v := 0) dX1_says_152 (by decide) ?_
              refine go_aload_n dX1_says_153 rfl ?_
              refine go_getR (k := 3) (r := 264) dX1_says_154 sh_262 rfl inX1 (Nat.le_of_ble_eq_true rfl) lf_X1_19 rfl rfl ?_
              refine go_iload_n dX1_says_157 rfl ?_
              refine go_iconst (v := 1) dX1_says_158 (by decide) ?_
              refine go_isub dX1_says_159 ?_
              obtain ⟨hi, hF⟩ := hF
              refine go_iald dX1_says_160 sh_264 hi ?_
              refine go_isub dX1_says_161 ?_
              obtain ⟨hi, hF⟩ := hF
              refine go_iast dX1_says_162 sh_264 hi ?_
              obtain ⟨m14, em14⟩ : ∃ z : Mem, z = wI m 264 (l3 - 1).toNatClampNeg ((0 : Int32) - (m.1 264 (l3 - 1).toNatClampNeg)) := ⟨_, rfl⟩
              rw [← em14]
              have hF := hF m14 em14
              refine go_goto 202 dX1_says_163 rfl ?_
              obtain ⟨x15, ex15⟩ : ∃ z : Int32, z = l4 + 1 := ⟨_, rfl⟩
              have hF := hF x15 ex15
              refine go_iinc (v := x15) (L' := [.ref (ga G 262), .ref (ga G p0), .int l2, .int l3, .int x15, .int x2]) dX1_says_202 rfl (by rw [ex15]; rfl) (Nat.le_of_ble_eq_true rfl) rfl ?_
              refine go_goto 10 dX1_says_205 rfl ?_
              exact hF
            · have hF := hF.2 hc
              refine go_iconst (v := 1) dX1_says_148 (by decide) ?_
              refine go_goto 153 dX1_says_149 rfl ?_
              refine go_aload_n dX1_says_153 rfl ?_
              refine go_getR (k := 3) (r := 264) dX1_says_154 sh_262 rfl inX1 (Nat.le_of_ble_eq_true rfl) lf_X1_19 rfl rfl ?_
              refine go_iload_n dX1_says_157 rfl ?_
              refine go_iconst (v := 1) dX1_says_158 (by decide) ?_
              refine go_isub dX1_says_159 ?_
              obtain ⟨hi, hF⟩ := hF
              refine go_iald dX1_says_160 sh_264 hi ?_
              refine go_isub dX1_says_161 ?_
              obtain ⟨hi, hF⟩ := hF
              refine go_iast dX1_says_162 sh_264 hi ?_
              obtain ⟨m16, em16⟩ : ∃ z : Mem, z = wI m 264 (l3 - 1).toNatClampNeg ((1 : Int32) - (m.1 264 (l3 - 1).toNatClampNeg)) := ⟨_, rfl⟩
              rw [← em16]
              have hF := hF m16 em16
              refine go_goto 202 dX1_says_163 rfl ?_
              obtain ⟨x17, ex17⟩ : ∃ z : Int32, z = l4 + 1 := ⟨_, rfl⟩
              have hF := hF x17 ex17
              refine go_iinc (v := x17) (L' := [.ref (ga G 262), .ref (ga G p0), .int l2, .int l3, .int x17, .int x2]) dX1_says_202 rfl (by rw [ex17]; rfl) (Nat.le_of_ble_eq_true rfl) rfl ?_
              refine go_goto 10 dX1_says_205 rfl ?_
              exact hF
        · have hF := hF.2 hc
          refine go_iload dX1_says_124 rfl ?_
          refine go_iconst (v := 5) dX1_says_126 (by decide) ?_
          refine go_icmp_ne 166 dX1_says_127 rfl ⟨fun hc => ?_, fun hc => ?_⟩
          · have hF := hF.1 hc
            refine go_aload_n dX1_says_166 rfl ?_
            refine go_getR (k := 3) (r := 264) dX1_says_167 sh_262 rfl inX1 (Nat.le_of_ble_eq_true rfl) lf_X1_19 rfl rfl ?_
            refine go_iload_n dX1_says_170 rfl ?_
            refine go_iload dX1_says_171 rfl ?_
            refine go_sipush (v := 1000) dX1_says_173 (by decide) ?_
            refine go_icmp_lt 188 dX1_says_176 rfl ⟨fun hc => ?_, fun hc => ?_⟩
            · have hF := hF.1 hc
              refine go_aload_n dX1_says_188 rfl ?_
              refine go_getR (k := 2) (r := 263) dX1_says_189 sh_262 rfl inX1 (Nat.le_of_ble_eq_true rfl) lf_X1_11 rfl rfl ?_
              refine go_iload dX1_says_192 rfl ?_
              refine go_bipush (v := 100) dX1_says_194 (by decide) ?_
              refine go_isub dX1_says_196 ?_
              obtain ⟨hi, hF⟩ := hF
              refine go_iald dX1_says_197 sh_263 hi ?_
              obtain ⟨hi, hF⟩ := hF
              refine go_iast dX1_says_198 sh_264 hi ?_
              obtain ⟨m18, em18⟩ : ∃ z : Mem, z = wI m 264 l3.toNatClampNeg (m.1 263 (x2 - 100).toNatClampNeg) := ⟨_, rfl⟩
              rw [← em18]
              have hF := hF m18 em18
              obtain ⟨x19, ex19⟩ : ∃ z : Int32, z = l3 + 1 := ⟨_, rfl⟩
              have hF := hF x19 ex19
              refine go_iinc (v := x19) (L' := [.ref (ga G 262), .ref (ga G p0), .int l2, .int x19, .int l4, .int x2]) dX1_says_199 rfl (by rw [ex19]; rfl) (Nat.le_of_ble_eq_true rfl) rfl ?_
              obtain ⟨x20, ex20⟩ : ∃ z : Int32, z = l4 + 1 := ⟨_, rfl⟩
              have hF := hF x20 ex20
              refine go_iinc (v := x20) (L' := [.ref (ga G 262), .ref (ga G p0), .int l2, .int x19, .int x20, .int x2]) dX1_says_202 rfl (by rw [ex20]; rfl) (Nat.le_of_ble_eq_true rfl) rfl ?_
              refine go_goto 10 dX1_says_205 rfl ?_
              exact hF
            · have hF := hF.2 hc
              refine go_iload dX1_says_179 rfl ?_
              refine go_sipush (v := 1000) dX1_says_181 (by decide) ?_
              refine go_isub dX1_says_184 ?_
              refine go_goto 198 dX1_says_185 rfl ?_
              obtain ⟨hi, hF⟩ := hF
              refine go_iast dX1_says_198 sh_264 hi ?_
              obtain ⟨m21, em21⟩ : ∃ z : Mem, z = wI m 264 l3.toNatClampNeg (x2 - 1000) := ⟨_, rfl⟩
              rw [← em21]
              have hF := hF m21 em21
              obtain ⟨x22, ex22⟩ : ∃ z : Int32, z = l3 + 1 := ⟨_, rfl⟩
              have hF := hF x22 ex22
              refine go_iinc (v := x22) (L' := [.ref (ga G 262), .ref (ga G p0), .int l2, .int x22, .int l4, .int x2]) dX1_says_199 rfl (by rw [ex22]; rfl) (Nat.le_of_ble_eq_true rfl) rfl ?_
              obtain ⟨x23, ex23⟩ : ∃ z : Int32, z = l4 + 1 := ⟨_, rfl⟩
              have hF := hF x23 ex23
              refine go_iinc (v := x23) (L' := [.ref (ga G 262), .ref (ga G p0), .int l2, .int x22, .int x23, .int x2]) dX1_says_202 rfl (by rw [ex23]; rfl) (Nat.le_of_ble_eq_true rfl) rfl ?_
              refine go_goto 10 dX1_says_205 rfl ?_
              exact hF
          · have hF := hF.2 hc
            refine go_iload_n dX1_says_130 rfl ?_
            refine go_if_le 202 dX1_says_131 rfl ⟨fun hc => ?_, fun hc => ?_⟩
            · have hF := hF.1 hc
              obtain ⟨x24, ex24⟩ : ∃ z : Int32, z = l4 + 1 := ⟨_, rfl⟩
              have hF := hF x24 ex24
              refine go_iinc (v := x24) (L' := [.ref (ga G 262), .ref (ga G p0), .int l2, .int l3, .int x24, .int x2]) dX1_says_202 rfl (by rw [ex24]; rfl) (Nat.le_of_ble_eq_true rfl) rfl ?_
              refine go_goto 10 dX1_says_205 rfl ?_
              exact hF
            · have hF := hF.2 hc
              refine go_aload_n dX1_says_134 rfl ?_
              refine go_getR (k := 3) (r := 264) dX1_says_135 sh_262 rfl inX1 (Nat.le_of_ble_eq_true rfl) lf_X1_19 rfl rfl ?_
              refine go_iload_n dX1_says_138 rfl ?_
              refine go_iconst (v := 1) dX1_says_139 (by decide) ?_
              refine go_isub dX1_says_140 ?_
              refine go_iload dX1_says_141 rfl ?_
              refine go_bipush (v := 116) dX1_says_143 (by decide) ?_
              refine go_icmp_ne 152 dX1_says_145 rfl ⟨fun hc => ?_, fun hc => ?_⟩
              · have hF := hF.1 hc
                refine go_iconst (v := 0) dX1_says_152 (by decide) ?_
                refine go_aload_n dX1_says_153 rfl ?_
                refine go_getR (k := 3) (r := 264) dX1_says_154 sh_262 rfl inX1 (Nat.le_of_ble_eq_true rfl) lf_X1_19 rfl rfl ?_
                refine go_iload_n dX1_says_157 rfl ?_
                refine go_iconst (v := 1) dX1_says_158 (by decide) ?_
                refine go_isub dX1_says_159 ?_
                obtain ⟨hi, hF⟩ := hF
                refine go_iald dX1_says_160 sh_264 hi ?_
                refine go_isub dX1_says_161 ?_
                obtain ⟨hi, hF⟩ := hF
                refine go_iast dX1_says_162 sh_264 hi ?_
                obtain ⟨m25, em25⟩ : ∃ z : Mem, z = wI m 264 (l3 - 1).toNatClampNeg ((0 : Int32) - (m.1 264 (l3 - 1).toNatClampNeg)) := ⟨_, rfl⟩
                rw [← em25]
                have hF := hF m25 em25
                refine go_goto 202 dX1_says_163 rfl ?_
                obtain ⟨x26, ex26⟩ : ∃ z : Int32, z = l4 + 1 := ⟨_, rfl⟩
                have hF := hF x26 ex26
                refine go_iinc (v := x26) (L' := [.ref (ga G 262), .ref (ga G p0), .int l2, .int l3, .int x26, .int x2]) dX1_says_202 rfl (by rw [ex26]; rfl) (Nat.le_of_ble_eq_true rfl) rfl ?_
                refine go_goto 10 dX1_says_205 rfl ?_
                exact hF
              · have hF := hF.2 hc
                refine go_iconst (v := 1) dX1_says_148 (by decide) ?_
                refine go_goto 153 dX1_says_149 rfl ?_
                refine go_aload_n dX1_says_153 rfl ?_
                refine go_getR (k := 3) (r := 264) dX1_says_154 sh_262 rfl inX1 (Nat.le_of_ble_eq_true rfl) lf_X1_19 rfl rfl ?_
                refine go_iload_n dX1_says_157 rfl ?_
                refine go_iconst (v := 1) dX1_says_158 (by decide) ?_
                refine go_isub dX1_says_159 ?_
                obtain ⟨hi, hF⟩ := hF
                refine go_iald dX1_says_160 sh_264 hi ?_
                refine go_isub dX1_says_161 ?_
                obtain ⟨hi, hF⟩ := hF
                refine go_iast dX1_says_162 sh_264 hi ?_
                obtain ⟨m27, em27⟩ : ∃ z : Mem, z = wI m 264 (l3 - 1).toNatClampNeg ((1 : Int32) - (m.1 264 (l3 - 1).toNatClampNeg)) := ⟨_, rfl⟩
                rw [← em27]
                have hF := hF m27 em27
                refine go_goto 202 dX1_says_163 rfl ?_
                obtain ⟨x28, ex28⟩ : ∃ z : Int32, z = l4 + 1 := ⟨_, rfl⟩
                have hF := hF x28 ex28
                refine go_iinc (v := x28) (L' := [.ref (ga G 262), .ref (ga G p0), .int l2, .int l3, .int x28, .int x2]) dX1_says_202 rfl (by rw [ex28]; rfl) (Nat.le_of_ble_eq_true rfl) rfl ?_
                refine go_goto 10 dX1_says_205 rfl ?_
                exact hF
theorem vX1_joined (G : GP) (d : Nat) (a0 : Int32) (a1 : Int64) (a2 : Int64) (m : Mem) (K : Int64 → Mem → Prop) (hF : (a0 = 3 → ((0 < (lg_cmp a1 a2)) → K 0 m) ∧ ((¬ 0 < (lg_cmp a1 a2)) → K 1 m)) ∧ (a0 = 4 → (((lg_cmp a1 a2) < 0) → K 0 m) ∧ ((¬ (lg_cmp a1 a2) < 0) → K 1 m)) ∧ (a0 = 35 → (((lg_cmp a1 a2) = 0) → K 0 m) ∧ ((¬ (lg_cmp a1 a2) = 0) → K 1 m)) ∧ (a0 = 42 → K (a1 * a2) m) ∧ (a0 = 43 → K (a1 + a2) m) ∧ (a0 = 47 → ((¬ (lg_cmp a2 0) = 0) → ¬ a2 = 0 ∧ K (a1 / a2) m) ∧ (((lg_cmp a2 0) = 0) → K 0 m)) ∧ (a0 = 60 → ((0 ≤ (lg_cmp a1 a2)) → K 0 m) ∧ ((¬ 0 ≤ (lg_cmp a1 a2)) → K 1 m)) ∧ (a0 = 61 → ((¬ (lg_cmp a1 a2) = 0) → K 0 m) ∧ (((lg_cmp a1 a2) = 0) → K 1 m)) ∧ (a0 = 62 → (((lg_cmp a1 a2) ≤ 0) → K 0 m) ∧ ((¬ (lg_cmp a1 a2) ≤ 0) → K 1 m)) ∧ (a0 = 114 → K (a1 ||| a2) m) ∧ (a0 = 115 → K (a1 &&& a2) m) ∧ (¬ a0 = 3 ∧ ¬ a0 = 4 ∧ ¬ a0 = 35 ∧ ¬ a0 = 42 ∧ ¬ a0 = 43 ∧ ¬ a0 = 47 ∧ ¬ a0 = 60 ∧ ¬ a0 = 61 ∧ ¬ a0 = 62 ∧ ¬ a0 = 114 ∧ ¬ a0 = 115 → K (a1 - a2) m)) : Evl G (d) mX1_joined [.int a0, .long a1, .long a2] m K := by
  refine Ev.go [.int a0, .long a1, uu, .long a2, uu] (by decide) (Nat.le_of_ble_eq_true rfl) rfl ?_
  refine go_iload_n dX1_joined_0 rfl ?_
  rcases Decidable.em (a0 = 3) with hc0 | hc0
  · have hF := hF.1 hc0
    refine go_lookup (off := 119) 120 dX1_joined_1 (by decide) (by rw [hc0]; rfl) rfl ?_
    refine go_lload_n dX1_joined_120 rfl ?_
    refine go_lload_n dX1_joined_121 rfl ?_
    refine go_lcmp dX1_joined_122 ?_
    refine go_if_gt 130 dX1_joined_123 rfl ⟨fun hc => ?_, fun hc => ?_⟩
    · have hF := hF.1 hc
      refine go_lconst (v := 0) dX1_joined_130 (by decide) ?_
      exact go_lret (S := []) dX1_joined_131 rfl ⟨_, rfl, hF⟩
    · have hF := hF.2 hc
      refine go_lconst (v := 1) dX1_joined_126 (by decide) ?_
      refine go_goto 131 dX1_joined_127 rfl ?_
      exact go_lret (S := []) dX1_joined_131 rfl ⟨_, rfl, hF⟩
  rcases Decidable.em (a0 = 4) with hc1 | hc1
  · have hF := hF.2.1 hc1
    refine go_lookup (off := 143) 144 dX1_joined_1 (by decide) (by rw [hc1]; rfl) rfl ?_
    refine go_lload_n dX1_joined_144 rfl ?_
    refine go_lload_n dX1_joined_145 rfl ?_
    refine go_lcmp dX1_joined_146 ?_
    refine go_if_lt 154 dX1_joined_147 rfl ⟨fun hc => ?_, fun hc => ?_⟩
    · have hF := hF.1 hc
      refine go_lconst (v := 0) dX1_joined_154 (by decide) ?_
      exact go_lret (S := []) dX1_joined_155 rfl ⟨_, rfl, hF⟩
    · have hF := hF.2 hc
      refine go_lconst (v := 1) dX1_joined_150 (by decide) ?_
      refine go_goto 155 dX1_joined_151 rfl ?_
      exact go_lret (S := []) dX1_joined_155 rfl ⟨_, rfl, hF⟩
  rcases Decidable.em (a0 = 35) with hc2 | hc2
  · have hF := hF.2.2.1 hc2
    refine go_lookup (off := 167) 168 dX1_joined_1 (by decide) (by rw [hc2]; rfl) rfl ?_
    refine go_lload_n dX1_joined_168 rfl ?_
    refine go_lload_n dX1_joined_169 rfl ?_
    refine go_lcmp dX1_joined_170 ?_
    refine go_if_eq 178 dX1_joined_171 rfl ⟨fun hc => ?_, fun hc => ?_⟩
    · have hF := hF.1 hc
      refine go_lconst (v := 0) dX1_joined_178 (by decide) ?_
      exact go_lret (S := []) dX1_joined_179 rfl ⟨_, rfl, hF⟩
    · have hF := hF.2 hc
      refine go_lconst (v := 1) dX1_joined_174 (by decide) ?_
      refine go_goto 179 dX1_joined_175 rfl ?_
      exact go_lret (S := []) dX1_joined_179 rfl ⟨_, rfl, hF⟩
  rcases Decidable.em (a0 = 42) with hc3 | hc3
  · have hF := hF.2.2.2.1 hc3
    refine go_lookup (off := 179) 180 dX1_joined_1 (by decide) (by rw [hc3]; rfl) rfl ?_
    refine go_lload_n dX1_joined_180 rfl ?_
    refine go_lload_n dX1_joined_181 rfl ?_
    refine go_lmul dX1_joined_182 ?_
    exact go_lret (S := []) dX1_joined_183 rfl ⟨_, rfl, hF⟩
  rcases Decidable.em (a0 = 43) with hc4 | hc4
  · have hF := hF.2.2.2.2.1 hc4
    refine go_lookup (off := 197) 198 dX1_joined_1 (by decide) (by rw [hc4]; rfl) rfl ?_
    refine go_lload_n dX1_joined_198 rfl ?_
    refine go_lload_n dX1_joined_199 rfl ?_
    refine go_ladd dX1_joined_200 ?_
    exact go_lret (S := []) dX1_joined_201 rfl ⟨_, rfl, hF⟩
  rcases Decidable.em (a0 = 47) with hc5 | hc5
  · have hF := hF.2.2.2.2.2.1 hc5
    refine go_lookup (off := 183) 184 dX1_joined_1 (by decide) (by rw [hc5]; rfl) rfl ?_
    refine go_lload_n dX1_joined_184 rfl ?_
    refine go_lconst (v := 0) dX1_joined_185 (by decide) ?_
    refine go_lcmp dX1_joined_186 ?_
    refine go_if_ne 194 dX1_joined_187 rfl ⟨fun hc => ?_, fun hc => ?_⟩
    · have hF := hF.1 hc
      refine go_lload_n dX1_joined_194 rfl ?_
      refine go_lload_n dX1_joined_195 rfl ?_
      obtain ⟨h0, hF⟩ := hF
      refine go_ldiv dX1_joined_196 h0 ?_
      exact go_lret (S := []) dX1_joined_197 rfl ⟨_, rfl, hF⟩
    · have hF := hF.2 hc
      refine go_lconst (v := 0) dX1_joined_190 (by decide) ?_
      refine go_goto 197 dX1_joined_191 rfl ?_
      exact go_lret (S := []) dX1_joined_197 rfl ⟨_, rfl, hF⟩
  rcases Decidable.em (a0 = 60) with hc6 | hc6
  · have hF := hF.2.2.2.2.2.2.1 hc6
    refine go_lookup (off := 107) 108 dX1_joined_1 (by decide) (by rw [hc6]; rfl) rfl ?_
    refine go_lload_n dX1_joined_108 rfl ?_
    refine go_lload_n dX1_joined_109 rfl ?_
    refine go_lcmp dX1_joined_110 ?_
    refine go_if_ge 118 dX1_joined_111 rfl ⟨fun hc => ?_, fun hc => ?_⟩
    · have hF := hF.1 hc
      refine go_lconst (v := 0) dX1_joined_118 (by decide) ?_
      exact go_lret (S := []) dX1_joined_119 rfl ⟨_, rfl, hF⟩
    · have hF := hF.2 hc
      refine go_lconst (v := 1) dX1_joined_114 (by decide) ?_
      refine go_goto 119 dX1_joined_115 rfl ?_
      exact go_lret (S := []) dX1_joined_119 rfl ⟨_, rfl, hF⟩
  rcases Decidable.em (a0 = 61) with hc7 | hc7
  · have hF := hF.2.2.2.2.2.2.2.1 hc7
    refine go_lookup (off := 155) 156 dX1_joined_1 (by decide) (by rw [hc7]; rfl) rfl ?_
    refine go_lload_n dX1_joined_156 rfl ?_
    refine go_lload_n dX1_joined_157 rfl ?_
    refine go_lcmp dX1_joined_158 ?_
    refine go_if_ne 166 dX1_joined_159 rfl ⟨fun hc => ?_, fun hc => ?_⟩
    · have hF := hF.1 hc
      refine go_lconst (v := 0) dX1_joined_166 (by decide) ?_
      exact go_lret (S := []) dX1_joined_167 rfl ⟨_, rfl, hF⟩
    · have hF := hF.2 hc
      refine go_lconst (v := 1) dX1_joined_162 (by decide) ?_
      refine go_goto 167 dX1_joined_163 rfl ?_
      exact go_lret (S := []) dX1_joined_167 rfl ⟨_, rfl, hF⟩
  rcases Decidable.em (a0 = 62) with hc8 | hc8
  · have hF := hF.2.2.2.2.2.2.2.2.1 hc8
    refine go_lookup (off := 131) 132 dX1_joined_1 (by decide) (by rw [hc8]; rfl) rfl ?_
    refine go_lload_n dX1_joined_132 rfl ?_
    refine go_lload_n dX1_joined_133 rfl ?_
    refine go_lcmp dX1_joined_134 ?_
    refine go_if_le 142 dX1_joined_135 rfl ⟨fun hc => ?_, fun hc => ?_⟩
    · have hF := hF.1 hc
      refine go_lconst (v := 0) dX1_joined_142 (by decide) ?_
      exact go_lret (S := []) dX1_joined_143 rfl ⟨_, rfl, hF⟩
    · have hF := hF.2 hc
      refine go_lconst (v := 1) dX1_joined_138 (by decide) ?_
      refine go_goto 143 dX1_joined_139 rfl ?_
      exact go_lret (S := []) dX1_joined_143 rfl ⟨_, rfl, hF⟩
  rcases Decidable.em (a0 = 114) with hc9 | hc9
  · have hF := hF.2.2.2.2.2.2.2.2.2.1 hc9
    refine go_lookup (off := 99) 100 dX1_joined_1 (by decide) (by rw [hc9]; rfl) rfl ?_
    refine go_lload_n dX1_joined_100 rfl ?_
    refine go_lload_n dX1_joined_101 rfl ?_
    refine go_lor dX1_joined_102 ?_
    exact go_lret (S := []) dX1_joined_103 rfl ⟨_, rfl, hF⟩
  rcases Decidable.em (a0 = 115) with hc10 | hc10
  · have hF := hF.2.2.2.2.2.2.2.2.2.2.1 hc10
    refine go_lookup (off := 103) 104 dX1_joined_1 (by decide) (by rw [hc10]; rfl) rfl ?_
    refine go_lload_n dX1_joined_104 rfl ?_
    refine go_lload_n dX1_joined_105 rfl ?_
    refine go_land dX1_joined_106 ?_
    exact go_lret (S := []) dX1_joined_107 rfl ⟨_, rfl, hF⟩
  have hF := hF.2.2.2.2.2.2.2.2.2.2.2 ⟨hc0, hc1, hc2, hc3, hc4, hc5, hc6, hc7, hc8, hc9, hc10⟩
  refine go_lookup 202 dX1_joined_1 (by decide) (look_out a0 _ _ (by simp only [List.forall_mem_cons, List.not_mem_nil, false_implies, implies_true, and_true]; exact ⟨ne_toInt (by decide) hc0, ne_toInt (by decide) hc1, ne_toInt (by decide) hc2, ne_toInt (by decide) hc3, ne_toInt (by decide) hc4, ne_toInt (by decide) hc5, ne_toInt (by decide) hc6, ne_toInt (by decide) hc7, ne_toInt (by decide) hc8, ne_toInt (by decide) hc9, ne_toInt (by decide) hc10⟩)) rfl ?_
  refine go_lload_n dX1_joined_202 rfl ?_
  refine go_lload_n dX1_joined_203 rfl ?_
  refine go_lsub dX1_joined_204 ?_
  exact go_lret (S := []) dX1_joined_205 rfl ⟨_, rfl, hF⟩
theorem vX1_power (G : GP) (d : Nat) (a0 : Int32) (a1 : Int32) (m : Mem) (K : Int32 → Mem → Prop) (hF : ((0 ≤ a1) → ((a1 ≤ 99) → ((a1 ≤ 22) → Gw G (d + 1) mX1_power 37 [.int a0, .int a1, .int a1, .int 1, .int 0] [] m (Qi K)) ∧ ((¬ a1 ≤ 22) → ∀ x1 : Int32, x1 = (22 : Int32) - (a1 - a1 / 2 * 2) → Gw G (d + 1) mX1_power 37 [.int a0, .int a1, .int x1, .int 1, .int 0] [] m (Qi K))) ∧ ((¬ a1 ≤ 99) → ∀ x2 : Int32, x2 = (22 : Int32) - ((99 : Int32) - (99 : Int32) / 2 * 2) → Gw G (d + 1) mX1_power 37 [.int a0, .int a1, .int x2, .int 1, .int 0] [] m (Qi K))) ∧ ((¬ 0 ≤ a1) → K 0 m)) : Evi G (d + 1) mX1_power [.int a0, .int a1] m K := by
  refine Ev.go [.int a0, .int a1, uu, uu, uu] (by decide) (Nat.le_of_ble_eq_true rfl) rfl ?_
  refine go_iload_n dX1_power_0 rfl ?_
  refine go_if_ge 6 dX1_power_1 rfl ⟨fun hc => ?_, fun hc => ?_⟩
  · have hF := hF.1 hc
    refine go_iload_n dX1_power_6 rfl ?_
    refine go_bipush (v := 99) dX1_power_7 (by decide) ?_
    refine go_icmp_le 17 dX1_power_9 rfl ⟨fun hc => ?_, fun hc => ?_⟩
    · have hF := hF.1 hc
      refine go_iload_n dX1_power_17 rfl ?_
      refine go_istore_n (L' := [.int a0, .int a1, .int a1, uu, uu]) dX1_power_18 (Nat.le_of_ble_eq_true rfl) rfl ?_
      refine go_iload_n dX1_power_19 rfl ?_
      refine go_bipush (v := 22) dX1_power_20 (by decide) ?_
      refine go_icmp_le 32 dX1_power_22 rfl ⟨fun hc => ?_, fun hc => ?_⟩
      · have hF := hF.1 hc
        refine go_iconst (v := 1) dX1_power_32 (by decide) ?_
        refine go_istore_n (L' := [.int a0, .int a1, .int a1, .int 1, uu]) dX1_power_33 (Nat.le_of_ble_eq_true rfl) rfl ?_
        refine go_iconst (v := 0) dX1_power_34 (by decide) ?_
        refine go_istore (L' := [.int a0, .int a1, .int a1, .int 1, .int 0]) dX1_power_35 (Nat.le_of_ble_eq_true rfl) rfl ?_
        exact hF
      · have hF := hF.2 hc
        refine go_bipush (v := 22) dX1_power_25 (by decide) ?_
        refine go_iload_n dX1_power_27 rfl ?_
        refine go_iconst (v := 2) dX1_power_28 (by decide) ?_
        refine go_irem dX1_power_29 (by decide) ?_
        refine go_isub dX1_power_30 ?_
        refine Gw.namei (fun x1 ex1 => ?_)
        have hF := hF x1 ex1
        refine go_istore_n (L' := [.int a0, .int a1, .int x1, uu, uu]) dX1_power_31 (Nat.le_of_ble_eq_true rfl) rfl ?_
        refine go_iconst (v := 1) dX1_power_32 (by decide) ?_
        refine go_istore_n (L' := [.int a0, .int a1, .int x1, .int 1, uu]) dX1_power_33 (Nat.le_of_ble_eq_true rfl) rfl ?_
        refine go_iconst (v := 0) dX1_power_34 (by decide) ?_
        refine go_istore (L' := [.int a0, .int a1, .int x1, .int 1, .int 0]) dX1_power_35 (Nat.le_of_ble_eq_true rfl) rfl ?_
        exact hF
    · have hF := hF.2 hc
      refine go_bipush (v := 99) dX1_power_12 (by decide) ?_
      refine go_goto 18 dX1_power_14 rfl ?_
      refine go_istore_n (L' := [.int a0, .int a1, .int 99, uu, uu]) dX1_power_18 (Nat.le_of_ble_eq_true rfl) rfl ?_
      refine go_iload_n dX1_power_19 rfl ?_
      refine go_bipush (v := 22) dX1_power_20 (by decide) ?_
      refine go_icmp_le 32 dX1_power_22 rfl ⟨fun hc => absurd hc (by decide), fun _ => ?_⟩
      refine go_bipush (v := 22) dX1_power_25 (by decide) ?_
      refine go_iload_n dX1_power_27 rfl ?_
      refine go_iconst (v := 2) dX1_power_28 (by decide) ?_
      refine go_irem dX1_power_29 (by decide) ?_
      refine go_isub dX1_power_30 ?_
      refine Gw.namei (fun x2 ex2 => ?_)
      have hF := hF x2 ex2
      refine go_istore_n (L' := [.int a0, .int a1, .int x2, uu, uu]) dX1_power_31 (Nat.le_of_ble_eq_true rfl) rfl ?_
      refine go_iconst (v := 1) dX1_power_32 (by decide) ?_
      refine go_istore_n (L' := [.int a0, .int a1, .int x2, .int 1, uu]) dX1_power_33 (Nat.le_of_ble_eq_true rfl) rfl ?_
      refine go_iconst (v := 0) dX1_power_34 (by decide) ?_
      refine go_istore (L' := [.int a0, .int a1, .int x2, .int 1, .int 0]) dX1_power_35 (Nat.le_of_ble_eq_true rfl) rfl ?_
      exact hF
  · have hF := hF.2 hc
    refine go_iconst (v := 0) dX1_power_4 (by decide) ?_
    exact go_iret (S := []) dX1_power_5 rfl ⟨_, rfl, hF⟩
theorem vX1_power_37 (G : GP) (d : Nat) (l0 : Int32) (u1 : Value) (l2 : Int32) (l3 : Int32) (l4 : Int32) (m : Mem) (K : Int32 → Mem → Prop) (hF : ((l2 ≤ l4) → K l3 m) ∧ ((¬ l2 ≤ l4) → ∀ x3 : Int32, x3 = heldV (l3.toInt64 * l0.toInt64) → ∀ x4 : Int32, x4 = l4 + 1 → Gw G (d + 1) mX1_power 37 [.int l0, uu, .int l2, .int x3, .int x4] [] m (Qi K))) : Gw G (d + 1) mX1_power 37 [.int l0, u1, .int l2, .int l3, .int l4] [] m (Qi K) := by
  refine Gw.weak (L' := [.int l0, uu, .int l2, .int l3, .int l4]) ⟨Or.inl rfl, Or.inr rfl, Or.inl rfl, Or.inl rfl, Or.inl rfl, trivial⟩ ?_
  refine go_iload dX1_power_37 rfl ?_
  refine go_iload_n dX1_power_39 rfl ?_
  refine go_icmp_ge 58 dX1_power_40 rfl ⟨fun hc => ?_, fun hc => ?_⟩
  · have hF := hF.1 hc
    refine go_iload_n dX1_power_58 rfl ?_
    exact go_iret (S := []) dX1_power_59 rfl ⟨_, rfl, hF⟩
  · have hF := hF.2 hc
    refine go_iload_n dX1_power_43 rfl ?_
    refine go_i2l dX1_power_44 ?_
    refine go_iload_n dX1_power_45 rfl ?_
    refine go_i2l dX1_power_46 ?_
    refine go_lmul dX1_power_47 ?_
    refine go_callS mX1_held dX1_power_48 lm_X1_134 okX1_held isX1_held (As := [.long (l3.toInt64 * l0.toInt64)]) (S := []) rfl rfl (Nat.le_of_ble_eq_true rfl) (eX1_held G _ (l3.toInt64 * l0.toInt64) m (fun r m' => r = heldV (l3.toInt64 * l0.toInt64) ∧ m = m') ⟨rfl, rfl⟩) (k_i (fun r m' hr => ?_))
    obtain ⟨hr1, hr2⟩ := hr
    subst hr1
    subst hr2
    refine Gw.namei (fun x3 ex3 => ?_)
    have hF := hF x3 ex3
    refine go_istore_n (L' := [.int l0, uu, .int l2, .int x3, .int l4]) dX1_power_51 (Nat.le_of_ble_eq_true rfl) rfl ?_
    obtain ⟨x4, ex4⟩ : ∃ z : Int32, z = l4 + 1 := ⟨_, rfl⟩
    have hF := hF x4 ex4
    refine go_iinc (v := x4) (L' := [.int l0, uu, .int l2, .int x3, .int x4]) dX1_power_52 rfl (by rw [ex4]; rfl) (Nat.le_of_ble_eq_true rfl) rfl ?_
    refine go_goto 37 dX1_power_55 rfl ?_
    exact hF
