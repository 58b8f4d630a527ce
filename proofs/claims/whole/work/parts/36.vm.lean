theorem vX12_nextOf (G : GP) (d : Nat) (a0 : Int32) (a1 : Int32) (a2 : Int32) (m : Mem) (K : Int32 → Mem → Prop) (hF : Gw G (d + 2) mX12_nextOf 3 [.ref (ga G 273), .int a0, .int a1, .int a2, .int 0] [] m (Qi K)) : Evi G (d + 2) mX12_nextOf [.ref (ga G 273), .int a0, .int a1, .int a2] m K := by
  refine Ev.go [.ref (ga G 273), .int a0, .int a1, .int a2, uu] (by decide) (Nat.le_of_ble_eq_true rfl) rfl ?_
  refine go_iconst (v := 0) dX12_nextOf_0 (by decide) ?_
  refine go_istore (L' := [.ref (ga G 273), .int a0, .int a1, .int a2, .int 0]) dX12_nextOf_1 (Nat.le_of_ble_eq_true rfl) rfl ?_
  exact hF
theorem vX12_nextOf_3 (G : GP) (d : Nat) (l1 : Int32) (l2 : Int32) (l3 : Int32) (l4 : Int32) (m : Mem) (K : Int32 → Mem → Prop) (hF : vp_in l4 120 ∧ ((¬ (m.1 292 l4.toNatClampNeg) = l3) → ∀ x1 : Int32, x1 = l4 + 1 → Gw G (d + 2) mX12_nextOf 3 [.ref (ga G 273), .int l1, .int l2, .int l3, .int x1] [] m (Qi K)) ∧ (((m.1 292 l4.toNatClampNeg) = l3) → vp_in l4 120 ∧ Evi G (d + 1) mX12_isChange [.int l1, .int (m.1 291 l4.toNatClampNeg), .int l2] m (fun r3 m2 => ((¬ r3 = 0) → vp_in l4 120 ∧ K (m2.1 291 l4.toNatClampNeg) m2) ∧ ((r3 = 0) → ∀ x4 : Int32, x4 = l4 + 1 → Gw G (d + 2) mX12_nextOf 3 [.ref (ga G 273), .int l1, .int l2, .int l3, .int x4] [] m2 (Qi K))))) : Gw G (d + 2) mX12_nextOf 3 [.ref (ga G 273), .int l1, .int l2, .int l3, .int l4] [] m (Qi K) := by
  refine go_aload_n dX12_nextOf_3 rfl ?_
  refine go_getR (k := 33) (r := 292) dX12_nextOf_4 sh_273 rfl inX12 (Nat.le_of_ble_eq_true rfl) lf_X12_73 rfl rfl ?_
  refine go_iload dX12_nextOf_7 rfl ?_
  obtain ⟨hi, hF⟩ := hF
  refine go_iald dX12_nextOf_9 sh_292 hi ?_
  refine go_iload_n dX12_nextOf_10 rfl ?_
  refine go_icmp_ne 29 dX12_nextOf_11 rfl ⟨fun hc => ?_, fun hc => ?_⟩
  · have hF := hF.1 hc
    obtain ⟨x1, ex1⟩ : ∃ z : Int32, z = l4 + 1 := ⟨_, rfl⟩
    have hF := hF x1 ex1
    refine go_iinc (v := x1) (L' := [.ref (ga G 273), .int l1, .int l2, .int l3, .int x1]) dX12_nextOf_29 rfl (by rw [ex1]; rfl) (Nat.le_of_ble_eq_true rfl) rfl ?_
    refine go_goto 3 dX12_nextOf_32 rfl ?_
    exact hF
  · have hF := hF.2 hc
    refine go_iload_n dX12_nextOf_14 rfl ?_
    refine go_aload_n dX12_nextOf_15 rfl ?_
    refine go_getR (k := 32) (r := 291) dX12_nextOf_16 sh_273 rfl inX12 (Nat.le_of_ble_eq_true rfl) lf_X12_70 rfl rfl ?_
    refine go_iload dX12_nextOf_19 rfl ?_
    obtain ⟨hi, hF⟩ := hF
    refine go_iald dX12_nextOf_21 sh_291 hi ?_
    refine go_iload_n dX12_nextOf_22 rfl ?_
    refine go_callS mX12_isChange dX12_nextOf_23 lm_X12_473 okX12_isChange isX12_isChange (As := [.int l1, .int (m.1 291 l4.toNatClampNeg), .int l2]) (S := []) rfl rfl (Nat.le_of_ble_eq_true rfl) hF (k_i (fun r3 m2 hF => ?_))
    refine go_if_ne 35 dX12_nextOf_26 rfl ⟨fun hc => ?_, fun hc => ?_⟩
    · have hF := hF.1 hc
      refine go_aload_n dX12_nextOf_35 rfl ?_
      refine go_getR (k := 32) (r := 291) dX12_nextOf_36 sh_273 rfl inX12 (Nat.le_of_ble_eq_true rfl) lf_X12_70 rfl rfl ?_
      refine go_iload dX12_nextOf_39 rfl ?_
      obtain ⟨hi, hF⟩ := hF
      refine go_iald dX12_nextOf_41 sh_291 hi ?_
      exact go_iret (S := []) dX12_nextOf_42 rfl ⟨_, rfl, hF⟩
    · have hF := hF.2 hc
      obtain ⟨x4, ex4⟩ : ∃ z : Int32, z = l4 + 1 := ⟨_, rfl⟩
      have hF := hF x4 ex4
      refine go_iinc (v := x4) (L' := [.ref (ga G 273), .int l1, .int l2, .int l3, .int x4]) dX12_nextOf_29 rfl (by rw [ex4]; rfl) (Nat.le_of_ble_eq_true rfl) rfl ?_
      refine go_goto 3 dX12_nextOf_32 rfl ?_
      exact hF
theorem vX12_takes (G : GP) (d : Nat) (a0 : Int32) (m : Mem) (K : Int32 → Mem → Prop) (hF : ((0 ≤ a0 ∧ a0 ≤ (((1 : Int32) <<< ((m.1 274 1) &&& 31)) - 1)) → Gw G (d + 1) mX12_takes 24 [.ref (ga G 273), .int a0, .int 0, .int 0] [] m (Qi K)) ∧ (¬ (0 ≤ a0 ∧ a0 ≤ (((1 : Int32) <<< ((m.1 274 1) &&& 31)) - 1)) → K (-1) m)) : Evi G (d + 1) mX12_takes [.ref (ga G 273), .int a0] m K := by
  refine Ev.go [.ref (ga G 273), .int a0, uu, uu] (by decide) (Nat.le_of_ble_eq_true rfl) rfl ?_
  refine go_iload_n dX12_takes_0 rfl ?_
  refine go_iconst (v := 0) dX12_takes_1 (by decide) ?_
  refine go_iconst (v := 1) dX12_takes_2 (by decide) ?_
  refine go_aload_n dX12_takes_3 rfl ?_
  refine go_getR (k := 0) (r := 274) dX12_takes_4 sh_273 rfl inX12 (Nat.le_of_ble_eq_true rfl) lf_X12_7 rfl rfl ?_
  refine go_iconst (v := 1) dX12_takes_7 (by decide) ?_
  refine go_ialdK (k := 1) dX12_takes_8 sh_274 (vp_in_dec (by decide)) (by decide) ?_
  refine go_ishl dX12_takes_9 ?_
  refine go_iconst (v := 1) dX12_takes_10 (by decide) ?_
  refine go_isub dX12_takes_11 ?_
  rcases Classical.em (0 ≤ a0 ∧ a0 ≤ (((1 : Int32) <<< ((m.1 274 1) &&& 31)) - 1)) with hp | hp
  · have hF := hF.1 hp
    refine go_callS mX12_isIn dX12_takes_12 lm_X12_80 okX12_isIn isX12_isIn (As := [.int a0, .int 0, .int (((1 : Int32) <<< ((m.1 274 1) &&& 31)) - 1)]) (S := []) rfl rfl (Nat.le_of_ble_eq_true rfl) (eX12_isIn G _ a0 0 (((1 : Int32) <<< ((m.1 274 1) &&& 31)) - 1) m (fun r m' => r = 1 ∧ m = m') ⟨fun _ => ⟨rfl, rfl⟩, fun q => absurd hp q⟩) (k_i (fun r m' hr => ?_))
    obtain ⟨hr1, hr2⟩ := hr
    subst hr1
    subst hr2
    refine go_if_ne 20 dX12_takes_15 rfl ⟨fun _ => ?_, fun hc => absurd hc (by decide)⟩
    refine go_iconst (v := 0) dX12_takes_20 (by decide) ?_
    refine go_istore_n (L' := [.ref (ga G 273), .int a0, .int 0, uu]) dX12_takes_21 (Nat.le_of_ble_eq_true rfl) rfl ?_
    refine go_iconst (v := 0) dX12_takes_22 (by decide) ?_
    refine go_istore_n (L' := [.ref (ga G 273), .int a0, .int 0, .int 0]) dX12_takes_23 (Nat.le_of_ble_eq_true rfl) rfl ?_
    exact hF
  · have hF := hF.2 hp
    refine go_callS mX12_isIn dX12_takes_12 lm_X12_80 okX12_isIn isX12_isIn (As := [.int a0, .int 0, .int (((1 : Int32) <<< ((m.1 274 1) &&& 31)) - 1)]) (S := []) rfl rfl (Nat.le_of_ble_eq_true rfl) (eX12_isIn G _ a0 0 (((1 : Int32) <<< ((m.1 274 1) &&& 31)) - 1) m (fun r m' => r = 0 ∧ m = m') ⟨fun q => absurd q hp, fun _ => ⟨rfl, rfl⟩⟩) (k_i (fun r m' hr => ?_))
    obtain ⟨hr1, hr2⟩ := hr
    subst hr1
    subst hr2
    refine go_if_ne 20 dX12_takes_15 rfl ⟨fun hc => absurd hc (by decide), fun _ => ?_⟩
    refine go_iconst (v := -1) dX12_takes_18 (by decide) ?_
    exact go_iret (S := []) dX12_takes_19 rfl ⟨_, rfl, hF⟩
theorem vX12_takes_24 (G : GP) (d : Nat) (l1 : Int32) (l2 : Int32) (l3 : Int32) (m : Mem) (K : Int32 → Mem → Prop) (hF : (((m.1 274 1) ≤ l3) → K l2 m) ∧ ((¬ (m.1 274 1) ≤ l3) → (((l1 >>> (l3 &&& 31)) &&& 1 = 1) → vp_in (((34 : Int32) + (9 : Int32) * l3) + 2) 5968 ∧ ∀ x1 : Int32, x1 = l2 + (m.1 274 (((34 : Int32) + (9 : Int32) * l3) + 2).toNatClampNeg) → ∀ x2 : Int32, x2 = l3 + 1 → Gw G (d + 1) mX12_takes 24 [.ref (ga G 273), .int l1, .int x1, .int x2] [] m (Qi K)) ∧ (¬ ((l1 >>> (l3 &&& 31)) &&& 1 = 1) → ∀ x3 : Int32, x3 = l2 + 0 → ∀ x4 : Int32, x4 = l3 + 1 → Gw G (d + 1) mX12_takes 24 [.ref (ga G 273), .int l1, .int x3, .int x4] [] m (Qi K)))) : Gw G (d + 1) mX12_takes 24 [.ref (ga G 273), .int l1, .int l2, .int l3] [] m (Qi K) := by
  refine go_iload_n dX12_takes_24 rfl ?_
  refine go_aload_n dX12_takes_25 rfl ?_
  refine go_getR (k := 0) (r := 274) dX12_takes_26 sh_273 rfl inX12 (Nat.le_of_ble_eq_true rfl) lf_X12_7 rfl rfl ?_
  refine go_iconst (v := 1) dX12_takes_29 (by decide) ?_
  refine go_ialdK (k := 1) dX12_takes_30 sh_274 (vp_in_dec (by decide)) (by decide) ?_
  refine go_icmp_ge 61 dX12_takes_31 rfl ⟨fun hc => ?_, fun hc => ?_⟩
  · have hF := hF.1 hc
    refine go_iload_n dX12_takes_61 rfl ?_
    exact go_iret (S := []) dX12_takes_62 rfl ⟨_, rfl, hF⟩
  · have hF := hF.2 hc
    refine go_iload_n dX12_takes_34 rfl ?_
    refine go_iload_n dX12_takes_35 rfl ?_
    refine go_iload_n dX12_takes_36 rfl ?_
    rcases Classical.em ((l1 >>> (l3 &&& 31)) &&& 1 = 1) with hp | hp
    · have hF := hF.1 hp
      refine go_callS mX12_has dX12_takes_37 lm_X12_261 okX12_has isX12_has (As := [.int l1, .int l3]) (S := [.int l2]) rfl rfl (Nat.le_of_ble_eq_true rfl) (eX12_has G _ l1 l3 m (fun r m' => r = 1 ∧ m = m') ⟨fun _ => ⟨rfl, rfl⟩, fun q => absurd hp q⟩) (k_i (fun r m' hr => ?_))
      obtain ⟨hr1, hr2⟩ := hr
      subst hr1
      subst hr2
      refine go_if_eq 52 dX12_takes_40 rfl ⟨fun hc => absurd hc (by decide), fun _ => ?_⟩
      refine go_aload_n dX12_takes_43 rfl ?_
      refine go_iload_n dX12_takes_44 rfl ?_
      refine go_iconst (v := 2) dX12_takes_45 (by decide) ?_
      obtain ⟨ho, hF⟩ := hF
      refine go_callV mX12_of dX12_takes_46 lm_X12_84 okX12_of isX12_of sh_273 rfl (As := [.int l3, .int 2]) (S := [.int l2]) rfl rfl (Nat.le_of_ble_eq_true rfl) (eX12_of G _ l3 2 m (fun r m' => r = m.1 274 (((34 : Int32) + (9 : Int32) * l3) + 2).toNatClampNeg ∧ m = m') ho ⟨rfl, rfl⟩) (k_i (fun r m' hr => ?_))
      obtain ⟨hr1, hr2⟩ := hr
      subst hr1
      subst hr2
      refine go_goto 53 dX12_takes_49 rfl ?_
      refine go_iadd dX12_takes_53 ?_
      refine Gw.namei (fun x1 ex1 => ?_)
      have hF := hF x1 ex1
      refine go_istore_n (L' := [.ref (ga G 273), .int l1, .int x1, .int l3]) dX12_takes_54 (Nat.le_of_ble_eq_true rfl) rfl ?_
      obtain ⟨x2, ex2⟩ : ∃ z : Int32, z = l3 + 1 := ⟨_, rfl⟩
      have hF := hF x2 ex2
      refine go_iinc (v := x2) (L' := [.ref (ga G 273), .int l1, .int x1, .int x2]) dX12_takes_55 rfl (by rw [ex2]; rfl) (Nat.le_of_ble_eq_true rfl) rfl ?_
      refine go_goto 24 dX12_takes_58 rfl ?_
      exact hF
    · have hF := hF.2 hp
      refine go_callS mX12_has dX12_takes_37 lm_X12_261 okX12_has isX12_has (As := [.int l1, .int l3]) (S := [.int l2]) rfl rfl (Nat.le_of_ble_eq_true rfl) (eX12_has G _ l1 l3 m (fun r m' => r = 0 ∧ m = m') ⟨fun q => absurd q hp, fun _ => ⟨rfl, rfl⟩⟩) (k_i (fun r m' hr => ?_))
      obtain ⟨hr1, hr2⟩ := hr
      subst hr1
      subst hr2
      refine go_if_eq 52 dX12_takes_40 rfl ⟨fun _ => ?_, fun hc => absurd hc (by decide)⟩
      refine go_iconst (v := 0) dX12_takes_52 (by decide) ?_
      refine go_iadd dX12_takes_53 ?_
      refine Gw.namei (fun x3 ex3 => ?_)
      have hF := hF x3 ex3
      refine go_istore_n (L' := [.ref (ga G 273), .int l1, .int x3, .int l3]) dX12_takes_54 (Nat.le_of_ble_eq_true rfl) rfl ?_
      obtain ⟨x4, ex4⟩ : ∃ z : Int32, z = l3 + 1 := ⟨_, rfl⟩
      have hF := hF x4 ex4
      refine go_iinc (v := x4) (L' := [.ref (ga G 273), .int l1, .int x3, .int x4]) dX12_takes_55 rfl (by rw [ex4]; rfl) (Nat.le_of_ble_eq_true rfl) rfl ?_
      refine go_goto 24 dX12_takes_58 rfl ?_
      exact hF
theorem vX12_image (G : GP) (d : Nat)  (m : Mem) (K : Int32 → Mem → Prop) (hF : Evv G (d) mX12_copy [.ref (ga G 274), .ref (ga G 275)] m (fun m1 => K (m1.1 274 10) m1)) : Evi G (d + 1) mX12_image [.ref (ga G 273)] m K := by
  refine Ev.go [.ref (ga G 273)] (by decide) (Nat.le_of_ble_eq_true rfl) rfl ?_
  refine go_aload_n dX12_image_0 rfl ?_
  refine go_getR (k := 0) (r := 274) dX12_image_1 sh_273 rfl inX12 (Nat.le_of_ble_eq_true rfl) lf_X12_7 rfl rfl ?_
  refine go_aload_n dX12_image_4 rfl ?_
  refine go_getR (k := 1) (r := 275) dX12_image_5 sh_273 rfl inX12 (Nat.le_of_ble_eq_true rfl) lf_X12_13 rfl rfl ?_
  refine go_callS mX12_copy dX12_image_8 lm_X12_76 okX12_copy isX12_copy (As := [.ref (ga G 274), .ref (ga G 275)]) (S := []) rfl rfl (Nat.le_of_ble_eq_true rfl) hF (k_v (fun m1 hF => ?_))
  refine go_aload_n dX12_image_11 rfl ?_
  refine go_getR (k := 0) (r := 274) dX12_image_12 sh_273 rfl inX12 (Nat.le_of_ble_eq_true rfl) lf_X12_7 rfl rfl ?_
  refine go_bipush (v := 10) dX12_image_15 (by decide) ?_
  refine go_ialdK (k := 10) dX12_image_17 sh_274 (vp_in_dec (by decide)) (by decide) ?_
  exact go_iret (S := []) dX12_image_18 rfl ⟨_, rfl, hF⟩
theorem vX12_back (G : GP) (d : Nat)  (m : Mem) (K : Int32 → Mem → Prop) (hF : Evv G (d) mX12_copy [.ref (ga G 275), .ref (ga G 274)] m (fun m1 => K (m1.1 274 10) m1)) : Evi G (d + 1) mX12_back [.ref (ga G 273)] m K := by
  refine Ev.go [.ref (ga G 273)] (by decide) (Nat.le_of_ble_eq_true rfl) rfl ?_
  refine go_aload_n dX12_back_0 rfl ?_
  refine go_getR (k := 1) (r := 275) dX12_back_1 sh_273 rfl inX12 (Nat.le_of_ble_eq_true rfl) lf_X12_13 rfl rfl ?_
  refine go_aload_n dX12_back_4 rfl ?_
  refine go_getR (k := 0) (r := 274) dX12_back_5 sh_273 rfl inX12 (Nat.le_of_ble_eq_true rfl) lf_X12_7 rfl rfl ?_
  refine go_callS mX12_copy dX12_back_8 lm_X12_76 okX12_copy isX12_copy (As := [.ref (ga G 275), .ref (ga G 274)]) (S := []) rfl rfl (Nat.le_of_ble_eq_true rfl) hF (k_v (fun m1 hF => ?_))
  refine go_aload_n dX12_back_11 rfl ?_
  refine go_getR (k := 0) (r := 274) dX12_back_12 sh_273 rfl inX12 (Nat.le_of_ble_eq_true rfl) lf_X12_7 rfl rfl ?_
  refine go_bipush (v := 10) dX12_back_15 (by decide) ?_
  refine go_ialdK (k := 10) dX12_back_17 sh_274 (vp_in_dec (by decide)) (by decide) ?_
  exact go_iret (S := []) dX12_back_18 rfl ⟨_, rfl, hF⟩
theorem vX12_about (G : GP) (d : Nat) (a0 : Int32) (m : Mem) (K : Int32 → Mem → Prop) (hF : ((0 ≤ a0 ∧ a0 ≤ 5) → vp_in a0 5968 ∧ K (m.1 274 a0.toNatClampNeg) m) ∧ (¬ (0 ≤ a0 ∧ a0 ≤ 5) → ((¬ a0 = 6) → K (-2) m) ∧ ((a0 = 6) → K (m.1 273 5) m))) : Evi G (d + 1) mX12_about [.ref (ga G 273), .int a0] m K := by
  refine Ev.go [.ref (ga G 273), .int a0] (by decide) (Nat.le_of_ble_eq_true rfl) rfl ?_
  refine go_iload_n dX12_about_0 rfl ?_
  refine go_iconst (v := 0) dX12_about_1 (by decide) ?_
  refine go_iconst (v := 5) dX12_about_2 (by decide) ?_
  rcases Classical.em (0 ≤ a0 ∧ a0 ≤ 5) with hp | hp
  · have hF := hF.1 hp
    refine go_callS mX12_isIn dX12_about_3 lm_X12_80 okX12_isIn isX12_isIn (As := [.int a0, .int 0, .int 5]) (S := []) rfl rfl (Nat.le_of_ble_eq_true rfl) (eX12_isIn G _ a0 0 5 m (fun r m' => r = 1 ∧ m = m') ⟨fun _ => ⟨rfl, rfl⟩, fun q => absurd hp q⟩) (k_i (fun r m' hr => ?_))
    obtain ⟨hr1, hr2⟩ := hr
    subst hr1
    subst hr2
    refine go_if_eq 18 dX12_about_6 rfl ⟨fun hc => absurd hc (by decide), fun _ => ?_⟩
    refine go_aload_n dX12_about_9 rfl ?_
    refine go_getR (k := 0) (r := 274) dX12_about_10 sh_273 rfl inX12 (Nat.le_of_ble_eq_true rfl) lf_X12_7 rfl rfl ?_
    refine go_iload_n dX12_about_13 rfl ?_
    obtain ⟨hi, hF⟩ := hF
    refine go_iald dX12_about_14 sh_274 hi ?_
    refine go_goto 33 dX12_about_15 rfl ?_
    exact go_iret (S := []) dX12_about_33 rfl ⟨_, rfl, hF⟩
  · have hF := hF.2 hp
    refine go_callS mX12_isIn dX12_about_3 lm_X12_80 okX12_isIn isX12_isIn (As := [.int a0, .int 0, .int 5]) (S := []) rfl rfl (Nat.le_of_ble_eq_true rfl) (eX12_isIn G _ a0 0 5 m (fun r m' => r = 0 ∧ m = m') ⟨fun q => absurd q hp, fun _ => ⟨rfl, rfl⟩⟩) (k_i (fun r m' hr => ?_))
    obtain ⟨hr1, hr2⟩ := hr
    subst hr1
    subst hr2
    refine go_if_eq 18 dX12_about_6 rfl ⟨fun _ => ?_, fun hc => absurd hc (by decide)⟩
    refine go_iload_n dX12_about_18 rfl ?_
    refine go_bipush (v := 6) dX12_about_19 (by decide) ?_
    refine go_icmp_ne 31 dX12_about_21 rfl ⟨fun hc => ?_, fun hc => ?_⟩
    · have hF := hF.1 hc
      refine go_bipush (v := -2) dX12_about_31 (by decide) ?_
      exact go_iret (S := []) dX12_about_33 rfl ⟨_, rfl, hF⟩
    · have hF := hF.2 hc
      refine go_aload_n dX12_about_24 rfl ?_
      refine go_getI (k := 5) dX12_about_25 sh_273 rfl inX12 (Nat.le_of_ble_eq_true rfl) lf_X12_96 rfl ?_
      refine go_goto 33 dX12_about_28 rfl ?_
      exact go_iret (S := []) dX12_about_33 rfl ⟨_, rfl, hF⟩
