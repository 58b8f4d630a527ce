theorem vX12_book (G : GP) (d : Nat) (a0 : Int32) (a1 : Int32) (m : Mem) (K : Int32 → Mem → Prop) (hF : ((¬ a0 = (-1)) → ((0 ≤ a0 ∧ a0 ≤ ((shownV m) - 1)) → ((0 ≤ a1 ∧ a1 ≤ 3) → vp_in (((1088 : Int32) + ((4 : Int32) * ((((m.1 274 13) - (shownV m)) + a0) - (((m.1 274 13) - (shownV m)) + a0) / 1220 * 1220))) + a1) 5968 ∧ K (m.1 274 (((1088 : Int32) + ((4 : Int32) * ((((m.1 274 13) - (shownV m)) + a0) - (((m.1 274 13) - (shownV m)) + a0) / 1220 * 1220))) + a1).toNatClampNeg) m) ∧ (¬ (0 ≤ a1 ∧ a1 ≤ 3) → K (-2) m)) ∧ (¬ (0 ≤ a0 ∧ a0 ≤ ((shownV m) - 1)) → K (-2) m)) ∧ ((a0 = (-1)) → K (shownV m) m)) : Evi G (d + 1) mX12_book [.ref (ga G 273), .int a0, .int a1] m K := by
  refine Ev.go [.ref (ga G 273), .int a0, .int a1] (by decide) (Nat.le_of_ble_eq_true rfl) rfl ?_
  refine go_iload_n dX12_book_0 rfl ?_
  refine go_iconst (v := -1) dX12_book_1 (by decide) ?_
  refine go_icmp_ne 10 dX12_book_2 rfl ⟨fun hc => ?_, fun hc => ?_⟩
  · have hF := hF.1 hc
    refine go_iload_n dX12_book_10 rfl ?_
    refine go_iconst (v := 0) dX12_book_11 (by decide) ?_
    refine go_aload_n dX12_book_12 rfl ?_
    refine go_callV mX12_shown dX12_book_13 lm_X12_388 okX12_shown isX12_shown sh_273 rfl (As := []) (S := [.int 0, .int a0]) rfl rfl (Nat.le_of_ble_eq_true rfl) (eX12_shown G _  m (fun r m' => r = shownV m ∧ m = m') ⟨rfl, rfl⟩) (k_i (fun r m' hr => ?_))
    obtain ⟨hr1, hr2⟩ := hr
    subst hr1
    subst hr2
    refine go_iconst (v := 1) dX12_book_16 (by decide) ?_
    refine go_isub dX12_book_17 ?_
    rcases Classical.em (0 ≤ a0 ∧ a0 ≤ ((shownV m) - 1)) with hp | hp
    · have hF := hF.1 hp
      refine go_callS mX12_isIn dX12_book_18 lm_X12_80 okX12_isIn isX12_isIn (As := [.int a0, .int 0, .int ((shownV m) - 1)]) (S := []) rfl rfl (Nat.le_of_ble_eq_true rfl) (eX12_isIn G _ a0 0 ((shownV m) - 1) m (fun r m' => r = 1 ∧ m = m') ⟨fun _ => ⟨rfl, rfl⟩, fun q => absurd hp q⟩) (k_i (fun r m' hr => ?_))
      obtain ⟨hr1, hr2⟩ := hr
      subst hr1
      subst hr2
      refine go_if_eq 67 dX12_book_21 rfl ⟨fun hc => absurd hc (by decide), fun _ => ?_⟩
      refine go_iload_n dX12_book_24 rfl ?_
      refine go_iconst (v := 0) dX12_book_25 (by decide) ?_
      refine go_iconst (v := 3) dX12_book_26 (by decide) ?_
      rcases Classical.em (0 ≤ a1 ∧ a1 ≤ 3) with hp | hp
      · have hF := hF.1 hp
        refine go_callS mX12_isIn dX12_book_27 lm_X12_80 okX12_isIn isX12_isIn (As := [.int a1, .int 0, .int 3]) (S := []) rfl rfl (Nat.le_of_ble_eq_true rfl) (eX12_isIn G _ a1 0 3 m (fun r m' => r = 1 ∧ m = m') ⟨fun _ => ⟨rfl, rfl⟩, fun q => absurd hp q⟩) (k_i (fun r m' hr => ?_))
        obtain ⟨hr1, hr2⟩ := hr
        subst hr1
        subst hr2
        refine go_if_eq 67 dX12_book_30 rfl ⟨fun hc => absurd hc (by decide), fun _ => ?_⟩
        refine go_aload_n dX12_book_33 rfl ?_
        refine go_getR (k := 0) (r := 274) dX12_book_34 sh_273 rfl inX12 (Nat.le_of_ble_eq_true rfl) lf_X12_7 rfl rfl ?_
        refine go_sipush (v := 1088) dX12_book_37 (by decide) ?_
        refine go_iconst (v := 4) dX12_book_40 (by decide) ?_
        refine go_aload_n dX12_book_41 rfl ?_
        refine go_getR (k := 0) (r := 274) dX12_book_42 sh_273 rfl inX12 (Nat.le_of_ble_eq_true rfl) lf_X12_7 rfl rfl ?_
        refine go_bipush (v := 13) dX12_book_45 (by decide) ?_
        refine go_ialdK (k := 13) dX12_book_47 sh_274 (vp_in_dec (by decide)) (by decide) ?_
        refine go_aload_n dX12_book_48 rfl ?_
        refine go_callV mX12_shown dX12_book_49 lm_X12_388 okX12_shown isX12_shown sh_273 rfl (As := []) (S := [.int (m.1 274 13), .int 4, .int 1088, .ref (ga G 274)]) rfl rfl (Nat.le_of_ble_eq_true rfl) (eX12_shown G _  m (fun r m' => r = shownV m ∧ m = m') ⟨rfl, rfl⟩) (k_i (fun r m' hr => ?_))
        obtain ⟨hr1, hr2⟩ := hr
        subst hr1
        subst hr2
        refine go_isub dX12_book_52 ?_
        refine go_iload_n dX12_book_53 rfl ?_
        refine go_iadd dX12_book_54 ?_
        refine go_sipush (v := 1220) dX12_book_55 (by decide) ?_
        refine go_irem dX12_book_58 (by decide) ?_
        refine go_imul dX12_book_59 ?_
        refine go_iadd dX12_book_60 ?_
        refine go_iload_n dX12_book_61 rfl ?_
        refine go_iadd dX12_book_62 ?_
        obtain ⟨hi, hF⟩ := hF
        refine go_iald dX12_book_63 sh_274 hi ?_
        refine go_goto 69 dX12_book_64 rfl ?_
        exact go_iret (S := []) dX12_book_69 rfl ⟨_, rfl, hF⟩
      · have hF := hF.2 hp
        refine go_callS mX12_isIn dX12_book_27 lm_X12_80 okX12_isIn isX12_isIn (As := [.int a1, .int 0, .int 3]) (S := []) rfl rfl (Nat.le_of_ble_eq_true rfl) (eX12_isIn G _ a1 0 3 m (fun r m' => r = 0 ∧ m = m') ⟨fun q => absurd q hp, fun _ => ⟨rfl, rfl⟩⟩) (k_i (fun r m' hr => ?_))
        obtain ⟨hr1, hr2⟩ := hr
        subst hr1
        subst hr2
        refine go_if_eq 67 dX12_book_30 rfl ⟨fun _ => ?_, fun hc => absurd hc (by decide)⟩
        refine go_bipush (v := -2) dX12_book_67 (by decide) ?_
        exact go_iret (S := []) dX12_book_69 rfl ⟨_, rfl, hF⟩
    · have hF := hF.2 hp
      refine go_callS mX12_isIn dX12_book_18 lm_X12_80 okX12_isIn isX12_isIn (As := [.int a0, .int 0, .int ((shownV m) - 1)]) (S := []) rfl rfl (Nat.le_of_ble_eq_true rfl) (eX12_isIn G _ a0 0 ((shownV m) - 1) m (fun r m' => r = 0 ∧ m = m') ⟨fun q => absurd q hp, fun _ => ⟨rfl, rfl⟩⟩) (k_i (fun r m' hr => ?_))
      obtain ⟨hr1, hr2⟩ := hr
      subst hr1
      subst hr2
      refine go_if_eq 67 dX12_book_21 rfl ⟨fun _ => ?_, fun hc => absurd hc (by decide)⟩
      refine go_bipush (v := -2) dX12_book_67 (by decide) ?_
      exact go_iret (S := []) dX12_book_69 rfl ⟨_, rfl, hF⟩
  · have hF := hF.2 hc
    refine go_aload_n dX12_book_5 rfl ?_
    refine go_callV mX12_shown dX12_book_6 lm_X12_388 okX12_shown isX12_shown sh_273 rfl (As := []) (S := []) rfl rfl (Nat.le_of_ble_eq_true rfl) (eX12_shown G _  m (fun r m' => r = shownV m ∧ m = m') ⟨rfl, rfl⟩) (k_i (fun r m' hr => ?_))
    obtain ⟨hr1, hr2⟩ := hr
    subst hr1
    subst hr2
    exact go_iret (S := []) dX12_book_9 rfl ⟨_, rfl, hF⟩
theorem vX12_isHere (G : GP) (d : Nat) (a0 : Int32) (a1 : Int32) (a2 : Int32) (m : Mem) (K : Int32 → Mem → Prop) (hF : vp_in (((34 : Int32) + (9 : Int32) * a0) + 2) 5968 ∧ (((a1 + (m.1 274 (((34 : Int32) + (9 : Int32) * a0) + 2).toNatClampNeg)) ≤ a2) → Gw G (d + 2) mX12_isHere 17 [.ref (ga G 273), .int a0, .int a1, .int a2, .int 0] [] m (Qi K)) ∧ ((¬ (a1 + (m.1 274 (((34 : Int32) + (9 : Int32) * a0) + 2).toNatClampNeg)) ≤ a2) → K 0 m)) : Evi G (d + 2) mX12_isHere [.ref (ga G 273), .int a0, .int a1, .int a2] m K := by
  refine Ev.go [.ref (ga G 273), .int a0, .int a1, .int a2, uu] (by decide) (Nat.le_of_ble_eq_true rfl) rfl ?_
  refine go_iload_n dX12_isHere_0 rfl ?_
  refine go_aload_n dX12_isHere_1 rfl ?_
  refine go_iload_n dX12_isHere_2 rfl ?_
  refine go_iconst (v := 2) dX12_isHere_3 (by decide) ?_
  obtain ⟨ho, hF⟩ := hF
  refine go_callV mX12_of dX12_isHere_4 lm_X12_84 okX12_of isX12_of sh_273 rfl (As := [.int a0, .int 2]) (S := [.int a1]) rfl rfl (Nat.le_of_ble_eq_true rfl) (eX12_of G _ a0 2 m (fun r m' => r = m.1 274 (((34 : Int32) + (9 : Int32) * a0) + 2).toNatClampNeg ∧ m = m') ho ⟨rfl, rfl⟩) (k_i (fun r m' hr => ?_))
  obtain ⟨hr1, hr2⟩ := hr
  subst hr1
  subst hr2
  refine go_iadd dX12_isHere_7 ?_
  refine go_iload_n dX12_isHere_8 rfl ?_
  refine go_icmp_le 14 dX12_isHere_9 rfl ⟨fun hc => ?_, fun hc => ?_⟩
  · have hF := hF.1 hc
    refine go_iconst (v := 0) dX12_isHere_14 (by decide) ?_
    refine go_istore (L' := [.ref (ga G 273), .int a0, .int a1, .int a2, .int 0]) dX12_isHere_15 (Nat.le_of_ble_eq_true rfl) rfl ?_
    exact hF
  · have hF := hF.2 hc
    refine go_iconst (v := 0) dX12_isHere_12 (by decide) ?_
    exact go_zret (S := []) dX12_isHere_13 rfl (by decide) ⟨_, rfl, hF⟩
theorem vX12_isHere_17 (G : GP) (d : Nat) (l1 : Int32) (l2 : Int32) (u3 : Value) (l4 : Int32) (m : Mem) (K : Int32 → Mem → Prop) (hF : vp_in (((34 : Int32) + (9 : Int32) * l1) + 2) 5968 ∧ (((m.1 274 (((34 : Int32) + (9 : Int32) * l1) + 2).toNatClampNeg) ≤ l4) → K 1 m) ∧ ((¬ (m.1 274 (((34 : Int32) + (9 : Int32) * l1) + 2).toNatClampNeg) ≤ l4) → vp_in (l2 + l4) 24 ∧ vp_in (((34 : Int32) + (9 : Int32) * l1) + ((3 : Int32) + l4)) 5968 ∧ (((m.1 283 (l2 + l4).toNatClampNeg) = (m.1 274 (((34 : Int32) + (9 : Int32) * l1) + ((3 : Int32) + l4)).toNatClampNeg)) → ∀ x1 : Int32, x1 = l4 + 1 → Gw G (d + 2) mX12_isHere 17 [.ref (ga G 273), .int l1, .int l2, uu, .int x1] [] m (Qi K)) ∧ ((¬ (m.1 283 (l2 + l4).toNatClampNeg) = (m.1 274 (((34 : Int32) + (9 : Int32) * l1) + ((3 : Int32) + l4)).toNatClampNeg)) → K 0 m))) : Gw G (d + 2) mX12_isHere 17 [.ref (ga G 273), .int l1, .int l2, u3, .int l4] [] m (Qi K) := by
  refine Gw.weak (L' := [.ref (ga G 273), .int l1, .int l2, uu, .int l4]) ⟨Or.inl rfl, Or.inl rfl, Or.inl rfl, Or.inr rfl, Or.inl rfl, trivial⟩ ?_
  refine go_iload dX12_isHere_17 rfl ?_
  refine go_aload_n dX12_isHere_19 rfl ?_
  refine go_iload_n dX12_isHere_20 rfl ?_
  refine go_iconst (v := 2) dX12_isHere_21 (by decide) ?_
  obtain ⟨ho, hF⟩ := hF
  refine go_callV mX12_of dX12_isHere_22 lm_X12_84 okX12_of isX12_of sh_273 rfl (As := [.int l1, .int 2]) (S := [.int l4]) rfl rfl (Nat.le_of_ble_eq_true rfl) (eX12_of G _ l1 2 m (fun r m' => r = m.1 274 (((34 : Int32) + (9 : Int32) * l1) + 2).toNatClampNeg ∧ m = m') ho ⟨rfl, rfl⟩) (k_i (fun r m' hr => ?_))
  obtain ⟨hr1, hr2⟩ := hr
  subst hr1
  subst hr2
  refine go_icmp_ge 55 dX12_isHere_25 rfl ⟨fun hc => ?_, fun hc => ?_⟩
  · have hF := hF.1 hc
    refine go_iconst (v := 1) dX12_isHere_55 (by decide) ?_
    exact go_zret (S := []) dX12_isHere_56 rfl (by decide) ⟨_, rfl, hF⟩
  · have hF := hF.2 hc
    refine go_aload_n dX12_isHere_28 rfl ?_
    refine go_getR (k := 24) (r := 283) dX12_isHere_29 sh_273 rfl inX12 (Nat.le_of_ble_eq_true rfl) lf_X12_46 rfl rfl ?_
    refine go_iload_n dX12_isHere_32 rfl ?_
    refine go_iload dX12_isHere_33 rfl ?_
    refine go_iadd dX12_isHere_35 ?_
    obtain ⟨hi, hF⟩ := hF
    refine go_iald dX12_isHere_36 sh_283 hi ?_
    refine go_aload_n dX12_isHere_37 rfl ?_
    refine go_iload_n dX12_isHere_38 rfl ?_
    refine go_iload dX12_isHere_39 rfl ?_
    obtain ⟨ho, hF⟩ := hF
    refine go_callV mX12_strokeOf dX12_isHere_41 lm_X12_320 okX12_strokeOf isX12_strokeOf sh_273 rfl (As := [.int l1, .int l4]) (S := [.int (m.1 283 (l2 + l4).toNatClampNeg)]) rfl rfl (Nat.le_of_ble_eq_true rfl) (eX12_strokeOf G _ l1 l4 m (fun r m' => r = m.1 274 (((34 : Int32) + (9 : Int32) * l1) + ((3 : Int32) + l4)).toNatClampNeg ∧ m = m') ho ⟨rfl, rfl⟩) (k_i (fun r m' hr => ?_))
    obtain ⟨hr1, hr2⟩ := hr
    subst hr1
    subst hr2
    refine go_icmp_eq 49 dX12_isHere_44 rfl ⟨fun hc => ?_, fun hc => ?_⟩
    · have hF := hF.1 hc
      obtain ⟨x1, ex1⟩ : ∃ z : Int32, z = l4 + 1 := ⟨_, rfl⟩
      have hF := hF x1 ex1
      refine go_iinc (v := x1) (L' := [.ref (ga G 273), .int l1, .int l2, uu, .int x1]) dX12_isHere_49 rfl (by rw [ex1]; rfl) (Nat.le_of_ble_eq_true rfl) rfl ?_
      refine go_goto 17 dX12_isHere_52 rfl ?_
      exact hF
    · have hF := hF.2 hc
      refine go_iconst (v := 0) dX12_isHere_47 (by decide) ?_
      exact go_zret (S := []) dX12_isHere_48 rfl (by decide) ⟨_, rfl, hF⟩
theorem vX12_laySense (G : GP) (d : Nat) (a0 : Int32) (a1 : Int32) (m : Mem) (K : Mem → Prop) (hF : Gw G (d + 5) mX12_laySense 2 [.ref (ga G 273), .int a0, .int a1, .int 0, uu, uu] [] m (Qv K)) : Evv G (d + 5) mX12_laySense [.ref (ga G 273), .int a0, .int a1] m K := by
  refine Ev.go [.ref (ga G 273), .int a0, .int a1, uu, uu, uu] (by decide) (Nat.le_of_ble_eq_true rfl) rfl ?_
  refine go_iconst (v := 0) dX12_laySense_0 (by decide) ?_
  refine go_istore_n (L' := [.ref (ga G 273), .int a0, .int a1, .int 0, uu, uu]) dX12_laySense_1 (Nat.le_of_ble_eq_true rfl) rfl ?_
  exact hF
theorem vX12_laySense_2 (G : GP) (d : Nat) (l1 : Int32) (l2 : Int32) (l3 : Int32) (u4 : Value) (u5 : Value) (m : Mem) (K : Mem → Prop) (hF : (((m.1 274 1) ≤ l3) → K m) ∧ ((¬ (m.1 274 1) ≤ l3) → ((l1 = 0) → vp_in l3 10 ∧ ∀ m1 : Mem, m1 = wI m 286 l3.toNatClampNeg (vp_nar .boolean 1) → Gw G (d + 5) mX12_laySense 38 [.ref (ga G 273), .int l1, .int l2, .int l3, .int 0, uu] [] m1 (Qv K)) ∧ ((¬ l1 = 0) → Evi G (d + 4) mX12_isBeginning [.ref (ga G 273), .int l3] m (fun r3 m2 => ((r3 = 0) → vp_in l3 10 ∧ ∀ m4 : Mem, m4 = wI m2 286 l3.toNatClampNeg (vp_nar .boolean 0) → Gw G (d + 5) mX12_laySense 38 [.ref (ga G 273), .int l1, .int l2, .int l3, .int 0, uu] [] m4 (Qv K)) ∧ ((¬ r3 = 0) → vp_in l3 10 ∧ ∀ m5 : Mem, m5 = wI m2 286 l3.toNatClampNeg (vp_nar .boolean 1) → Gw G (d + 5) mX12_laySense 38 [.ref (ga G 273), .int l1, .int l2, .int l3, .int 0, uu] [] m5 (Qv K)))))) : Gw G (d + 5) mX12_laySense 2 [.ref (ga G 273), .int l1, .int l2, .int l3, u4, u5] [] m (Qv K) := by
  refine Gw.weak (L' := [.ref (ga G 273), .int l1, .int l2, .int l3, uu, uu]) ⟨Or.inl rfl, Or.inl rfl, Or.inl rfl, Or.inl rfl, Or.inr rfl, Or.inr rfl, trivial⟩ ?_
  refine go_iload_n dX12_laySense_2 rfl ?_
  refine go_aload_n dX12_laySense_3 rfl ?_
  refine go_getR (k := 0) (r := 274) dX12_laySense_4 sh_273 rfl inX12 (Nat.le_of_ble_eq_true rfl) lf_X12_7 rfl rfl ?_
  refine go_iconst (v := 1) dX12_laySense_7 (by decide) ?_
  refine go_ialdK (k := 1) dX12_laySense_8 sh_274 (vp_in_dec (by decide)) (by decide) ?_
  refine go_icmp_ge 122 dX12_laySense_9 rfl ⟨fun hc => ?_, fun hc => ?_⟩
  · have hF := hF.1 hc
    exact go_vret (S := []) dX12_laySense_122 rfl ⟨rfl, hF⟩
  · have hF := hF.2 hc
    refine go_aload_n dX12_laySense_12 rfl ?_
    refine go_getR (k := 27) (r := 286) dX12_laySense_13 sh_273 rfl inX12 (Nat.le_of_ble_eq_true rfl) lf_X12_55 rfl rfl ?_
    refine go_iload_n dX12_laySense_16 rfl ?_
    refine go_iload_n dX12_laySense_17 rfl ?_
    refine go_if_eq 29 dX12_laySense_18 rfl ⟨fun hc => ?_, fun hc => ?_⟩
    · have hF := hF.1 hc
      refine go_iconst (v := 1) dX12_laySense_29 (by decide) ?_
      refine go_goto 34 dX12_laySense_30 rfl ?_
      obtain ⟨hi, hF⟩ := hF
      refine go_zast dX12_laySense_34 sh_286 hi ?_
      obtain ⟨m1, em1⟩ : ∃ z : Mem, z = wI m 286 l3.toNatClampNeg (vp_nar .boolean 1) := ⟨_, rfl⟩
      rw [← em1]
      have hF := hF m1 em1
      refine go_iconst (v := 0) dX12_laySense_35 (by decide) ?_
      refine go_istore (L' := [.ref (ga G 273), .int l1, .int l2, .int l3, .int 0, uu]) dX12_laySense_36 (Nat.le_of_ble_eq_true rfl) rfl ?_
      exact hF
    · have hF := hF.2 hc
      refine go_aload_n dX12_laySense_21 rfl ?_
      refine go_iload_n dX12_laySense_22 rfl ?_
      refine go_callV mX12_isBeginning dX12_laySense_23 lm_X12_391 okX12_isBeginning isX12_isBeginning sh_273 rfl (As := [.int l3]) (S := [.int l3, .ref (ga G 286)]) rfl rfl (Nat.le_of_ble_eq_true rfl) hF (k_i (fun r3 m2 hF => ?_))
      refine go_if_eq 33 dX12_laySense_26 rfl ⟨fun hc => ?_, fun hc => ?_⟩
      · have hF := hF.1 hc
        refine go_iconst (v := 0) dX12_laySense_33 (by decide) ?_
        obtain ⟨hi, hF⟩ := hF
        refine go_zast dX12_laySense_34 sh_286 hi ?_
        obtain ⟨m4, em4⟩ : ∃ z : Mem, z = wI m2 286 l3.toNatClampNeg (vp_nar .boolean 0) := ⟨_, rfl⟩
        rw [← em4]
        have hF := hF m4 em4
        refine go_iconst (v := 0) dX12_laySense_35 (by decide) ?_
        refine go_istore (L' := [.ref (ga G 273), .int l1, .int l2, .int l3, .int 0, uu]) dX12_laySense_36 (Nat.le_of_ble_eq_true rfl) rfl ?_
        exact hF
      · have hF := hF.2 hc
        refine go_iconst (v := 1) dX12_laySense_29 (by decide) ?_
        refine go_goto 34 dX12_laySense_30 rfl ?_
        obtain ⟨hi, hF⟩ := hF
        refine go_zast dX12_laySense_34 sh_286 hi ?_
        obtain ⟨m5, em5⟩ : ∃ z : Mem, z = wI m2 286 l3.toNatClampNeg (vp_nar .boolean 1) := ⟨_, rfl⟩
        rw [← em5]
        have hF := hF m5 em5
        refine go_iconst (v := 0) dX12_laySense_35 (by decide) ?_
        refine go_istore (L' := [.ref (ga G 273), .int l1, .int l2, .int l3, .int 0, uu]) dX12_laySense_36 (Nat.le_of_ble_eq_true rfl) rfl ?_
        exact hF
theorem vX12_laySense_38 (G : GP) (d : Nat) (l1 : Int32) (l2 : Int32) (l3 : Int32) (l4 : Int32) (u5 : Value) (m : Mem) (K : Mem → Prop) (hF : (((m.1 274 1) ≤ l4) → ∀ x6 : Int32, x6 = l3 + 1 → Gw G (d + 5) mX12_laySense 2 [.ref (ga G 273), .int l1, .int l2, .int x6, .int l4, uu] [] m (Qv K)) ∧ ((¬ (m.1 274 1) ≤ l4) → Gw G (d + 5) mX12_laySense 52 [.ref (ga G 273), .int l1, .int l2, .int l3, .int l4, .int 1] [] m (Qv K))) : Gw G (d + 5) mX12_laySense 38 [.ref (ga G 273), .int l1, .int l2, .int l3, .int l4, u5] [] m (Qv K) := by
  refine Gw.weak (L' := [.ref (ga G 273), .int l1, .int l2, .int l3, .int l4, uu]) ⟨Or.inl rfl, Or.inl rfl, Or.inl rfl, Or.inl rfl, Or.inl rfl, Or.inr rfl, trivial⟩ ?_
  refine go_iload dX12_laySense_38 rfl ?_
  refine go_aload_n dX12_laySense_40 rfl ?_
  refine go_getR (k := 0) (r := 274) dX12_laySense_41 sh_273 rfl inX12 (Nat.le_of_ble_eq_true rfl) lf_X12_7 rfl rfl ?_
  refine go_iconst (v := 1) dX12_laySense_44 (by decide) ?_
  refine go_ialdK (k := 1) dX12_laySense_45 sh_274 (vp_in_dec (by decide)) (by decide) ?_
  refine go_icmp_ge 116 dX12_laySense_46 rfl ⟨fun hc => ?_, fun hc => ?_⟩
  · have hF := hF.1 hc
    obtain ⟨x6, ex6⟩ : ∃ z : Int32, z = l3 + 1 := ⟨_, rfl⟩
    have hF := hF x6 ex6
    refine go_iinc (v := x6) (L' := [.ref (ga G 273), .int l1, .int l2, .int x6, .int l4, uu]) dX12_laySense_116 rfl (by rw [ex6]; rfl) (Nat.le_of_ble_eq_true rfl) rfl ?_
    refine go_goto 2 dX12_laySense_119 rfl ?_
    exact hF
  · have hF := hF.2 hc
    refine go_iconst (v := 1) dX12_laySense_49 (by decide) ?_
    refine go_istore (L' := [.ref (ga G 273), .int l1, .int l2, .int l3, .int l4, .int 1]) dX12_laySense_50 (Nat.le_of_ble_eq_true rfl) rfl ?_
    exact hF
theorem vX12_laySense_52 (G : GP) (d : Nat) (l1 : Int32) (l2 : Int32) (l3 : Int32) (l4 : Int32) (l5 : Int32) (m : Mem) (K : Mem → Prop) (hF : ((l2 < l5) → ∀ x7 : Int32, x7 = l4 + 1 → Gw G (d + 5) mX12_laySense 38 [.ref (ga G 273), .int l1, .int l2, .int l3, .int x7, .int l5] [] m (Qv K)) ∧ ((¬ l2 < l5) → ((l1 = 0) → vp_in ((((250 : Int32) * l3) + ((25 : Int32) * l4)) + l5) 2500 ∧ ∀ m8 : Mem, m8 = wI m 285 ((((250 : Int32) * l3) + ((25 : Int32) * l4)) + l5).toNatClampNeg (vp_nar .boolean 1) → ∀ x9 : Int32, x9 = l5 + 1 → Gw G (d + 5) mX12_laySense 52 [.ref (ga G 273), .int l1, .int l2, .int l3, .int l4, .int x9] [] m8 (Qv K)) ∧ ((¬ l1 = 0) → Evi G (d + 4) mX12_isFollowing [.ref (ga G 273), .int (m.1 274 3), .int l3, .int l4, .int l5] m (fun r11 m10 => ((r11 = 0) → vp_in ((((250 : Int32) * l3) + ((25 : Int32) * l4)) + l5) 2500 ∧ ∀ m12 : Mem, m12 = wI m10 285 ((((250 : Int32) * l3) + ((25 : Int32) * l4)) + l5).toNatClampNeg (vp_nar .boolean 0) → ∀ x13 : Int32, x13 = l5 + 1 → Gw G (d + 5) mX12_laySense 52 [.ref (ga G 273), .int l1, .int l2, .int l3, .int l4, .int x13] [] m12 (Qv K)) ∧ ((¬ r11 = 0) → vp_in ((((250 : Int32) * l3) + ((25 : Int32) * l4)) + l5) 2500 ∧ ∀ m14 : Mem, m14 = wI m10 285 ((((250 : Int32) * l3) + ((25 : Int32) * l4)) + l5).toNatClampNeg (vp_nar .boolean 1) → ∀ x15 : Int32, x15 = l5 + 1 → Gw G (d + 5) mX12_laySense 52 [.ref (ga G 273), .int l1, .int l2, .int l3, .int l4, .int x15] [] m14 (Qv K)))))) : Gw G (d + 5) mX12_laySense 52 [.ref (ga G 273), .int l1, .int l2, .int l3, .int l4, .int l5] [] m (Qv K) := by
  refine go_iload dX12_laySense_52 rfl ?_
  refine go_iload_n dX12_laySense_54 rfl ?_
  refine go_icmp_gt 110 dX12_laySense_55 rfl ⟨fun hc => ?_, fun hc => ?_⟩
  · have hF := hF.1 hc
    obtain ⟨x7, ex7⟩ : ∃ z : Int32, z = l4 + 1 := ⟨_, rfl⟩
    have hF := hF x7 ex7
    refine go_iinc (v := x7) (L' := [.ref (ga G 273), .int l1, .int l2, .int l3, .int x7, .int l5]) dX12_laySense_110 rfl (by rw [ex7]; rfl) (Nat.le_of_ble_eq_true rfl) rfl ?_
    refine go_goto 38 dX12_laySense_113 rfl ?_
    exact hF
  · have hF := hF.2 hc
    refine go_aload_n dX12_laySense_58 rfl ?_
    refine go_getR (k := 26) (r := 285) dX12_laySense_59 sh_273 rfl inX12 (Nat.le_of_ble_eq_true rfl) lf_X12_52 rfl rfl ?_
    refine go_sipush (v := 250) dX12_laySense_62 (by decide) ?_
    refine go_iload_n dX12_laySense_65 rfl ?_
    refine go_imul dX12_laySense_66 ?_
    refine go_bipush (v := 25) dX12_laySense_67 (by decide) ?_
    refine go_iload dX12_laySense_69 rfl ?_
    refine go_imul dX12_laySense_71 ?_
    refine go_iadd dX12_laySense_72 ?_
    refine go_iload dX12_laySense_73 rfl ?_
    refine go_iadd dX12_laySense_75 ?_
    refine go_iload_n dX12_laySense_76 rfl ?_
    refine go_if_eq 98 dX12_laySense_77 rfl ⟨fun hc => ?_, fun hc => ?_⟩
    · have hF := hF.1 hc
      refine go_iconst (v := 1) dX12_laySense_98 (by decide) ?_
      refine go_goto 103 dX12_laySense_99 rfl ?_
      obtain ⟨hi, hF⟩ := hF
      refine go_zast dX12_laySense_103 sh_285 hi ?_
      obtain ⟨m8, em8⟩ : ∃ z : Mem, z = wI m 285 ((((250 : Int32) * l3) + ((25 : Int32) * l4)) + l5).toNatClampNeg (vp_nar .boolean 1) := ⟨_, rfl⟩
      rw [← em8]
      have hF := hF m8 em8
      obtain ⟨x9, ex9⟩ : ∃ z : Int32, z = l5 + 1 := ⟨_, rfl⟩
      have hF := hF x9 ex9
      refine go_iinc (v := x9) (L' := [.ref (ga G 273), .int l1, .int l2, .int l3, .int l4, .int x9]) dX12_laySense_104 rfl (by rw [ex9]; rfl) (Nat.le_of_ble_eq_true rfl) rfl ?_
      refine go_goto 52 dX12_laySense_107 rfl ?_
      exact hF
    · have hF := hF.2 hc
      refine go_aload_n dX12_laySense_80 rfl ?_
      refine go_aload_n dX12_laySense_81 rfl ?_
      refine go_getR (k := 0) (r := 274) dX12_laySense_82 sh_273 rfl inX12 (Nat.le_of_ble_eq_true rfl) lf_X12_7 rfl rfl ?_
      refine go_iconst (v := 3) dX12_laySense_85 (by decide) ?_
      refine go_ialdK (k := 3) dX12_laySense_86 sh_274 (vp_in_dec (by decide)) (by decide) ?_
      refine go_iload_n dX12_laySense_87 rfl ?_
      refine go_iload dX12_laySense_88 rfl ?_
      refine go_iload dX12_laySense_90 rfl ?_
      refine go_callV mX12_isFollowing dX12_laySense_92 lm_X12_394 okX12_isFollowing isX12_isFollowing sh_273 rfl (As := [.int (m.1 274 3), .int l3, .int l4, .int l5]) (S := [.int ((((250 : Int32) * l3) + ((25 : Int32) * l4)) + l5), .ref (ga G 285)]) rfl rfl (Nat.le_of_ble_eq_true rfl) hF (k_i (fun r11 m10 hF => ?_))
      refine go_if_eq 102 dX12_laySense_95 rfl ⟨fun hc => ?_, fun hc => ?_⟩
      · have hF := hF.1 hc
        refine go_iconst (v := 0) dX12_laySense_102 (by decide) ?_
        obtain ⟨hi, hF⟩ := hF
        refine go_zast dX12_laySense_103 sh_285 hi ?_
        obtain ⟨m12, em12⟩ : ∃ z : Mem, z = wI m10 285 ((((250 : Int32) * l3) + ((25 : Int32) * l4)) + l5).toNatClampNeg (vp_nar .boolean 0) := ⟨_, rfl⟩
        rw [← em12]
        have hF := hF m12 em12
        obtain ⟨x13, ex13⟩ : ∃ z : Int32, z = l5 + 1 := ⟨_, rfl⟩
        have hF := hF x13 ex13
        refine go_iinc (v := x13) (L' := [.ref (ga G 273), .int l1, .int l2, .int l3, .int l4, .int x13]) dX12_laySense_104 rfl (by rw [ex13]; rfl) (Nat.le_of_ble_eq_true rfl) rfl ?_
        refine go_goto 52 dX12_laySense_107 rfl ?_
        exact hF
      · have hF := hF.2 hc
        refine go_iconst (v := 1) dX12_laySense_98 (by decide) ?_
        refine go_goto 103 dX12_laySense_99 rfl ?_
        obtain ⟨hi, hF⟩ := hF
        refine go_zast dX12_laySense_103 sh_285 hi ?_
        obtain ⟨m14, em14⟩ : ∃ z : Mem, z = wI m10 285 ((((250 : Int32) * l3) + ((25 : Int32) * l4)) + l5).toNatClampNeg (vp_nar .boolean 1) := ⟨_, rfl⟩
        rw [← em14]
        have hF := hF m14 em14
        obtain ⟨x15, ex15⟩ : ∃ z : Int32, z = l5 + 1 := ⟨_, rfl⟩
        have hF := hF x15 ex15
        refine go_iinc (v := x15) (L' := [.ref (ga G 273), .int l1, .int l2, .int l3, .int l4, .int x15]) dX12_laySense_104 rfl (by rw [ex15]; rfl) (Nat.le_of_ble_eq_true rfl) rfl ?_
        refine go_goto 52 dX12_laySense_107 rfl ?_
        exact hF
theorem vX12_isSense (G : GP) (d : Nat) (a0 : Int32) (a1 : Int32) (a2 : Int32) (m : Mem) (K : Int32 → Mem → Prop) (hF : ((¬ a0 = 10) → vp_in ((((250 : Int32) * a0) + ((25 : Int32) * a1)) + a2) 2500 ∧ ((m.1 285 ((((250 : Int32) * a0) + ((25 : Int32) * a1)) + a2).toNatClampNeg) = 0 ∨ (m.1 285 ((((250 : Int32) * a0) + ((25 : Int32) * a1)) + a2).toNatClampNeg) = 1) ∧ K (m.1 285 ((((250 : Int32) * a0) + ((25 : Int32) * a1)) + a2).toNatClampNeg) m) ∧ ((a0 = 10) → vp_in a1 10 ∧ ((m.1 286 a1.toNatClampNeg) = 0 ∨ (m.1 286 a1.toNatClampNeg) = 1) ∧ K (m.1 286 a1.toNatClampNeg) m)) : Evi G (d) mX12_isSense [.ref (ga G 273), .int a0, .int a1, .int a2] m K := by
  refine Ev.go [.ref (ga G 273), .int a0, .int a1, .int a2] (by decide) (Nat.le_of_ble_eq_true rfl) rfl ?_
  refine go_iload_n dX12_isSense_0 rfl ?_
  refine go_bipush (v := 10) dX12_isSense_1 (by decide) ?_
  refine go_icmp_ne 15 dX12_isSense_3 rfl ⟨fun hc => ?_, fun hc => ?_⟩
  · have hF := hF.1 hc
    refine go_aload_n dX12_isSense_15 rfl ?_
    refine go_getR (k := 26) (r := 285) dX12_isSense_16 sh_273 rfl inX12 (Nat.le_of_ble_eq_true rfl) lf_X12_52 rfl rfl ?_
    refine go_sipush (v := 250) dX12_isSense_19 (by decide) ?_
    refine go_iload_n dX12_isSense_22 rfl ?_
    refine go_imul dX12_isSense_23 ?_
    refine go_bipush (v := 25) dX12_isSense_24 (by decide) ?_
    refine go_iload_n dX12_isSense_26 rfl ?_
    refine go_imul dX12_isSense_27 ?_
    refine go_iadd dX12_isSense_28 ?_
    refine go_iload_n dX12_isSense_29 rfl ?_
    refine go_iadd dX12_isSense_30 ?_
    obtain ⟨hi, hF⟩ := hF
    refine go_zald dX12_isSense_31 sh_285 hi ?_
    exact go_zret (S := []) dX12_isSense_32 rfl hF.1 ⟨_, rfl, hF.2⟩
  · have hF := hF.2 hc
    refine go_aload_n dX12_isSense_6 rfl ?_
    refine go_getR (k := 27) (r := 286) dX12_isSense_7 sh_273 rfl inX12 (Nat.le_of_ble_eq_true rfl) lf_X12_55 rfl rfl ?_
    refine go_iload_n dX12_isSense_10 rfl ?_
    obtain ⟨hi, hF⟩ := hF
    refine go_zald dX12_isSense_11 sh_286 hi ?_
    refine go_goto 32 dX12_isSense_12 rfl ?_
    exact go_zret (S := []) dX12_isSense_32 rfl hF.1 ⟨_, rfl, hF.2⟩
theorem vX12_waysFrom (G : GP) (d : Nat) (a0 : Int32) (a1 : Int32) (a2 : Int32) (a3 : Int32) (m : Mem) (K : Int32 → Mem → Prop) (hF : ((¬ a0 = a3) → Gw G (d + 3) mX12_waysFrom 14 [.ref (ga G 273), .int a0, .int a1, .int a2, .int a3, .int 0, .int 0] [] m (Qi K)) ∧ ((a0 = a3) → K 1 m)) : Evi G (d + 3) mX12_waysFrom [.ref (ga G 273), .int a0, .int a1, .int a2, .int a3] m K := by
  refine Ev.go [.ref (ga G 273), .int a0, .int a1, .int a2, .int a3, uu, uu] (by decide) (Nat.le_of_ble_eq_true rfl) rfl ?_
  refine go_iload_n dX12_waysFrom_0 rfl ?_
  refine go_iload dX12_waysFrom_1 rfl ?_
  refine go_icmp_ne 8 dX12_waysFrom_3 rfl ⟨fun hc => ?_, fun hc => ?_⟩
  · have hF := hF.1 hc
    refine go_iconst (v := 0) dX12_waysFrom_8 (by decide) ?_
    refine go_istore (L' := [.ref (ga G 273), .int a0, .int a1, .int a2, .int a3, .int 0, uu]) dX12_waysFrom_9 (Nat.le_of_ble_eq_true rfl) rfl ?_
    refine go_iconst (v := 0) dX12_waysFrom_11 (by decide) ?_
    refine go_istore (L' := [.ref (ga G 273), .int a0, .int a1, .int a2, .int a3, .int 0, .int 0]) dX12_waysFrom_12 (Nat.le_of_ble_eq_true rfl) rfl ?_
    exact hF
  · have hF := hF.2 hc
    refine go_iconst (v := 1) dX12_waysFrom_6 (by decide) ?_
    exact go_iret (S := []) dX12_waysFrom_7 rfl ⟨_, rfl, hF⟩
theorem vX12_waysFrom_14 (G : GP) (d : Nat) (l1 : Int32) (l2 : Int32) (l3 : Int32) (l4 : Int32) (l5 : Int32) (l6 : Int32) (m : Mem) (K : Int32 → Mem → Prop) (hF : (((m.1 274 1) ≤ l6) → K l5 m) ∧ ((¬ (m.1 274 1) ≤ l6) → Evi G (d + 2) mX12_isHere [.ref (ga G 273), .int l6, .int l1, .int l4] m (fun r2 m1 => ((r2 = 0) → ∀ x3 : Int32, x3 = l6 + 1 → Gw G (d + 3) mX12_waysFrom 14 [.ref (ga G 273), .int l1, .int l2, .int l3, .int l4, .int l5, .int x3] [] m1 (Qi K)) ∧ ((¬ r2 = 0) → Evi G (d + 2) mX12_isSense [.ref (ga G 273), .int l2, .int l6, .int l3] m1 (fun r5 m4 => ((¬ r5 = 0) → vp_in (((34 : Int32) + (9 : Int32) * l6) + 2) 5968 ∧ vp_in (((275 : Int32) * (l1 + (m4.1 274 (((34 : Int32) + (9 : Int32) * l6) + 2).toNatClampNeg)) + (25 : Int32) * l6) + (l3 + 1)) 6875 ∧ ∀ x6 : Int32, x6 = l5 + (m4.1 284 (((275 : Int32) * (l1 + (m4.1 274 (((34 : Int32) + (9 : Int32) * l6) + 2).toNatClampNeg)) + (25 : Int32) * l6) + (l3 + 1)).toNatClampNeg) → ((x6 ≤ 1000000) → ∀ x7 : Int32, x7 = l6 + 1 → Gw G (d + 3) mX12_waysFrom 14 [.ref (ga G 273), .int l1, .int l2, .int l3, .int l4, .int x6, .int x7] [] m4 (Qi K)) ∧ ((¬ x6 ≤ 1000000) → ∀ x8 : Int32, x8 = l6 + 1 → Gw G (d + 3) mX12_waysFrom 14 [.ref (ga G 273), .int l1, .int l2, .int l3, .int l4, .int 1000000, .int x8] [] m4 (Qi K))) ∧ ((r5 = 0) → ∀ x9 : Int32, x9 = l6 + 1 → Gw G (d + 3) mX12_waysFrom 14 [.ref (ga G 273), .int l1, .int l2, .int l3, .int l4, .int l5, .int x9] [] m4 (Qi K))))))) : Gw G (d + 3) mX12_waysFrom 14 [.ref (ga G 273), .int l1, .int l2, .int l3, .int l4, .int l5, .int l6] [] m (Qi K) := by
  refine go_iload dX12_waysFrom_14 rfl ?_
  refine go_aload_n dX12_waysFrom_16 rfl ?_
  refine go_getR (k := 0) (r := 274) dX12_waysFrom_17 sh_273 rfl inX12 (Nat.le_of_ble_eq_true rfl) lf_X12_7 rfl rfl ?_
  refine go_iconst (v := 1) dX12_waysFrom_20 (by decide) ?_
  refine go_ialdK (k := 1) dX12_waysFrom_21 sh_274 (vp_in_dec (by decide)) (by decide) ?_
  refine go_icmp_ge 102 dX12_waysFrom_22 rfl ⟨fun hc => ?_, fun hc => ?_⟩
  · have hF := hF.1 hc
    refine go_iload dX12_waysFrom_102 rfl ?_
    exact go_iret (S := []) dX12_waysFrom_104 rfl ⟨_, rfl, hF⟩
  · have hF := hF.2 hc
    refine go_aload_n dX12_waysFrom_25 rfl ?_
    refine go_iload dX12_waysFrom_26 rfl ?_
    refine go_iload_n dX12_waysFrom_28 rfl ?_
    refine go_iload dX12_waysFrom_29 rfl ?_
    refine go_callV mX12_isHere dX12_waysFrom_31 lm_X12_398 okX12_isHere isX12_isHere sh_273 rfl (As := [.int l6, .int l1, .int l4]) (S := []) rfl rfl (Nat.le_of_ble_eq_true rfl) hF (k_i (fun r2 m1 hF => ?_))
    refine go_if_eq 96 dX12_waysFrom_34 rfl ⟨fun hc => ?_, fun hc => ?_⟩
    · have hF := hF.1 hc
      obtain ⟨x3, ex3⟩ : ∃ z : Int32, z = l6 + 1 := ⟨_, rfl⟩
      have hF := hF x3 ex3
      refine go_iinc (v := x3) (L' := [.ref (ga G 273), .int l1, .int l2, .int l3, .int l4, .int l5, .int x3]) dX12_waysFrom_96 rfl (by rw [ex3]; rfl) (Nat.le_of_ble_eq_true rfl) rfl ?_
      refine go_goto 14 dX12_waysFrom_99 rfl ?_
      exact hF
    · have hF := hF.2 hc
      refine go_aload_n dX12_waysFrom_37 rfl ?_
      refine go_iload_n dX12_waysFrom_38 rfl ?_
      refine go_iload dX12_waysFrom_39 rfl ?_
      refine go_iload_n dX12_waysFrom_41 rfl ?_
      refine go_callV mX12_isSense dX12_waysFrom_42 lm_X12_401 okX12_isSense isX12_isSense sh_273 rfl (As := [.int l2, .int l6, .int l3]) (S := []) rfl rfl (Nat.le_of_ble_eq_true rfl) hF (k_i (fun r5 m4 hF => ?_))
      refine go_if_ne 51 dX12_waysFrom_45 rfl ⟨fun hc => ?_, fun hc => ?_⟩
      · have hF := hF.1 hc
        refine go_iload dX12_waysFrom_51 rfl ?_
        refine go_aload_n dX12_waysFrom_53 rfl ?_
        refine go_getR (k := 25) (r := 284) dX12_waysFrom_54 sh_273 rfl inX12 (Nat.le_of_ble_eq_true rfl) lf_X12_49 rfl rfl ?_
        refine go_iload_n dX12_waysFrom_57 rfl ?_
        refine go_aload_n dX12_waysFrom_58 rfl ?_
        refine go_iload dX12_waysFrom_59 rfl ?_
        refine go_iconst (v := 2) dX12_waysFrom_61 (by decide) ?_
        obtain ⟨ho, hF⟩ := hF
        refine go_callV mX12_of dX12_waysFrom_62 lm_X12_84 okX12_of isX12_of sh_273 rfl (As := [.int l6, .int 2]) (S := [.int l1, .ref (ga G 284), .int l5]) rfl rfl (Nat.le_of_ble_eq_true rfl) (eX12_of G _ l6 2 m4 (fun r m' => r = m4.1 274 (((34 : Int32) + (9 : Int32) * l6) + 2).toNatClampNeg ∧ m4 = m') ho ⟨rfl, rfl⟩) (k_i (fun r m' hr => ?_))
        obtain ⟨hr1, hr2⟩ := hr
        subst hr1
        subst hr2
        refine go_iadd dX12_waysFrom_65 ?_
        refine go_iload dX12_waysFrom_66 rfl ?_
        refine go_iload_n dX12_waysFrom_68 rfl ?_
        refine go_iconst (v := 1) dX12_waysFrom_69 (by decide) ?_
        refine go_iadd dX12_waysFrom_70 ?_
        refine go_callS mX12_wayAt dX12_waysFrom_71 lm_X12_404 okX12_wayAt isX12_wayAt (As := [.int (l1 + (m4.1 274 (((34 : Int32) + (9 : Int32) * l6) + 2).toNatClampNeg)), .int l6, .int (l3 + 1)]) (S := [.ref (ga G 284), .int l5]) rfl rfl (Nat.le_of_ble_eq_true rfl) (eX12_wayAt G _ (l1 + (m4.1 274 (((34 : Int32) + (9 : Int32) * l6) + 2).toNatClampNeg)) l6 (l3 + 1) m4 (fun r m' => r = ((275 : Int32) * (l1 + (m4.1 274 (((34 : Int32) + (9 : Int32) * l6) + 2).toNatClampNeg)) + (25 : Int32) * l6) + (l3 + 1) ∧ m4 = m') ⟨rfl, rfl⟩) (k_i (fun r m' hr => ?_))
        obtain ⟨hr1, hr2⟩ := hr
        subst hr1
        subst hr2
        obtain ⟨hi, hF⟩ := hF
        refine go_iald dX12_waysFrom_74 sh_284 hi ?_
        refine go_iadd dX12_waysFrom_75 ?_
        refine Gw.namei (fun x6 ex6 => ?_)
        have hF := hF x6 ex6
        refine go_istore (L' := [.ref (ga G 273), .int l1, .int l2, .int l3, .int l4, .int x6, .int l6]) dX12_waysFrom_76 (Nat.le_of_ble_eq_true rfl) rfl ?_
        refine go_iload dX12_waysFrom_78 rfl ?_
        refine go_ldcw (v := 1000000) dX12_waysFrom_80 lc_X12_407 ?_
        refine go_icmp_le 92 dX12_waysFrom_83 rfl ⟨fun hc => ?_, fun hc => ?_⟩
        · have hF := hF.1 hc
          refine go_iload dX12_waysFrom_92 rfl ?_
          refine go_istore (L' := [.ref (ga G 273), .int l1, .int l2, .int l3, .int l4, .int x6, .int l6]) dX12_waysFrom_94 (Nat.le_of_ble_eq_true rfl) rfl ?_
          obtain ⟨x7, ex7⟩ : ∃ z : Int32, z = l6 + 1 := ⟨_, rfl⟩
          have hF := hF x7 ex7
          refine go_iinc (v := x7) (L' := [.ref (ga G 273), .int l1, .int l2, .int l3, .int l4, .int x6, .int x7]) dX12_waysFrom_96 rfl (by rw [ex7]; rfl) (Nat.le_of_ble_eq_true rfl) rfl ?_
          refine go_goto 14 dX12_waysFrom_99 rfl ?_
          exact hF
        · have hF := hF.2 hc
          refine go_ldcw (v := 1000000) dX12_waysFrom_86 lc_X12_407 ?_
          refine go_goto 94 dX12_waysFrom_89 rfl ?_
          refine go_istore (L' := [.ref (ga G 273), .int l1, .int l2, .int l3, .int l4, .int 1000000, .int l6]) dX12_waysFrom_94 (Nat.le_of_ble_eq_true rfl) rfl ?_
          obtain ⟨x8, ex8⟩ : ∃ z : Int32, z = l6 + 1 := ⟨_, rfl⟩
          have hF := hF x8 ex8
          refine go_iinc (v := x8) (L' := [.ref (ga G 273), .int l1, .int l2, .int l3, .int l4, .int 1000000, .int x8]) dX12_waysFrom_96 rfl (by rw [ex8]; rfl) (Nat.le_of_ble_eq_true rfl) rfl ?_
          refine go_goto 14 dX12_waysFrom_99 rfl ?_
          exact hF
      · have hF := hF.2 hc
        refine go_goto 96 dX12_waysFrom_48 rfl ?_
        obtain ⟨x9, ex9⟩ : ∃ z : Int32, z = l6 + 1 := ⟨_, rfl⟩
        have hF := hF x9 ex9
        refine go_iinc (v := x9) (L' := [.ref (ga G 273), .int l1, .int l2, .int l3, .int l4, .int l5, .int x9]) dX12_waysFrom_96 rfl (by rw [ex9]; rfl) (Nat.le_of_ble_eq_true rfl) rfl ?_
        refine go_goto 14 dX12_waysFrom_99 rfl ?_
        exact hF
theorem vX12_layWays (G : GP) (d : Nat) (a0 : Int32) (m : Mem) (K : Int32 → Mem → Prop) (hF : Evi G (d + 5) mX12_layHeard [.ref (ga G 273)] m (fun r2 m1 => Evv G (d + 5) mX12_laySense [.ref (ga G 273), .int a0, .int r2] m1 (fun m3 => Gw G (d + 6) mX12_layWays 13 [.ref (ga G 273), .int a0, .int r2, .int r2, uu, uu] [] m3 (Qi K)))) : Evi G (d + 6) mX12_layWays [.ref (ga G 273), .int a0] m K := by
  refine Ev.go [.ref (ga G 273), .int a0, uu, uu, uu, uu] (by decide) (Nat.le_of_ble_eq_true rfl) rfl ?_
  refine go_aload_n dX12_layWays_0 rfl ?_
  refine go_callV mX12_layHeard dX12_layWays_1 lm_X12_353 okX12_layHeard isX12_layHeard sh_273 rfl (As := []) (S := []) rfl rfl (Nat.le_of_ble_eq_true rfl) hF (k_i (fun r2 m1 hF => ?_))
  refine go_istore_n (L' := [.ref (ga G 273), .int a0, .int r2, uu, uu, uu]) dX12_layWays_4 (Nat.le_of_ble_eq_true rfl) rfl ?_
  refine go_aload_n dX12_layWays_5 rfl ?_
  refine go_iload_n dX12_layWays_6 rfl ?_
  refine go_iload_n dX12_layWays_7 rfl ?_
  refine go_callV mX12_laySense dX12_layWays_8 lm_X12_408 okX12_laySense isX12_laySense sh_273 rfl (As := [.int a0, .int r2]) (S := []) rfl rfl (Nat.le_of_ble_eq_true rfl) hF (k_v (fun m3 hF => ?_))
  refine go_iload_n dX12_layWays_11 rfl ?_
  refine go_istore_n (L' := [.ref (ga G 273), .int a0, .int r2, .int r2, uu, uu]) dX12_layWays_12 (Nat.le_of_ble_eq_true rfl) rfl ?_
  exact hF
theorem vX12_layWays_13 (G : GP) (d : Nat) (u1 : Value) (l2 : Int32) (l3 : Int32) (u4 : Value) (u5 : Value) (m : Mem) (K : Int32 → Mem → Prop) (hF : ((l3 < 0) → K l2 m) ∧ ((¬ l3 < 0) → Gw G (d + 6) mX12_layWays 20 [.ref (ga G 273), uu, .int l2, .int l3, .int 0, uu] [] m (Qi K))) : Gw G (d + 6) mX12_layWays 13 [.ref (ga G 273), u1, .int l2, .int l3, u4, u5] [] m (Qi K) := by
  refine Gw.weak (L' := [.ref (ga G 273), uu, .int l2, .int l3, uu, uu]) ⟨Or.inl rfl, Or.inr rfl, Or.inl rfl, Or.inl rfl, Or.inr rfl, Or.inr rfl, trivial⟩ ?_
  refine go_iload_n dX12_layWays_13 rfl ?_
  refine go_if_lt 123 dX12_layWays_14 rfl ⟨fun hc => ?_, fun hc => ?_⟩
  · have hF := hF.1 hc
    refine go_iload_n dX12_layWays_123 rfl ?_
    exact go_iret (S := []) dX12_layWays_124 rfl ⟨_, rfl, hF⟩
  · have hF := hF.2 hc
    refine go_iconst (v := 0) dX12_layWays_17 (by decide) ?_
    refine go_istore (L' := [.ref (ga G 273), uu, .int l2, .int l3, .int 0, uu]) dX12_layWays_18 (Nat.le_of_ble_eq_true rfl) rfl ?_
    exact hF
theorem vX12_layWays_20 (G : GP) (d : Nat) (u1 : Value) (l2 : Int32) (l3 : Int32) (l4 : Int32) (u5 : Value) (m : Mem) (K : Int32 → Mem → Prop) (hF : ((l3 < l4) → ∀ x4 : Int32, x4 = l3 + (-1) → Gw G (d + 6) mX12_layWays 13 [.ref (ga G 273), uu, .int l2, .int x4, .int l4, uu] [] m (Qi K)) ∧ ((¬ l3 < l4) → Gw G (d + 6) mX12_layWays 29 [.ref (ga G 273), uu, .int l2, .int l3, .int l4, .int 0] [] m (Qi K))) : Gw G (d + 6) mX12_layWays 20 [.ref (ga G 273), u1, .int l2, .int l3, .int l4, u5] [] m (Qi K) := by
  refine Gw.weak (L' := [.ref (ga G 273), uu, .int l2, .int l3, .int l4, uu]) ⟨Or.inl rfl, Or.inr rfl, Or.inl rfl, Or.inl rfl, Or.inl rfl, Or.inr rfl, trivial⟩ ?_
  refine go_iload dX12_layWays_20 rfl ?_
  refine go_iload_n dX12_layWays_22 rfl ?_
  refine go_icmp_gt 117 dX12_layWays_23 rfl ⟨fun hc => ?_, fun hc => ?_⟩
  · have hF := hF.1 hc
    obtain ⟨x4, ex4⟩ : ∃ z : Int32, z = l3 + (-1) := ⟨_, rfl⟩
    have hF := hF x4 ex4
    refine go_iinc (v := x4) (L' := [.ref (ga G 273), uu, .int l2, .int x4, .int l4, uu]) dX12_layWays_117 rfl (by rw [ex4]; rfl) (Nat.le_of_ble_eq_true rfl) rfl ?_
    refine go_goto 13 dX12_layWays_120 rfl ?_
    exact hF
  · have hF := hF.2 hc
    refine go_iconst (v := 0) dX12_layWays_26 (by decide) ?_
    refine go_istore (L' := [.ref (ga G 273), uu, .int l2, .int l3, .int l4, .int 0]) dX12_layWays_27 (Nat.le_of_ble_eq_true rfl) rfl ?_
    exact hF
theorem vX12_layWays_29 (G : GP) (d : Nat) (u1 : Value) (l2 : Int32) (l3 : Int32) (l4 : Int32) (l5 : Int32) (m : Mem) (K : Int32 → Mem → Prop) (hF : ((11 ≤ l5) → ∀ x5 : Int32, x5 = l4 + 1 → Gw G (d + 6) mX12_layWays 20 [.ref (ga G 273), uu, .int l2, .int l3, .int x5, .int l5] [] m (Qi K)) ∧ ((¬ 11 ≤ l5) → ((10 ≤ l5) → ((¬ l4 = 0) → ((¬ l5 = 10) → Evi G (d + 5) mX12_waysFrom [.ref (ga G 273), .int l3, .int l5, .int l4, .int l2] m (fun r7 m6 => vp_in (((275 : Int32) * l3 + (25 : Int32) * l5) + l4) 6875 ∧ ∀ m8 : Mem, m8 = wI m6 284 (((275 : Int32) * l3 + (25 : Int32) * l5) + l4).toNatClampNeg r7 → ∀ x9 : Int32, x9 = l5 + 1 → Gw G (d + 6) mX12_layWays 29 [.ref (ga G 273), uu, .int l2, .int l3, .int l4, .int x9] [] m8 (Qi K))) ∧ ((l5 = 10) → ∀ x10 : Int32, x10 = l5 + 1 → Gw G (d + 6) mX12_layWays 29 [.ref (ga G 273), uu, .int l2, .int l3, .int l4, .int x10] [] m (Qi K))) ∧ ((l4 = 0) → ((¬ l5 = 10) → ∀ x11 : Int32, x11 = l5 + 1 → Gw G (d + 6) mX12_layWays 29 [.ref (ga G 273), uu, .int l2, .int l3, .int l4, .int x11] [] m (Qi K)) ∧ ((l5 = 10) → Evi G (d + 5) mX12_waysFrom [.ref (ga G 273), .int l3, .int l5, .int l4, .int l2] m (fun r13 m12 => vp_in (((275 : Int32) * l3 + (25 : Int32) * l5) + l4) 6875 ∧ ∀ m14 : Mem, m14 = wI m12 284 (((275 : Int32) * l3 + (25 : Int32) * l5) + l4).toNatClampNeg r13 → ∀ x15 : Int32, x15 = l5 + 1 → Gw G (d + 6) mX12_layWays 29 [.ref (ga G 273), uu, .int l2, .int l3, .int l4, .int x15] [] m14 (Qi K))))) ∧ ((¬ 10 ≤ l5) → (((m.1 274 1) ≤ l5) → ∀ x16 : Int32, x16 = l5 + 1 → Gw G (d + 6) mX12_layWays 29 [.ref (ga G 273), uu, .int l2, .int l3, .int l4, .int x16] [] m (Qi K)) ∧ ((¬ (m.1 274 1) ≤ l5) → ((¬ l4 = 0) → ((¬ l5 = 10) → Evi G (d + 5) mX12_waysFrom [.ref (ga G 273), .int l3, .int l5, .int l4, .int l2] m (fun r18 m17 => vp_in (((275 : Int32) * l3 + (25 : Int32) * l5) + l4) 6875 ∧ ∀ m19 : Mem, m19 = wI m17 284 (((275 : Int32) * l3 + (25 : Int32) * l5) + l4).toNatClampNeg r18 → ∀ x20 : Int32, x20 = l5 + 1 → Gw G (d + 6) mX12_layWays 29 [.ref (ga G 273), uu, .int l2, .int l3, .int l4, .int x20] [] m19 (Qi K))) ∧ ((l5 = 10) → ∀ x21 : Int32, x21 = l5 + 1 → Gw G (d + 6) mX12_layWays 29 [.ref (ga G 273), uu, .int l2, .int l3, .int l4, .int x21] [] m (Qi K))) ∧ ((l4 = 0) → ((¬ l5 = 10) → ∀ x22 : Int32, x22 = l5 + 1 → Gw G (d + 6) mX12_layWays 29 [.ref (ga G 273), uu, .int l2, .int l3, .int l4, .int x22] [] m (Qi K)) ∧ ((l5 = 10) → Evi G (d + 5) mX12_waysFrom [.ref (ga G 273), .int l3, .int l5, .int l4, .int l2] m (fun r24 m23 => vp_in (((275 : Int32) * l3 + (25 : Int32) * l5) + l4) 6875 ∧ ∀ m25 : Mem, m25 = wI m23 284 (((275 : Int32) * l3 + (25 : Int32) * l5) + l4).toNatClampNeg r24 → ∀ x26 : Int32, x26 = l5 + 1 → Gw G (d + 6) mX12_layWays 29 [.ref (ga G 273), uu, .int l2, .int l3, .int l4, .int x26] [] m25 (Qi K)))))))) : Gw G (d + 6) mX12_layWays 29 [.ref (ga G 273), u1, .int l2, .int l3, .int l4, .int l5] [] m (Qi K) := by
  refine Gw.weak (L' := [.ref (ga G 273), uu, .int l2, .int l3, .int l4, .int l5]) ⟨Or.inl rfl, Or.inr rfl, Or.inl rfl, Or.inl rfl, Or.inl rfl, Or.inl rfl, trivial⟩ ?_
  refine go_iload dX12_layWays_29 rfl ?_
  refine go_bipush (v := 11) dX12_layWays_31 (by decide) ?_
  refine go_icmp_ge 111 dX12_layWays_33 rfl ⟨fun hc => ?_, fun hc => ?_⟩
  · have hF := hF.1 hc
    obtain ⟨x5, ex5⟩ : ∃ z : Int32, z = l4 + 1 := ⟨_, rfl⟩
    have hF := hF x5 ex5
    refine go_iinc (v := x5) (L' := [.ref (ga G 273), uu, .int l2, .int l3, .int x5, .int l5]) dX12_layWays_111 rfl (by rw [ex5]; rfl) (Nat.le_of_ble_eq_true rfl) rfl ?_
    refine go_goto 20 dX12_layWays_114 rfl ?_
    exact hF
  · have hF := hF.2 hc
    refine go_iload dX12_layWays_36 rfl ?_
    refine go_bipush (v := 10) dX12_layWays_38 (by decide) ?_
    refine go_icmp_ge 54 dX12_layWays_40 rfl ⟨fun hc => ?_, fun hc => ?_⟩
    · have hF := hF.1 hc
      refine go_iload dX12_layWays_54 rfl ?_
      refine go_if_ne 63 dX12_layWays_56 rfl ⟨fun hc => ?_, fun hc => ?_⟩
      · have hF := hF.1 hc
        refine go_iconst (v := 0) dX12_layWays_63 (by decide) ?_
        refine go_iload dX12_layWays_64 rfl ?_
        refine go_bipush (v := 10) dX12_layWays_66 (by decide) ?_
        refine go_icmp_ne 75 dX12_layWays_68 rfl ⟨fun hc => ?_, fun hc => ?_⟩
        · have hF := hF.1 hc
          refine go_iconst (v := 0) dX12_layWays_75 (by decide) ?_
          refine go_icmp_eq 82 dX12_layWays_76 rfl ⟨fun _ => ?_, fun hc => absurd hc (by decide)⟩
          refine go_aload_n dX12_layWays_82 rfl ?_
          refine go_getR (k := 25) (r := 284) dX12_layWays_83 sh_273 rfl inX12 (Nat.le_of_ble_eq_true rfl) lf_X12_49 rfl rfl ?_
          refine go_iload_n dX12_layWays_86 rfl ?_
          refine go_iload dX12_layWays_87 rfl ?_
          refine go_iload dX12_layWays_89 rfl ?_
          refine go_callS mX12_wayAt dX12_layWays_91 lm_X12_404 okX12_wayAt isX12_wayAt (As := [.int l3, .int l5, .int l4]) (S := [.ref (ga G 284)]) rfl rfl (Nat.le_of_ble_eq_true rfl) (eX12_wayAt G _ l3 l5 l4 m (fun r m' => r = ((275 : Int32) * l3 + (25 : Int32) * l5) + l4 ∧ m = m') ⟨rfl, rfl⟩) (k_i (fun r m' hr => ?_))
          obtain ⟨hr1, hr2⟩ := hr
          subst hr1
          subst hr2
          refine go_aload_n dX12_layWays_94 rfl ?_
          refine go_iload_n dX12_layWays_95 rfl ?_
          refine go_iload dX12_layWays_96 rfl ?_
          refine go_iload dX12_layWays_98 rfl ?_
          refine go_iload_n dX12_layWays_100 rfl ?_
          refine go_callV mX12_waysFrom dX12_layWays_101 lm_X12_412 okX12_waysFrom isX12_waysFrom sh_273 rfl (As := [.int l3, .int l5, .int l4, .int l2]) (S := [.int (((275 : Int32) * l3 + (25 : Int32) * l5) + l4), .ref (ga G 284)]) rfl rfl (Nat.le_of_ble_eq_true rfl) hF (k_i (fun r7 m6 hF => ?_))
          obtain ⟨hi, hF⟩ := hF
          refine go_iast dX12_layWays_104 sh_284 hi ?_
          obtain ⟨m8, em8⟩ : ∃ z : Mem, z = wI m6 284 (((275 : Int32) * l3 + (25 : Int32) * l5) + l4).toNatClampNeg r7 := ⟨_, rfl⟩
          rw [← em8]
          have hF := hF m8 em8
          obtain ⟨x9, ex9⟩ : ∃ z : Int32, z = l5 + 1 := ⟨_, rfl⟩
          have hF := hF x9 ex9
          refine go_iinc (v := x9) (L' := [.ref (ga G 273), uu, .int l2, .int l3, .int l4, .int x9]) dX12_layWays_105 rfl (by rw [ex9]; rfl) (Nat.le_of_ble_eq_true rfl) rfl ?_
          refine go_goto 29 dX12_layWays_108 rfl ?_
          exact hF
        · have hF := hF.2 hc
          refine go_iconst (v := 1) dX12_layWays_71 (by decide) ?_
          refine go_goto 76 dX12_layWays_72 rfl ?_
          refine go_icmp_eq 82 dX12_layWays_76 rfl ⟨fun hc => absurd hc (by decide), fun _ => ?_⟩
          refine go_goto 105 dX12_layWays_79 rfl ?_
          obtain ⟨x10, ex10⟩ : ∃ z : Int32, z = l5 + 1 := ⟨_, rfl⟩
          have hF := hF x10 ex10
          refine go_iinc (v := x10) (L' := [.ref (ga G 273), uu, .int l2, .int l3, .int l4, .int x10]) dX12_layWays_105 rfl (by rw [ex10]; rfl) (Nat.le_of_ble_eq_true rfl) rfl ?_
          refine go_goto 29 dX12_layWays_108 rfl ?_
          exact hF
      · have hF := hF.2 hc
        refine go_iconst (v := 1) dX12_layWays_59 (by decide) ?_
        refine go_goto 64 dX12_layWays_60 rfl ?_
        refine go_iload dX12_layWays_64 rfl ?_
        refine go_bipush (v := 10) dX12_layWays_66 (by decide) ?_
        refine go_icmp_ne 75 dX12_layWays_68 rfl ⟨fun hc => ?_, fun hc => ?_⟩
        · have hF := hF.1 hc
          refine go_iconst (v := 0) dX12_layWays_75 (by decide) ?_
          refine go_icmp_eq 82 dX12_layWays_76 rfl ⟨fun hc => absurd hc (by decide), fun _ => ?_⟩
          refine go_goto 105 dX12_layWays_79 rfl ?_
          obtain ⟨x11, ex11⟩ : ∃ z : Int32, z = l5 + 1 := ⟨_, rfl⟩
          have hF := hF x11 ex11
          refine go_iinc (v := x11) (L' := [.ref (ga G 273), uu, .int l2, .int l3, .int l4, .int x11]) dX12_layWays_105 rfl (by rw [ex11]; rfl) (Nat.le_of_ble_eq_true rfl) rfl ?_
          refine go_goto 29 dX12_layWays_108 rfl ?_
          exact hF
        · have hF := hF.2 hc
          refine go_iconst (v := 1) dX12_layWays_71 (by decide) ?_
          refine go_goto 76 dX12_layWays_72 rfl ?_
          refine go_icmp_eq 82 dX12_layWays_76 rfl ⟨fun _ => ?_, fun hc => absurd hc (by decide)⟩
          refine go_aload_n dX12_layWays_82 rfl ?_
          refine go_getR (k := 25) (r := 284) dX12_layWays_83 sh_273 rfl inX12 (Nat.le_of_ble_eq_true rfl) lf_X12_49 rfl rfl ?_
          refine go_iload_n dX12_layWays_86 rfl ?_
          refine go_iload dX12_layWays_87 rfl ?_
          refine go_iload dX12_layWays_89 rfl ?_
          refine go_callS mX12_wayAt dX12_layWays_91 lm_X12_404 okX12_wayAt isX12_wayAt (As := [.int l3, .int l5, .int l4]) (S := [.ref (ga G 284)]) rfl rfl (Nat.le_of_ble_eq_true rfl) (eX12_wayAt G _ l3 l5 l4 m (fun r m' => r = ((275 : Int32) * l3 + (25 : Int32) * l5) + l4 ∧ m = m') ⟨rfl, rfl⟩) (k_i (fun r m' hr => ?_))
          obtain ⟨hr1, hr2⟩ := hr
          subst hr1
          subst hr2
          refine go_aload_n dX12_layWays_94 rfl ?_
          refine go_iload_n dX12_layWays_95 rfl ?_
          refine go_iload dX12_layWays_96 rfl ?_
          refine go_iload dX12_layWays_98 rfl ?_
          refine go_iload_n dX12_layWays_100 rfl ?_
          refine go_callV mX12_waysFrom dX12_layWays_101 lm_X12_412 okX12_waysFrom isX12_waysFrom sh_273 rfl (As := [.int l3, .int l5, .int l4, .int l2]) (S := [.int (((275 : Int32) * l3 + (25 : Int32) * l5) + l4), .ref (ga G 284)]) rfl rfl (Nat.le_of_ble_eq_true rfl) hF (k_i (fun r13 m12 hF => ?_))
          obtain ⟨hi, hF⟩ := hF
          refine go_iast dX12_layWays_104 sh_284 hi ?_
          obtain ⟨m14, em14⟩ : ∃ z : Mem, z = wI m12 284 (((275 : Int32) * l3 + (25 : Int32) * l5) + l4).toNatClampNeg r13 := ⟨_, rfl⟩
          rw [← em14]
          have hF := hF m14 em14
          obtain ⟨x15, ex15⟩ : ∃ z : Int32, z = l5 + 1 := ⟨_, rfl⟩
          have hF := hF x15 ex15
          refine go_iinc (v := x15) (L' := [.ref (ga G 273), uu, .int l2, .int l3, .int l4, .int x15]) dX12_layWays_105 rfl (by rw [ex15]; rfl) (Nat.le_of_ble_eq_true rfl) rfl ?_
          refine go_goto 29 dX12_layWays_108 rfl ?_
          exact hF
    · have hF := hF.2 hc
      refine go_iload dX12_layWays_43 rfl ?_
      refine go_aload_n dX12_layWays_45 rfl ?_
      refine go_getR (k := 0) (r := 274) dX12_layWays_46 sh_273 rfl inX12 (Nat.le_of_ble_eq_true rfl) lf_X12_7 rfl rfl ?_
      refine go_iconst (v := 1) dX12_layWays_49 (by decide) ?_
      refine go_ialdK (k := 1) dX12_layWays_50 sh_274 (vp_in_dec (by decide)) (by decide) ?_
      refine go_icmp_ge 105 dX12_layWays_51 rfl ⟨fun hc => ?_, fun hc => ?_⟩
      · have hF := hF.1 hc
        obtain ⟨x16, ex16⟩ : ∃ z : Int32, z = l5 + 1 := ⟨_, rfl⟩
        have hF := hF x16 ex16
        refine go_iinc (v := x16) (L' := [.ref (ga G 273), uu, .int l2, .int l3, .int l4, .int x16]) dX12_layWays_105 rfl (by rw [ex16]; rfl) (Nat.le_of_ble_eq_true rfl) rfl ?_
        refine go_goto 29 dX12_layWays_108 rfl ?_
        exact hF
      · have hF := hF.2 hc
        refine go_iload dX12_layWays_54 rfl ?_
        refine go_if_ne 63 dX12_layWays_56 rfl ⟨fun hc => ?_, fun hc => ?_⟩
        · have hF := hF.1 hc
          refine go_iconst (v := 0) dX12_layWays_63 (by decide) ?_
          refine go_iload dX12_layWays_64 rfl ?_
          refine go_bipush (v := 10) dX12_layWays_66 (by decide) ?_
          refine go_icmp_ne 75 dX12_layWays_68 rfl ⟨fun hc => ?_, fun hc => ?_⟩
          · have hF := hF.1 hc
            refine go_iconst (v := 0) dX12_layWays_75 (by decide) ?_
            refine go_icmp_eq 82 dX12_layWays_76 rfl ⟨fun _ => ?_, fun hc => absurd hc (by decide)⟩
            refine go_aload_n dX12_layWays_82 rfl ?_
            refine go_getR (k := 25) (r := 284) dX12_layWays_83 sh_273 rfl inX12 (Nat.le_of_ble_eq_true rfl) lf_X12_49 rfl rfl ?_
            refine go_iload_n dX12_layWays_86 rfl ?_
            refine go_iload dX12_layWays_87 rfl ?_
            refine go_iload dX12_layWays_89 rfl ?_
            refine go_callS mX12_wayAt dX12_layWays_91 lm_X12_404 okX12_wayAt isX12_wayAt (As := [.int l3, .int l5, .int l4]) (S := [.ref (ga G 284)]) rfl rfl (Nat.le_of_ble_eq_true rfl) (eX12_wayAt G _ l3 l5 l4 m (fun r m' => r = ((275 : Int32) * l3 + (25 : Int32) * l5) + l4 ∧ m = m') ⟨rfl, rfl⟩) (k_i (fun r m' hr => ?_))
            obtain ⟨hr1, hr2⟩ := hr
            subst hr1
            subst hr2
            refine go_aload_n dX12_layWays_94 rfl ?_
            refine go_iload_n dX12_layWays_95 rfl ?_
            refine go_iload dX12_layWays_96 rfl ?_
            refine go_iload dX12_layWays_98 rfl ?_
            refine go_iload_n dX12_layWays_100 rfl ?_
            refine go_callV mX12_waysFrom dX12_layWays_101 lm_X12_412 okX12_waysFrom isX12_waysFrom sh_273 rfl (As := [.int l3, .int l5, .int l4, .int l2]) (S := [.int (((275 : Int32) * l3 + (25 : Int32) * l5) + l4), .ref (ga G 284)]) rfl rfl (Nat.le_of_ble_eq_true rfl) hF (k_i (fun r18 m17 hF => ?_))
            obtain ⟨hi, hF⟩ := hF
            refine go_iast dX12_layWays_104 sh_284 hi ?_
            obtain ⟨m19, em19⟩ : ∃ z : Mem, z = wI m17 284 (((275 : Int32) * l3 + (25 : Int32) * l5) + l4).toNatClampNeg r18 := ⟨_, rfl⟩
            rw [← em19]
            have hF := hF m19 em19
            obtain ⟨x20, ex20⟩ : ∃ z : Int32, z = l5 + 1 := ⟨_, rfl⟩
            have hF := hF x20 ex20
            refine go_iinc (v := x20) (L' := [.ref (ga G 273), uu, .int l2, .int l3, .int l4, .int x20]) dX12_layWays_105 rfl (by rw [ex20]; rfl) (Nat.le_of_ble_eq_true rfl) rfl ?_
            refine go_goto 29 dX12_layWays_108 rfl ?_
            exact hF
          · have hF := hF.2 hc
            refine go_iconst (v := 1) dX12_layWays_71 (by decide) ?_
            refine go_goto 76 dX12_layWays_72 rfl ?_
            refine go_icmp_eq 82 dX12_layWays_76 rfl ⟨fun hc => absurd hc (by decide), fun _ => ?_⟩
            refine go_goto 105 dX12_layWays_79 rfl ?_
            obtain ⟨x21, ex21⟩ : ∃ z : Int32, z = l5 + 1 := ⟨_, rfl⟩
            have hF := hF x21 ex21
            refine go_iinc (v := x21) (L' := [.ref (ga G 273), uu, .int l2, .int l3, .int l4, .int x21]) dX12_layWays_105 rfl (by rw [ex21]; rfl) (Nat.le_of_ble_eq_true rfl) rfl ?_
            refine go_goto 29 dX12_layWays_108 rfl ?_
            exact hF
        · have hF := hF.2 hc
          refine go_iconst (v := 1) dX12_layWays_59 (by decide) ?_
          refine go_goto 64 dX12_layWays_60 rfl ?_
          refine go_iload dX12_layWays_64 rfl ?_
          refine go_bipush (v := 10) dX12_layWays_66 (by decide) ?_
          refine go_icmp_ne 75 dX12_layWays_68 rfl ⟨fun hc => ?_, fun hc => ?_⟩
          · have hF := hF.1 hc
            refine go_iconst (v := 0) dX12_layWays_75 (by decide) ?_
            refine go_icmp_eq 82 dX12_layWays_76 rfl ⟨fun hc => absurd hc (by decide), fun _ => ?_⟩
            refine go_goto 105 dX12_layWays_79 rfl ?_
            obtain ⟨x22, ex22⟩ : ∃ z : Int32, z = l5 + 1 := ⟨_, rfl⟩
            have hF := hF x22 ex22
            refine go_iinc (v := x22) (L' := [.ref (ga G 273), uu, .int l2, .int l3, .int l4, .int x22]) dX12_layWays_105 rfl (by rw [ex22]; rfl) (Nat.le_of_ble_eq_true rfl) rfl ?_
            refine go_goto 29 dX12_layWays_108 rfl ?_
            exact hF
          · have hF := hF.2 hc
            refine go_iconst (v := 1) dX12_layWays_71 (by decide) ?_
            refine go_goto 76 dX12_layWays_72 rfl ?_
            refine go_icmp_eq 82 dX12_layWays_76 rfl ⟨fun _ => ?_, fun hc => absurd hc (by decide)⟩
            refine go_aload_n dX12_layWays_82 rfl ?_
            refine go_getR (k := 25) (r := 284) dX12_layWays_83 sh_273 rfl inX12 (Nat.le_of_ble_eq_true rfl) lf_X12_49 rfl rfl ?_
            refine go_iload_n dX12_layWays_86 rfl ?_
            refine go_iload dX12_layWays_87 rfl ?_
            refine go_iload dX12_layWays_89 rfl ?_
            refine go_callS mX12_wayAt dX12_layWays_91 lm_X12_404 okX12_wayAt isX12_wayAt (As := [.int l3, .int l5, .int l4]) (S := [.ref (ga G 284)]) rfl rfl (Nat.le_of_ble_eq_true rfl) (eX12_wayAt G _ l3 l5 l4 m (fun r m' => r = ((275 : Int32) * l3 + (25 : Int32) * l5) + l4 ∧ m = m') ⟨rfl, rfl⟩) (k_i (fun r m' hr => ?_))
            obtain ⟨hr1, hr2⟩ := hr
            subst hr1
            subst hr2
            refine go_aload_n dX12_layWays_94 rfl ?_
            refine go_iload_n dX12_layWays_95 rfl ?_
            refine go_iload dX12_layWays_96 rfl ?_
            refine go_iload dX12_layWays_98 rfl ?_
            refine go_iload_n dX12_layWays_100 rfl ?_
            refine go_callV mX12_waysFrom dX12_layWays_101 lm_X12_412 okX12_waysFrom isX12_waysFrom sh_273 rfl (As := [.int l3, .int l5, .int l4, .int l2]) (S := [.int (((275 : Int32) * l3 + (25 : Int32) * l5) + l4), .ref (ga G 284)]) rfl rfl (Nat.le_of_ble_eq_true rfl) hF (k_i (fun r24 m23 hF => ?_))
            obtain ⟨hi, hF⟩ := hF
            refine go_iast dX12_layWays_104 sh_284 hi ?_
            obtain ⟨m25, em25⟩ : ∃ z : Mem, z = wI m23 284 (((275 : Int32) * l3 + (25 : Int32) * l5) + l4).toNatClampNeg r24 := ⟨_, rfl⟩
            rw [← em25]
            have hF := hF m25 em25
            obtain ⟨x26, ex26⟩ : ∃ z : Int32, z = l5 + 1 := ⟨_, rfl⟩
            have hF := hF x26 ex26
            refine go_iinc (v := x26) (L' := [.ref (ga G 273), uu, .int l2, .int l3, .int l4, .int x26]) dX12_layWays_105 rfl (by rw [ex26]; rfl) (Nat.le_of_ble_eq_true rfl) rfl ?_
            refine go_goto 29 dX12_layWays_108 rfl ?_
            exact hF
theorem vX12_readings (G : GP) (d : Nat) (a0 : Int32) (m : Mem) (K : Int32 → Mem → Prop) (hF : Evi G (d + 6) mX12_layWays [.ref (ga G 273), .int a0] m (fun r2 m1 => vp_in (((275 : Int32) * 0 + (25 : Int32) * 10) + 0) 6875 ∧ K (m1.1 284 (((275 : Int32) * 0 + (25 : Int32) * 10) + 0).toNatClampNeg) m1)) : Evi G (d + 7) mX12_readings [.ref (ga G 273), .int a0] m K := by
  refine Ev.go [.ref (ga G 273), .int a0] (by decide) (Nat.le_of_ble_eq_true rfl) rfl ?_
  refine go_aload_n dX12_readings_0 rfl ?_
  refine go_iload_n dX12_readings_1 rfl ?_
  refine go_callV mX12_layWays dX12_readings_2 lm_X12_416 okX12_layWays isX12_layWays sh_273 rfl (As := [.int a0]) (S := []) rfl rfl (Nat.le_of_ble_eq_true rfl) hF (k_i (fun r2 m1 hF => ?_))
  refine go_pop dX12_readings_5 rfl ?_
  refine go_aload_n dX12_readings_6 rfl ?_
  refine go_getR (k := 25) (r := 284) dX12_readings_7 sh_273 rfl inX12 (Nat.le_of_ble_eq_true rfl) lf_X12_49 rfl rfl ?_
  refine go_iconst (v := 0) dX12_readings_10 (by decide) ?_
  refine go_bipush (v := 10) dX12_readings_11 (by decide) ?_
  refine go_iconst (v := 0) dX12_readings_13 (by decide) ?_
  refine go_callS mX12_wayAt dX12_readings_14 lm_X12_404 okX12_wayAt isX12_wayAt (As := [.int 0, .int 10, .int 0]) (S := [.ref (ga G 284)]) rfl rfl (Nat.le_of_ble_eq_true rfl) (eX12_wayAt G _ 0 10 0 m1 (fun r m' => r = ((275 : Int32) * 0 + (25 : Int32) * 10) + 0 ∧ m1 = m') ⟨rfl, rfl⟩) (k_i (fun r m' hr => ?_))
  obtain ⟨hr1, hr2⟩ := hr
  subst hr1
  subst hr2
  obtain ⟨hi, hF⟩ := hF
  refine go_iald dX12_readings_17 sh_284 hi ?_
  exact go_iret (S := []) dX12_readings_18 rfl ⟨_, rfl, hF⟩
theorem vX12_reading (G : GP) (d : Nat) (a0 : Int32) (a1 : Int32) (m : Mem) (K : Int32 → Mem → Prop) (hF : Evi G (d + 6) mX12_layWays [.ref (ga G 273), .int a0] m (fun r2 m1 => ((a1 < (-1)) → K (-2) m1) ∧ ((¬ a1 < (-1)) → vp_in (((275 : Int32) * 0 + (25 : Int32) * 10) + 0) 6875 ∧ ((¬ (m1.1 284 (((275 : Int32) * 0 + (25 : Int32) * 10) + 0).toNatClampNeg) = 0) → Gw G (d + 7) mX12_reading 39 [.ref (ga G 273), .int a0, .int a1, .int r2, .int 0, .int 10, .int 0, uu] [] m1 (Qi K)) ∧ (((m1.1 284 (((275 : Int32) * 0 + (25 : Int32) * 10) + 0).toNatClampNeg) = 0) → K (-2) m1)))) : Evi G (d + 7) mX12_reading [.ref (ga G 273), .int a0, .int a1] m K := by
  refine Ev.go [.ref (ga G 273), .int a0, .int a1, uu, uu, uu, uu, uu] (by decide) (Nat.le_of_ble_eq_true rfl) rfl ?_
  refine go_aload_n dX12_reading_0 rfl ?_
  refine go_iload_n dX12_reading_1 rfl ?_
  refine go_callV mX12_layWays dX12_reading_2 lm_X12_416 okX12_layWays isX12_layWays sh_273 rfl (As := [.int a0]) (S := []) rfl rfl (Nat.le_of_ble_eq_true rfl) hF (k_i (fun r2 m1 hF => ?_))
  refine go_istore_n (L' := [.ref (ga G 273), .int a0, .int a1, .int r2, uu, uu, uu, uu]) dX12_reading_5 (Nat.le_of_ble_eq_true rfl) rfl ?_
  refine go_iload_n dX12_reading_6 rfl ?_
  refine go_iconst (v := -1) dX12_reading_7 (by decide) ?_
  refine go_icmp_lt 26 dX12_reading_8 rfl ⟨fun hc => ?_, fun hc => ?_⟩
  · have hF := hF.1 hc
    refine go_bipush (v := -2) dX12_reading_26 (by decide) ?_
    exact go_iret (S := []) dX12_reading_28 rfl ⟨_, rfl, hF⟩
  · have hF := hF.2 hc
    refine go_aload_n dX12_reading_11 rfl ?_
    refine go_getR (k := 25) (r := 284) dX12_reading_12 sh_273 rfl inX12 (Nat.le_of_ble_eq_true rfl) lf_X12_49 rfl rfl ?_
    refine go_iconst (v := 0) dX12_reading_15 (by decide) ?_
    refine go_bipush (v := 10) dX12_reading_16 (by decide) ?_
    refine go_iconst (v := 0) dX12_reading_18 (by decide) ?_
    refine go_callS mX12_wayAt dX12_reading_19 lm_X12_404 okX12_wayAt isX12_wayAt (As := [.int 0, .int 10, .int 0]) (S := [.ref (ga G 284)]) rfl rfl (Nat.le_of_ble_eq_true rfl) (eX12_wayAt G _ 0 10 0 m1 (fun r m' => r = ((275 : Int32) * 0 + (25 : Int32) * 10) + 0 ∧ m1 = m') ⟨rfl, rfl⟩) (k_i (fun r m' hr => ?_))
    obtain ⟨hr1, hr2⟩ := hr
    subst hr1
    subst hr2
    obtain ⟨hi, hF⟩ := hF
    refine go_iald dX12_reading_22 sh_284 hi ?_
    refine go_if_ne 29 dX12_reading_23 rfl ⟨fun hc => ?_, fun hc => ?_⟩
    · have hF := hF.1 hc
      refine go_iconst (v := 0) dX12_reading_29 (by decide) ?_
      refine go_istore (L' := [.ref (ga G 273), .int a0, .int a1, .int r2, .int 0, uu, uu, uu]) dX12_reading_30 (Nat.le_of_ble_eq_true rfl) rfl ?_
      refine go_bipush (v := 10) dX12_reading_32 (by decide) ?_
      refine go_istore (L' := [.ref (ga G 273), .int a0, .int a1, .int r2, .int 0, .int 10, uu, uu]) dX12_reading_34 (Nat.le_of_ble_eq_true rfl) rfl ?_
      refine go_iconst (v := 0) dX12_reading_36 (by decide) ?_
      refine go_istore (L' := [.ref (ga G 273), .int a0, .int a1, .int r2, .int 0, .int 10, .int 0, uu]) dX12_reading_37 (Nat.le_of_ble_eq_true rfl) rfl ?_
      exact hF
    · have hF := hF.2 hc
      refine go_bipush (v := -2) dX12_reading_26 (by decide) ?_
      exact go_iret (S := []) dX12_reading_28 rfl ⟨_, rfl, hF⟩
theorem vX12_reading_39 (G : GP) (d : Nat) (u1 : Value) (l2 : Int32) (l3 : Int32) (l4 : Int32) (l5 : Int32) (l6 : Int32) (u7 : Value) (m : Mem) (K : Int32 → Mem → Prop) (hF : ((l3 ≤ l4) → ((¬ l2 = (-1)) → K (-2) m) ∧ ((l2 = (-1)) → K l6 m)) ∧ ((¬ l3 ≤ l4) → Gw G (d + 7) mX12_reading 48 [.ref (ga G 273), uu, .int l2, .int l3, .int l4, .int l5, .int l6, .int 0] [] m (Qi K))) : Gw G (d + 7) mX12_reading 39 [.ref (ga G 273), u1, .int l2, .int l3, .int l4, .int l5, .int l6, u7] [] m (Qi K) := by
  refine Gw.weak (L' := [.ref (ga G 273), uu, .int l2, .int l3, .int l4, .int l5, .int l6, uu]) ⟨Or.inl rfl, Or.inr rfl, Or.inl rfl, Or.inl rfl, Or.inl rfl, Or.inl rfl, Or.inl rfl, Or.inr rfl, trivial⟩ ?_
  refine go_iload dX12_reading_39 rfl ?_
  refine go_iload_n dX12_reading_41 rfl ?_
  refine go_icmp_ge 137 dX12_reading_42 rfl ⟨fun hc => ?_, fun hc => ?_⟩
  · have hF := hF.1 hc
    refine go_iload_n dX12_reading_137 rfl ?_
    refine go_iconst (v := -1) dX12_reading_138 (by decide) ?_
    refine go_icmp_ne 147 dX12_reading_139 rfl ⟨fun hc => ?_, fun hc => ?_⟩
    · have hF := hF.1 hc
      refine go_bipush (v := -2) dX12_reading_147 (by decide) ?_
      exact go_iret (S := []) dX12_reading_149 rfl ⟨_, rfl, hF⟩
    · have hF := hF.2 hc
      refine go_iload dX12_reading_142 rfl ?_
      refine go_goto 149 dX12_reading_144 rfl ?_
      exact go_iret (S := []) dX12_reading_149 rfl ⟨_, rfl, hF⟩
  · have hF := hF.2 hc
    refine go_iconst (v := 0) dX12_reading_45 (by decide) ?_
    refine go_istore (L' := [.ref (ga G 273), uu, .int l2, .int l3, .int l4, .int l5, .int l6, .int 0]) dX12_reading_46 (Nat.le_of_ble_eq_true rfl) rfl ?_
    exact hF
theorem vX12_reading_48 (G : GP) (d : Nat) (u1 : Value) (l2 : Int32) (l3 : Int32) (l4 : Int32) (l5 : Int32) (l6 : Int32) (l7 : Int32) (m : Mem) (K : Int32 → Mem → Prop) (hF : Evi G (d + 6) mX12_isHere [.ref (ga G 273), .int l7, .int l4, .int l3] m (fun r4 m3 => ((r4 = 0) → ∀ x5 : Int32, x5 = l7 + 1 → Gw G (d + 7) mX12_reading 48 [.ref (ga G 273), uu, .int l2, .int l3, .int l4, .int l5, .int l6, .int x5] [] m3 (Qi K)) ∧ ((¬ r4 = 0) → Evi G (d + 6) mX12_isSense [.ref (ga G 273), .int l5, .int l7, .int l6] m3 (fun r7 m6 => ((r7 = 0) → ∀ x8 : Int32, x8 = l7 + 1 → Gw G (d + 7) mX12_reading 48 [.ref (ga G 273), uu, .int l2, .int l3, .int l4, .int l5, .int l6, .int x8] [] m6 (Qi K)) ∧ ((¬ r7 = 0) → vp_in (((34 : Int32) + (9 : Int32) * l7) + 2) 5968 ∧ vp_in (((275 : Int32) * (l4 + (m6.1 274 (((34 : Int32) + (9 : Int32) * l7) + 2).toNatClampNeg)) + (25 : Int32) * l7) + (l6 + 1)) 6875 ∧ ((¬ (m6.1 284 (((275 : Int32) * (l4 + (m6.1 274 (((34 : Int32) + (9 : Int32) * l7) + 2).toNatClampNeg)) + (25 : Int32) * l7) + (l6 + 1)).toNatClampNeg) = 0) → ((¬ l6 = l2) → vp_in (((34 : Int32) + (9 : Int32) * l7) + 2) 5968 ∧ ∀ x9 : Int32, x9 = l4 + (m6.1 274 (((34 : Int32) + (9 : Int32) * l7) + 2).toNatClampNeg) → ∀ x10 : Int32, x10 = l6 + 1 → Gw G (d + 7) mX12_reading 39 [.ref (ga G 273), uu, .int l2, .int l3, .int x9, .int l7, .int x10, .int l7] [] m6 (Qi K)) ∧ ((l6 = l2) → K l7 m6)) ∧ (((m6.1 284 (((275 : Int32) * (l4 + (m6.1 274 (((34 : Int32) + (9 : Int32) * l7) + 2).toNatClampNeg)) + (25 : Int32) * l7) + (l6 + 1)).toNatClampNeg) = 0) → ∀ x11 : Int32, x11 = l7 + 1 → Gw G (d + 7) mX12_reading 48 [.ref (ga G 273), uu, .int l2, .int l3, .int l4, .int l5, .int l6, .int x11] [] m6 (Qi K))))))) : Gw G (d + 7) mX12_reading 48 [.ref (ga G 273), u1, .int l2, .int l3, .int l4, .int l5, .int l6, .int l7] [] m (Qi K) := by
  refine Gw.weak (L' := [.ref (ga G 273), uu, .int l2, .int l3, .int l4, .int l5, .int l6, .int l7]) ⟨Or.inl rfl, Or.inr rfl, Or.inl rfl, Or.inl rfl, Or.inl rfl, Or.inl rfl, Or.inl rfl, Or.inl rfl, trivial⟩ ?_
  refine go_aload_n dX12_reading_48 rfl ?_
  refine go_iload dX12_reading_49 rfl ?_
  refine go_iload dX12_reading_51 rfl ?_
  refine go_iload_n dX12_reading_53 rfl ?_
  refine go_callV mX12_isHere dX12_reading_54 lm_X12_398 okX12_isHere isX12_isHere sh_273 rfl (As := [.int l7, .int l4, .int l3]) (S := []) rfl rfl (Nat.le_of_ble_eq_true rfl) hF (k_i (fun r4 m3 hF => ?_))
  refine go_if_eq 100 dX12_reading_57 rfl ⟨fun hc => ?_, fun hc => ?_⟩
  · have hF := hF.1 hc
    obtain ⟨x5, ex5⟩ : ∃ z : Int32, z = l7 + 1 := ⟨_, rfl⟩
    have hF := hF x5 ex5
    refine go_iinc (v := x5) (L' := [.ref (ga G 273), uu, .int l2, .int l3, .int l4, .int l5, .int l6, .int x5]) dX12_reading_100 rfl (by rw [ex5]; rfl) (Nat.le_of_ble_eq_true rfl) rfl ?_
    refine go_goto 48 dX12_reading_103 rfl ?_
    exact hF
  · have hF := hF.2 hc
    refine go_aload_n dX12_reading_60 rfl ?_
    refine go_iload dX12_reading_61 rfl ?_
    refine go_iload dX12_reading_63 rfl ?_
    refine go_iload dX12_reading_65 rfl ?_
    refine go_callV mX12_isSense dX12_reading_67 lm_X12_401 okX12_isSense isX12_isSense sh_273 rfl (As := [.int l5, .int l7, .int l6]) (S := []) rfl rfl (Nat.le_of_ble_eq_true rfl) hF (k_i (fun r7 m6 hF => ?_))
    refine go_if_eq 100 dX12_reading_70 rfl ⟨fun hc => ?_, fun hc => ?_⟩
    · have hF := hF.1 hc
      obtain ⟨x8, ex8⟩ : ∃ z : Int32, z = l7 + 1 := ⟨_, rfl⟩
      have hF := hF x8 ex8
      refine go_iinc (v := x8) (L' := [.ref (ga G 273), uu, .int l2, .int l3, .int l4, .int l5, .int l6, .int x8]) dX12_reading_100 rfl (by rw [ex8]; rfl) (Nat.le_of_ble_eq_true rfl) rfl ?_
      refine go_goto 48 dX12_reading_103 rfl ?_
      exact hF
    · have hF := hF.2 hc
      refine go_aload_n dX12_reading_73 rfl ?_
      refine go_getR (k := 25) (r := 284) dX12_reading_74 sh_273 rfl inX12 (Nat.le_of_ble_eq_true rfl) lf_X12_49 rfl rfl ?_
      refine go_iload dX12_reading_77 rfl ?_
      refine go_aload_n dX12_reading_79 rfl ?_
      refine go_iload dX12_reading_80 rfl ?_
      refine go_iconst (v := 2) dX12_reading_82 (by decide) ?_
      obtain ⟨ho, hF⟩ := hF
      refine go_callV mX12_of dX12_reading_83 lm_X12_84 okX12_of isX12_of sh_273 rfl (As := [.int l7, .int 2]) (S := [.int l4, .ref (ga G 284)]) rfl rfl (Nat.le_of_ble_eq_true rfl) (eX12_of G _ l7 2 m6 (fun r m' => r = m6.1 274 (((34 : Int32) + (9 : Int32) * l7) + 2).toNatClampNeg ∧ m6 = m') ho ⟨rfl, rfl⟩) (k_i (fun r m' hr => ?_))
      obtain ⟨hr1, hr2⟩ := hr
      subst hr1
      subst hr2
      refine go_iadd dX12_reading_86 ?_
      refine go_iload dX12_reading_87 rfl ?_
      refine go_iload dX12_reading_89 rfl ?_
      refine go_iconst (v := 1) dX12_reading_91 (by decide) ?_
      refine go_iadd dX12_reading_92 ?_
      refine go_callS mX12_wayAt dX12_reading_93 lm_X12_404 okX12_wayAt isX12_wayAt (As := [.int (l4 + (m6.1 274 (((34 : Int32) + (9 : Int32) * l7) + 2).toNatClampNeg)), .int l7, .int (l6 + 1)]) (S := [.ref (ga G 284)]) rfl rfl (Nat.le_of_ble_eq_true rfl) (eX12_wayAt G _ (l4 + (m6.1 274 (((34 : Int32) + (9 : Int32) * l7) + 2).toNatClampNeg)) l7 (l6 + 1) m6 (fun r m' => r = ((275 : Int32) * (l4 + (m6.1 274 (((34 : Int32) + (9 : Int32) * l7) + 2).toNatClampNeg)) + (25 : Int32) * l7) + (l6 + 1) ∧ m6 = m') ⟨rfl, rfl⟩) (k_i (fun r m' hr => ?_))
      obtain ⟨hr1, hr2⟩ := hr
      subst hr1
      subst hr2
      obtain ⟨hi, hF⟩ := hF
      refine go_iald dX12_reading_96 sh_284 hi ?_
      refine go_if_ne 106 dX12_reading_97 rfl ⟨fun hc => ?_, fun hc => ?_⟩
      · have hF := hF.1 hc
        refine go_iload dX12_reading_106 rfl ?_
        refine go_iload_n dX12_reading_108 rfl ?_
        refine go_icmp_ne 115 dX12_reading_109 rfl ⟨fun hc => ?_, fun hc => ?_⟩
        · have hF := hF.1 hc
          refine go_iload dX12_reading_115 rfl ?_
          refine go_aload_n dX12_reading_117 rfl ?_
          refine go_iload dX12_reading_118 rfl ?_
          refine go_iconst (v := 2) dX12_reading_120 (by decide) ?_
          obtain ⟨ho, hF⟩ := hF
          refine go_callV mX12_of dX12_reading_121 lm_X12_84 okX12_of isX12_of sh_273 rfl (As := [.int l7, .int 2]) (S := [.int l4]) rfl rfl (Nat.le_of_ble_eq_true rfl) (eX12_of G _ l7 2 m6 (fun r m' => r = m6.1 274 (((34 : Int32) + (9 : Int32) * l7) + 2).toNatClampNeg ∧ m6 = m') ho ⟨rfl, rfl⟩) (k_i (fun r m' hr => ?_))
          obtain ⟨hr1, hr2⟩ := hr
          subst hr1
          subst hr2
          refine go_iadd dX12_reading_124 ?_
          refine Gw.namei (fun x9 ex9 => ?_)
          have hF := hF x9 ex9
          refine go_istore (L' := [.ref (ga G 273), uu, .int l2, .int l3, .int x9, .int l5, .int l6, .int l7]) dX12_reading_125 (Nat.le_of_ble_eq_true rfl) rfl ?_
          refine go_iload dX12_reading_127 rfl ?_
          refine go_istore (L' := [.ref (ga G 273), uu, .int l2, .int l3, .int x9, .int l7, .int l6, .int l7]) dX12_reading_129 (Nat.le_of_ble_eq_true rfl) rfl ?_
          obtain ⟨x10, ex10⟩ : ∃ z : Int32, z = l6 + 1 := ⟨_, rfl⟩
          have hF := hF x10 ex10
          refine go_iinc (v := x10) (L' := [.ref (ga G 273), uu, .int l2, .int l3, .int x9, .int l7, .int x10, .int l7]) dX12_reading_131 rfl (by rw [ex10]; rfl) (Nat.le_of_ble_eq_true rfl) rfl ?_
          refine go_goto 39 dX12_reading_134 rfl ?_
          exact hF
        · have hF := hF.2 hc
          refine go_iload dX12_reading_112 rfl ?_
          exact go_iret (S := []) dX12_reading_114 rfl ⟨_, rfl, hF⟩
      · have hF := hF.2 hc
        obtain ⟨x11, ex11⟩ : ∃ z : Int32, z = l7 + 1 := ⟨_, rfl⟩
        have hF := hF x11 ex11
        refine go_iinc (v := x11) (L' := [.ref (ga G 273), uu, .int l2, .int l3, .int l4, .int l5, .int l6, .int x11]) dX12_reading_100 rfl (by rw [ex11]; rfl) (Nat.le_of_ble_eq_true rfl) rfl ?_
        refine go_goto 48 dX12_reading_103 rfl ?_
        exact hF
theorem vX12_weight (G : GP) (d : Nat) (a0 : Int32) (a1 : Int32) (m : Mem) (K : Int32 → Mem → Prop) (hF : ((0 ≤ a0 ∧ a0 ≤ m.1 274 1 - 1) → ((0 ≤ a1 ∧ a1 ≤ 99) → vp_in (((34 : Int32) + ((9 : Int32) * a0)) + 7) 5968 ∧ ∀ m1 : Mem, m1 = wI m 274 (((34 : Int32) + ((9 : Int32) * a0)) + 7).toNatClampNeg a1 → K 1 m1) ∧ (¬ (0 ≤ a1 ∧ a1 ≤ 99) → K 0 m)) ∧ (¬ (0 ≤ a0 ∧ a0 ≤ m.1 274 1 - 1) → K 0 m)) : Evi G (d + 2) mX12_weight [.ref (ga G 273), .int a0, .int a1] m K := by
  refine Ev.go [.ref (ga G 273), .int a0, .int a1] (by decide) (Nat.le_of_ble_eq_true rfl) rfl ?_
  refine go_aload_n dX12_weight_0 rfl ?_
  refine go_iload_n dX12_weight_1 rfl ?_
  rcases Classical.em (0 ≤ a0 ∧ a0 ≤ m.1 274 1 - 1) with hp | hp
  · have hF := hF.1 hp
    refine go_callV mX12_isWord0 dX12_weight_2 lm_X12_326 okX12_isWord0 isX12_isWord0 sh_273 rfl (As := [.int a0]) (S := []) rfl rfl (Nat.le_of_ble_eq_true rfl) (eX12_isWord0 G _ a0 m (fun r m' => r = 1 ∧ m = m') ⟨fun _ => ⟨rfl, rfl⟩, fun q => absurd hp q⟩) (k_i (fun r m' hr => ?_))
    obtain ⟨hr1, hr2⟩ := hr
    subst hr1
    subst hr2
    refine go_if_eq 18 dX12_weight_5 rfl ⟨fun hc => absurd hc (by decide), fun _ => ?_⟩
    refine go_iload_n dX12_weight_8 rfl ?_
    refine go_iconst (v := 0) dX12_weight_9 (by decide) ?_
    refine go_bipush (v := 99) dX12_weight_10 (by decide) ?_
    rcases Classical.em (0 ≤ a1 ∧ a1 ≤ 99) with hp | hp
    · have hF := hF.1 hp
      refine go_callS mX12_isIn dX12_weight_12 lm_X12_80 okX12_isIn isX12_isIn (As := [.int a1, .int 0, .int 99]) (S := []) rfl rfl (Nat.le_of_ble_eq_true rfl) (eX12_isIn G _ a1 0 99 m (fun r m' => r = 1 ∧ m = m') ⟨fun _ => ⟨rfl, rfl⟩, fun q => absurd hp q⟩) (k_i (fun r m' hr => ?_))
      obtain ⟨hr1, hr2⟩ := hr
      subst hr1
      subst hr2
      refine go_if_ne 20 dX12_weight_15 rfl ⟨fun _ => ?_, fun hc => absurd hc (by decide)⟩
      refine go_aload_n dX12_weight_20 rfl ?_
      refine go_getR (k := 0) (r := 274) dX12_weight_21 sh_273 rfl inX12 (Nat.le_of_ble_eq_true rfl) lf_X12_7 rfl rfl ?_
      refine go_bipush (v := 34) dX12_weight_24 (by decide) ?_
      refine go_bipush (v := 9) dX12_weight_26 (by decide) ?_
      refine go_iload_n dX12_weight_28 rfl ?_
      refine go_imul dX12_weight_29 ?_
      refine go_iadd dX12_weight_30 ?_
      refine go_bipush (v := 7) dX12_weight_31 (by decide) ?_
      refine go_iadd dX12_weight_33 ?_
      refine go_iload_n dX12_weight_34 rfl ?_
      obtain ⟨hi, hF⟩ := hF
      refine go_iast dX12_weight_35 sh_274 hi ?_
      obtain ⟨m1, em1⟩ : ∃ z : Mem, z = wI m 274 (((34 : Int32) + ((9 : Int32) * a0)) + 7).toNatClampNeg a1 := ⟨_, rfl⟩
      rw [← em1]
      have hF := hF m1 em1
      refine go_iconst (v := 1) dX12_weight_36 (by decide) ?_
      exact go_zret (S := []) dX12_weight_37 rfl (by decide) ⟨_, rfl, hF⟩
    · have hF := hF.2 hp
      refine go_callS mX12_isIn dX12_weight_12 lm_X12_80 okX12_isIn isX12_isIn (As := [.int a1, .int 0, .int 99]) (S := []) rfl rfl (Nat.le_of_ble_eq_true rfl) (eX12_isIn G _ a1 0 99 m (fun r m' => r = 0 ∧ m = m') ⟨fun q => absurd q hp, fun _ => ⟨rfl, rfl⟩⟩) (k_i (fun r m' hr => ?_))
      obtain ⟨hr1, hr2⟩ := hr
      subst hr1
      subst hr2
      refine go_if_ne 20 dX12_weight_15 rfl ⟨fun hc => absurd hc (by decide), fun _ => ?_⟩
      refine go_iconst (v := 0) dX12_weight_18 (by decide) ?_
      exact go_zret (S := []) dX12_weight_19 rfl (by decide) ⟨_, rfl, hF⟩
  · have hF := hF.2 hp
    refine go_callV mX12_isWord0 dX12_weight_2 lm_X12_326 okX12_isWord0 isX12_isWord0 sh_273 rfl (As := [.int a0]) (S := []) rfl rfl (Nat.le_of_ble_eq_true rfl) (eX12_isWord0 G _ a0 m (fun r m' => r = 0 ∧ m = m') ⟨fun q => absurd q hp, fun _ => ⟨rfl, rfl⟩⟩) (k_i (fun r m' hr => ?_))
    obtain ⟨hr1, hr2⟩ := hr
    subst hr1
    subst hr2
    refine go_if_eq 18 dX12_weight_5 rfl ⟨fun _ => ?_, fun hc => absurd hc (by decide)⟩
    refine go_iconst (v := 0) dX12_weight_18 (by decide) ?_
    exact go_zret (S := []) dX12_weight_19 rfl (by decide) ⟨_, rfl, hF⟩
theorem vX12_isLeft (G : GP) (d : Nat) (a0 : Int32) (a1 : Int32) (a2 : Int32) (m : Mem) (K : Int32 → Mem → Prop) (hF : Gw G (d + 2) mX12_isLeft 6 [.ref (ga G 273), .int a0, .int a1, .int a2, .int 0, .int 0] [] m (Qi K)) : Evi G (d + 2) mX12_isLeft [.ref (ga G 273), .int a0, .int a1, .int a2] m K := by
  refine Ev.go [.ref (ga G 273), .int a0, .int a1, .int a2, uu, uu] (by decide) (Nat.le_of_ble_eq_true rfl) rfl ?_
  refine go_iconst (v := 0) dX12_isLeft_0 (by decide) ?_
  refine go_istore (L' := [.ref (ga G 273), .int a0, .int a1, .int a2, .int 0, uu]) dX12_isLeft_1 (Nat.le_of_ble_eq_true rfl) rfl ?_
  refine go_iconst (v := 0) dX12_isLeft_3 (by decide) ?_
  refine go_istore (L' := [.ref (ga G 273), .int a0, .int a1, .int a2, .int 0, .int 0]) dX12_isLeft_4 (Nat.le_of_ble_eq_true rfl) rfl ?_
  exact hF
theorem vX12_isLeft_6 (G : GP) (d : Nat) (l1 : Int32) (l2 : Int32) (l3 : Int32) (l4 : Int32) (l5 : Int32) (m : Mem) (K : Int32 → Mem → Prop) (hF : vp_in (((34 : Int32) + (9 : Int32) * l1) + 2) 5968 ∧ (((m.1 274 (((34 : Int32) + (9 : Int32) * l1) + 2).toNatClampNeg) ≤ l5) → ((¬ l4 = l3) → K 0 m) ∧ ((l4 = l3) → K 1 m)) ∧ ((¬ (m.1 274 (((34 : Int32) + (9 : Int32) * l1) + 2).toNatClampNeg) ≤ l5) → (((l2 >>> (l5 &&& 31)) &&& 1 = 1) → ((l4 = l3) → K 0 m) ∧ ((¬ l4 = l3) → vp_in l4 24 ∧ vp_in (((34 : Int32) + (9 : Int32) * l1) + ((3 : Int32) + l5)) 5968 ∧ (((m.1 283 l4.toNatClampNeg) = (m.1 274 (((34 : Int32) + (9 : Int32) * l1) + ((3 : Int32) + l5)).toNatClampNeg)) → ∀ x1 : Int32, x1 = l4 + 1 → ∀ x2 : Int32, x2 = l5 + 1 → Gw G (d + 2) mX12_isLeft 6 [.ref (ga G 273), .int l1, .int l2, .int l3, .int x1, .int x2] [] m (Qi K)) ∧ ((¬ (m.1 283 l4.toNatClampNeg) = (m.1 274 (((34 : Int32) + (9 : Int32) * l1) + ((3 : Int32) + l5)).toNatClampNeg)) → K 0 m))) ∧ (¬ ((l2 >>> (l5 &&& 31)) &&& 1 = 1) → ∀ x3 : Int32, x3 = l5 + 1 → Gw G (d + 2) mX12_isLeft 6 [.ref (ga G 273), .int l1, .int l2, .int l3, .int l4, .int x3] [] m (Qi K)))) : Gw G (d + 2) mX12_isLeft 6 [.ref (ga G 273), .int l1, .int l2, .int l3, .int l4, .int l5] [] m (Qi K) := by
  refine go_iload dX12_isLeft_6 rfl ?_
  refine go_aload_n dX12_isLeft_8 rfl ?_
  refine go_iload_n dX12_isLeft_9 rfl ?_
  refine go_iconst (v := 2) dX12_isLeft_10 (by decide) ?_
  obtain ⟨ho, hF⟩ := hF
  refine go_callV mX12_of dX12_isLeft_11 lm_X12_84 okX12_of isX12_of sh_273 rfl (As := [.int l1, .int 2]) (S := [.int l5]) rfl rfl (Nat.le_of_ble_eq_true rfl) (eX12_of G _ l1 2 m (fun r m' => r = m.1 274 (((34 : Int32) + (9 : Int32) * l1) + 2).toNatClampNeg ∧ m = m') ho ⟨rfl, rfl⟩) (k_i (fun r m' hr => ?_))
  obtain ⟨hr1, hr2⟩ := hr
  subst hr1
  subst hr2
  refine go_icmp_ge 63 dX12_isLeft_14 rfl ⟨fun hc => ?_, fun hc => ?_⟩
  · have hF := hF.1 hc
    refine go_iload dX12_isLeft_63 rfl ?_
    refine go_iload_n dX12_isLeft_65 rfl ?_
    refine go_icmp_ne 73 dX12_isLeft_66 rfl ⟨fun hc => ?_, fun hc => ?_⟩
    · have hF := hF.1 hc
      refine go_iconst (v := 0) dX12_isLeft_73 (by decide) ?_
      exact go_zret (S := []) dX12_isLeft_74 rfl (by decide) ⟨_, rfl, hF⟩
    · have hF := hF.2 hc
      refine go_iconst (v := 1) dX12_isLeft_69 (by decide) ?_
      refine go_goto 74 dX12_isLeft_70 rfl ?_
      exact go_zret (S := []) dX12_isLeft_74 rfl (by decide) ⟨_, rfl, hF⟩
  · have hF := hF.2 hc
    refine go_iload_n dX12_isLeft_17 rfl ?_
    refine go_iload dX12_isLeft_18 rfl ?_
    rcases Classical.em ((l2 >>> (l5 &&& 31)) &&& 1 = 1) with hp | hp
    · have hF := hF.1 hp
      refine go_callS mX12_has dX12_isLeft_20 lm_X12_261 okX12_has isX12_has (As := [.int l2, .int l5]) (S := []) rfl rfl (Nat.le_of_ble_eq_true rfl) (eX12_has G _ l2 l5 m (fun r m' => r = 1 ∧ m = m') ⟨fun _ => ⟨rfl, rfl⟩, fun q => absurd hp q⟩) (k_i (fun r m' hr => ?_))
      obtain ⟨hr1, hr2⟩ := hr
      subst hr1
      subst hr2
      refine go_if_ne 29 dX12_isLeft_23 rfl ⟨fun _ => ?_, fun hc => absurd hc (by decide)⟩
      refine go_iload dX12_isLeft_29 rfl ?_
      refine go_iload_n dX12_isLeft_31 rfl ?_
      refine go_icmp_eq 52 dX12_isLeft_32 rfl ⟨fun hc => ?_, fun hc => ?_⟩
      · have hF := hF.1 hc
        refine go_iconst (v := 0) dX12_isLeft_52 (by decide) ?_
        exact go_zret (S := []) dX12_isLeft_53 rfl (by decide) ⟨_, rfl, hF⟩
      · have hF := hF.2 hc
        refine go_aload_n dX12_isLeft_35 rfl ?_
        refine go_getR (k := 24) (r := 283) dX12_isLeft_36 sh_273 rfl inX12 (Nat.le_of_ble_eq_true rfl) lf_X12_46 rfl rfl ?_
        refine go_iload dX12_isLeft_39 rfl ?_
        obtain ⟨hi, hF⟩ := hF
        refine go_iald dX12_isLeft_41 sh_283 hi ?_
        refine go_aload_n dX12_isLeft_42 rfl ?_
        refine go_iload_n dX12_isLeft_43 rfl ?_
        refine go_iload dX12_isLeft_44 rfl ?_
        obtain ⟨ho, hF⟩ := hF
        refine go_callV mX12_strokeOf dX12_isLeft_46 lm_X12_320 okX12_strokeOf isX12_strokeOf sh_273 rfl (As := [.int l1, .int l5]) (S := [.int (m.1 283 l4.toNatClampNeg)]) rfl rfl (Nat.le_of_ble_eq_true rfl) (eX12_strokeOf G _ l1 l5 m (fun r m' => r = m.1 274 (((34 : Int32) + (9 : Int32) * l1) + ((3 : Int32) + l5)).toNatClampNeg ∧ m = m') ho ⟨rfl, rfl⟩) (k_i (fun r m' hr => ?_))
        obtain ⟨hr1, hr2⟩ := hr
        subst hr1
        subst hr2
        refine go_icmp_eq 54 dX12_isLeft_49 rfl ⟨fun hc => ?_, fun hc => ?_⟩
        · have hF := hF.1 hc
          obtain ⟨x1, ex1⟩ : ∃ z : Int32, z = l4 + 1 := ⟨_, rfl⟩
          have hF := hF x1 ex1
          refine go_iinc (v := x1) (L' := [.ref (ga G 273), .int l1, .int l2, .int l3, .int x1, .int l5]) dX12_isLeft_54 rfl (by rw [ex1]; rfl) (Nat.le_of_ble_eq_true rfl) rfl ?_
          obtain ⟨x2, ex2⟩ : ∃ z : Int32, z = l5 + 1 := ⟨_, rfl⟩
          have hF := hF x2 ex2
          refine go_iinc (v := x2) (L' := [.ref (ga G 273), .int l1, .int l2, .int l3, .int x1, .int x2]) dX12_isLeft_57 rfl (by rw [ex2]; rfl) (Nat.le_of_ble_eq_true rfl) rfl ?_
          refine go_goto 6 dX12_isLeft_60 rfl ?_
          exact hF
        · have hF := hF.2 hc
          refine go_iconst (v := 0) dX12_isLeft_52 (by decide) ?_
          exact go_zret (S := []) dX12_isLeft_53 rfl (by decide) ⟨_, rfl, hF⟩
    · have hF := hF.2 hp
      refine go_callS mX12_has dX12_isLeft_20 lm_X12_261 okX12_has isX12_has (As := [.int l2, .int l5]) (S := []) rfl rfl (Nat.le_of_ble_eq_true rfl) (eX12_has G _ l2 l5 m (fun r m' => r = 0 ∧ m = m') ⟨fun q => absurd q hp, fun _ => ⟨rfl, rfl⟩⟩) (k_i (fun r m' hr => ?_))
      obtain ⟨hr1, hr2⟩ := hr
      subst hr1
      subst hr2
      refine go_if_ne 29 dX12_isLeft_23 rfl ⟨fun hc => absurd hc (by decide), fun _ => ?_⟩
      refine go_goto 57 dX12_isLeft_26 rfl ?_
      obtain ⟨x3, ex3⟩ : ∃ z : Int32, z = l5 + 1 := ⟨_, rfl⟩
      have hF := hF x3 ex3
      refine go_iinc (v := x3) (L' := [.ref (ga G 273), .int l1, .int l2, .int l3, .int l4, .int x3]) dX12_isLeft_57 rfl (by rw [ex3]; rfl) (Nat.le_of_ble_eq_true rfl) rfl ?_
      refine go_goto 6 dX12_isLeft_60 rfl ?_
      exact hF
theorem vX12_likely (G : GP) (d : Nat) (a0 : Int32) (a1 : Int32) (a2 : Int32) (m : Mem) (K : Int64 → Mem → Prop) (hF : Gw G (d + 3) mX12_likely 6 [.ref (ga G 273), .int a0, .int a1, .int a2, .long 0, uu, .int 0, uu, uu, uu] [] m (Ql K)) : Evl G (d + 3) mX12_likely [.ref (ga G 273), .int a0, .int a1, .int a2] m K := by
  refine Ev.go [.ref (ga G 273), .int a0, .int a1, .int a2, uu, uu, uu, uu, uu, uu] (by decide) (Nat.le_of_ble_eq_true rfl) rfl ?_
  refine go_lconst (v := 0) dX12_likely_0 (by decide) ?_
  refine go_lstore (L' := [.ref (ga G 273), .int a0, .int a1, .int a2, .long 0, uu, uu, uu, uu, uu]) dX12_likely_1 (Nat.le_of_ble_eq_true rfl) rfl ?_
  refine go_iconst (v := 0) dX12_likely_3 (by decide) ?_
  refine go_istore (L' := [.ref (ga G 273), .int a0, .int a1, .int a2, .long 0, uu, .int 0, uu, uu, uu]) dX12_likely_4 (Nat.le_of_ble_eq_true rfl) rfl ?_
  exact hF
theorem vX12_likely_6 (G : GP) (d : Nat) (l1 : Int32) (l2 : Int32) (l3 : Int32) (l4 : Int64) (u5 : Value) (l6 : Int32) (u7 : Value) (u8 : Value) (u9 : Value) (m : Mem) (K : Int64 → Mem → Prop) (hF : vp_in (((34 : Int32) + (9 : Int32) * l1) + 2) 5968 ∧ ((((1 : Int32) <<< ((m.1 274 (((34 : Int32) + (9 : Int32) * l1) + 2).toNatClampNeg) &&& 31)) ≤ l6) → K l4 m) ∧ ((¬ ((1 : Int32) <<< ((m.1 274 (((34 : Int32) + (9 : Int32) * l1) + 2).toNatClampNeg) &&& 31)) ≤ l6) → Evi G (d + 2) mX12_isLeft [.ref (ga G 273), .int l1, .int l6, .int l3] m (fun r2 m1 => ((¬ r2 = 0) → vp_in (((34 : Int32) + (9 : Int32) * l1) + 7) 5968 ∧ ∀ x3 : Int64, x3 = (m1.1 274 (((34 : Int32) + (9 : Int32) * l1) + 7).toNatClampNeg).toInt64 → Gw G (d + 3) mX12_likely 46 [.ref (ga G 273), .int l1, .int l2, .int l3, .long l4, uu, .int l6, .long x3, uu, .int 0] [] m1 (Ql K)) ∧ ((r2 = 0) → ∀ x4 : Int32, x4 = l6 + 1 → Gw G (d + 3) mX12_likely 6 [.ref (ga G 273), .int l1, .int l2, .int l3, .long l4, uu, .int x4, uu, uu, uu] [] m1 (Ql K))))) : Gw G (d + 3) mX12_likely 6 [.ref (ga G 273), .int l1, .int l2, .int l3, .long l4, u5, .int l6, u7, u8, u9] [] m (Ql K) := by
  refine Gw.weak (L' := [.ref (ga G 273), .int l1, .int l2, .int l3, .long l4, uu, .int l6, uu, uu, uu]) ⟨Or.inl rfl, Or.inl rfl, Or.inl rfl, Or.inl rfl, Or.inl rfl, Or.inr rfl, Or.inl rfl, Or.inr rfl, Or.inr rfl, Or.inr rfl, trivial⟩ ?_
  refine go_iload dX12_likely_6 rfl ?_
  refine go_iconst (v := 1) dX12_likely_8 (by decide) ?_
  refine go_aload_n dX12_likely_9 rfl ?_
  refine go_iload_n dX12_likely_10 rfl ?_
  refine go_iconst (v := 2) dX12_likely_11 (by decide) ?_
  obtain ⟨ho, hF⟩ := hF
  refine go_callV mX12_of dX12_likely_12 lm_X12_84 okX12_of isX12_of sh_273 rfl (As := [.int l1, .int 2]) (S := [.int 1, .int l6]) rfl rfl (Nat.le_of_ble_eq_true rfl) (eX12_of G _ l1 2 m (fun r m' => r = m.1 274 (((34 : Int32) + (9 : Int32) * l1) + 2).toNatClampNeg ∧ m = m') ho ⟨rfl, rfl⟩) (k_i (fun r m' hr => ?_))
  obtain ⟨hr1, hr2⟩ := hr
  subst hr1
  subst hr2
  refine go_ishl dX12_likely_15 ?_
  refine go_icmp_ge 113 dX12_likely_16 rfl ⟨fun hc => ?_, fun hc => ?_⟩
  · have hF := hF.1 hc
    refine go_lload dX12_likely_113 rfl ?_
    exact go_lret (S := []) dX12_likely_115 rfl ⟨_, rfl, hF⟩
  · have hF := hF.2 hc
    refine go_aload_n dX12_likely_19 rfl ?_
    refine go_iload_n dX12_likely_20 rfl ?_
    refine go_iload dX12_likely_21 rfl ?_
    refine go_iload_n dX12_likely_23 rfl ?_
    refine go_callV mX12_isLeft dX12_likely_24 lm_X12_419 okX12_isLeft isX12_isLeft sh_273 rfl (As := [.int l1, .int l6, .int l3]) (S := []) rfl rfl (Nat.le_of_ble_eq_true rfl) hF (k_i (fun r2 m1 hF => ?_))
    refine go_if_ne 33 dX12_likely_27 rfl ⟨fun hc => ?_, fun hc => ?_⟩
    · have hF := hF.1 hc
      refine go_aload_n dX12_likely_33 rfl ?_
      refine go_iload_n dX12_likely_34 rfl ?_
      refine go_bipush (v := 7) dX12_likely_35 (by decide) ?_
      obtain ⟨ho, hF⟩ := hF
      refine go_callV mX12_of dX12_likely_37 lm_X12_84 okX12_of isX12_of sh_273 rfl (As := [.int l1, .int 7]) (S := []) rfl rfl (Nat.le_of_ble_eq_true rfl) (eX12_of G _ l1 7 m1 (fun r m' => r = m1.1 274 (((34 : Int32) + (9 : Int32) * l1) + 7).toNatClampNeg ∧ m1 = m') ho ⟨rfl, rfl⟩) (k_i (fun r m' hr => ?_))
      obtain ⟨hr1, hr2⟩ := hr
      subst hr1
      subst hr2
      refine go_i2l dX12_likely_40 ?_
      refine Gw.namel (fun x3 ex3 => ?_)
      have hF := hF x3 ex3
      refine go_lstore (L' := [.ref (ga G 273), .int l1, .int l2, .int l3, .long l4, uu, .int l6, .long x3, uu, uu]) dX12_likely_41 (Nat.le_of_ble_eq_true rfl) rfl ?_
      refine go_iconst (v := 0) dX12_likely_43 (by decide) ?_
      refine go_istore (L' := [.ref (ga G 273), .int l1, .int l2, .int l3, .long l4, uu, .int l6, .long x3, uu, .int 0]) dX12_likely_44 (Nat.le_of_ble_eq_true rfl) rfl ?_
      exact hF
    · have hF := hF.2 hc
      refine go_goto 107 dX12_likely_30 rfl ?_
      obtain ⟨x4, ex4⟩ : ∃ z : Int32, z = l6 + 1 := ⟨_, rfl⟩
      have hF := hF x4 ex4
      refine go_iinc (v := x4) (L' := [.ref (ga G 273), .int l1, .int l2, .int l3, .long l4, uu, .int x4, uu, uu, uu]) dX12_likely_107 rfl (by rw [ex4]; rfl) (Nat.le_of_ble_eq_true rfl) rfl ?_
      refine go_goto 6 dX12_likely_110 rfl ?_
      exact hF
theorem vX12_likely_46 (G : GP) (d : Nat) (l1 : Int32) (l2 : Int32) (l3 : Int32) (l4 : Int64) (u5 : Value) (l6 : Int32) (l7 : Int64) (u8 : Value) (l9 : Int32) (m : Mem) (K : Int64 → Mem → Prop) (hF : ((4 ≤ l9) → ∀ x5 : Int64, x5 = l4 + l7 → ∀ x6 : Int32, x6 = l6 + 1 → Gw G (d + 3) mX12_likely 6 [.ref (ga G 273), .int l1, .int l2, .int l3, .long x5, uu, .int x6, .long l7, uu, .int l9] [] m (Ql K)) ∧ ((¬ 4 ≤ l9) → vp_in (((34 : Int32) + (9 : Int32) * l1) + 2) 5968 ∧ ((l9 < (m.1 274 (((34 : Int32) + (9 : Int32) * l1) + 2).toNatClampNeg)) → (((l6 >>> (l9 &&& 31)) &&& 1 = 1) → ∀ x7 : Int64, x7 = l7 * (((10 : Int32) - l2).toInt64) → ∀ x8 : Int32, x8 = l9 + 1 → Gw G (d + 3) mX12_likely 46 [.ref (ga G 273), .int l1, .int l2, .int l3, .long l4, uu, .int l6, .long x7, uu, .int x8] [] m (Ql K)) ∧ (¬ ((l6 >>> (l9 &&& 31)) &&& 1 = 1) → ∀ x9 : Int64, x9 = l7 * l2.toInt64 → ∀ x10 : Int32, x10 = l9 + 1 → Gw G (d + 3) mX12_likely 46 [.ref (ga G 273), .int l1, .int l2, .int l3, .long l4, uu, .int l6, .long x9, uu, .int x10] [] m (Ql K))) ∧ ((¬ l9 < (m.1 274 (((34 : Int32) + (9 : Int32) * l1) + 2).toNatClampNeg)) → ∀ x11 : Int64, x11 = l7 * 10 → ∀ x12 : Int32, x12 = l9 + 1 → Gw G (d + 3) mX12_likely 46 [.ref (ga G 273), .int l1, .int l2, .int l3, .long l4, uu, .int l6, .long x11, uu, .int x12] [] m (Ql K)))) : Gw G (d + 3) mX12_likely 46 [.ref (ga G 273), .int l1, .int l2, .int l3, .long l4, u5, .int l6, .long l7, u8, .int l9] [] m (Ql K) := by
  refine Gw.weak (L' := [.ref (ga G 273), .int l1, .int l2, .int l3, .long l4, uu, .int l6, .long l7, uu, .int l9]) ⟨Or.inl rfl, Or.inl rfl, Or.inl rfl, Or.inl rfl, Or.inl rfl, Or.inr rfl, Or.inl rfl, Or.inl rfl, Or.inr rfl, Or.inl rfl, trivial⟩ ?_
  refine go_iload dX12_likely_46 rfl ?_
  refine go_iconst (v := 4) dX12_likely_48 (by decide) ?_
  refine go_icmp_ge 100 dX12_likely_49 rfl ⟨fun hc => ?_, fun hc => ?_⟩
  · have hF := hF.1 hc
    refine go_lload dX12_likely_100 rfl ?_
    refine go_lload dX12_likely_102 rfl ?_
    refine go_ladd dX12_likely_104 ?_
    refine Gw.namel (fun x5 ex5 => ?_)
    have hF := hF x5 ex5
    refine go_lstore (L' := [.ref (ga G 273), .int l1, .int l2, .int l3, .long x5, uu, .int l6, .long l7, uu, .int l9]) dX12_likely_105 (Nat.le_of_ble_eq_true rfl) rfl ?_
    obtain ⟨x6, ex6⟩ : ∃ z : Int32, z = l6 + 1 := ⟨_, rfl⟩
    have hF := hF x6 ex6
    refine go_iinc (v := x6) (L' := [.ref (ga G 273), .int l1, .int l2, .int l3, .long x5, uu, .int x6, .long l7, uu, .int l9]) dX12_likely_107 rfl (by rw [ex6]; rfl) (Nat.le_of_ble_eq_true rfl) rfl ?_
    refine go_goto 6 dX12_likely_110 rfl ?_
    exact hF
  · have hF := hF.2 hc
    refine go_lload dX12_likely_52 rfl ?_
    refine go_iload dX12_likely_54 rfl ?_
    refine go_aload_n dX12_likely_56 rfl ?_
    refine go_iload_n dX12_likely_57 rfl ?_
    refine go_iconst (v := 2) dX12_likely_58 (by decide) ?_
    obtain ⟨ho, hF⟩ := hF
    refine go_callV mX12_of dX12_likely_59 lm_X12_84 okX12_of isX12_of sh_273 rfl (As := [.int l1, .int 2]) (S := [.int l9, .long l7]) rfl rfl (Nat.le_of_ble_eq_true rfl) (eX12_of G _ l1 2 m (fun r m' => r = m.1 274 (((34 : Int32) + (9 : Int32) * l1) + 2).toNatClampNeg ∧ m = m') ho ⟨rfl, rfl⟩) (k_i (fun r m' hr => ?_))
    obtain ⟨hr1, hr2⟩ := hr
    subst hr1
    subst hr2
    refine go_icmp_lt 71 dX12_likely_62 rfl ⟨fun hc => ?_, fun hc => ?_⟩
    · have hF := hF.1 hc
      refine go_iload dX12_likely_71 rfl ?_
      refine go_iload dX12_likely_73 rfl ?_
      rcases Classical.em ((l6 >>> (l9 &&& 31)) &&& 1 = 1) with hp | hp
      · have hF := hF.1 hp
        refine go_callS mX12_has dX12_likely_75 lm_X12_261 okX12_has isX12_has (As := [.int l6, .int l9]) (S := [.long l7]) rfl rfl (Nat.le_of_ble_eq_true rfl) (eX12_has G _ l6 l9 m (fun r m' => r = 1 ∧ m = m') ⟨fun _ => ⟨rfl, rfl⟩, fun q => absurd hp q⟩) (k_i (fun r m' hr => ?_))
        obtain ⟨hr1, hr2⟩ := hr
        subst hr1
        subst hr2
        refine go_if_eq 89 dX12_likely_78 rfl ⟨fun hc => absurd hc (by decide), fun _ => ?_⟩
        refine go_bipush (v := 10) dX12_likely_81 (by decide) ?_
        refine go_iload_n dX12_likely_83 rfl ?_
        refine go_isub dX12_likely_84 ?_
        refine go_i2l dX12_likely_85 ?_
        refine go_goto 91 dX12_likely_86 rfl ?_
        refine go_lmul dX12_likely_91 ?_
        refine Gw.namel (fun x7 ex7 => ?_)
        have hF := hF x7 ex7
        refine go_lstore (L' := [.ref (ga G 273), .int l1, .int l2, .int l3, .long l4, uu, .int l6, .long x7, uu, .int l9]) dX12_likely_92 (Nat.le_of_ble_eq_true rfl) rfl ?_
        obtain ⟨x8, ex8⟩ : ∃ z : Int32, z = l9 + 1 := ⟨_, rfl⟩
        have hF := hF x8 ex8
        refine go_iinc (v := x8) (L' := [.ref (ga G 273), .int l1, .int l2, .int l3, .long l4, uu, .int l6, .long x7, uu, .int x8]) dX12_likely_94 rfl (by rw [ex8]; rfl) (Nat.le_of_ble_eq_true rfl) rfl ?_
        refine go_goto 46 dX12_likely_97 rfl ?_
        exact hF
      · have hF := hF.2 hp
        refine go_callS mX12_has dX12_likely_75 lm_X12_261 okX12_has isX12_has (As := [.int l6, .int l9]) (S := [.long l7]) rfl rfl (Nat.le_of_ble_eq_true rfl) (eX12_has G _ l6 l9 m (fun r m' => r = 0 ∧ m = m') ⟨fun q => absurd q hp, fun _ => ⟨rfl, rfl⟩⟩) (k_i (fun r m' hr => ?_))
        obtain ⟨hr1, hr2⟩ := hr
        subst hr1
        subst hr2
        refine go_if_eq 89 dX12_likely_78 rfl ⟨fun _ => ?_, fun hc => absurd hc (by decide)⟩
        refine go_iload_n dX12_likely_89 rfl ?_
        refine go_i2l dX12_likely_90 ?_
        refine go_lmul dX12_likely_91 ?_
        refine Gw.namel (fun x9 ex9 => ?_)
        have hF := hF x9 ex9
        refine go_lstore (L' := [.ref (ga G 273), .int l1, .int l2, .int l3, .long l4, uu, .int l6, .long x9, uu, .int l9]) dX12_likely_92 (Nat.le_of_ble_eq_true rfl) rfl ?_
        obtain ⟨x10, ex10⟩ : ∃ z : Int32, z = l9 + 1 := ⟨_, rfl⟩
        have hF := hF x10 ex10
        refine go_iinc (v := x10) (L' := [.ref (ga G 273), .int l1, .int l2, .int l3, .long l4, uu, .int l6, .long x9, uu, .int x10]) dX12_likely_94 rfl (by rw [ex10]; rfl) (Nat.le_of_ble_eq_true rfl) rfl ?_
        refine go_goto 46 dX12_likely_97 rfl ?_
        exact hF
    · have hF := hF.2 hc
      refine go_ldc2 (v := 10) dX12_likely_65 lc_X12_422 ?_
      refine go_goto 91 dX12_likely_68 rfl ?_
      refine go_lmul dX12_likely_91 ?_
      refine Gw.namel (fun x11 ex11 => ?_)
      have hF := hF x11 ex11
      refine go_lstore (L' := [.ref (ga G 273), .int l1, .int l2, .int l3, .long l4, uu, .int l6, .long x11, uu, .int l9]) dX12_likely_92 (Nat.le_of_ble_eq_true rfl) rfl ?_
      obtain ⟨x12, ex12⟩ : ∃ z : Int32, z = l9 + 1 := ⟨_, rfl⟩
      have hF := hF x12 ex12
      refine go_iinc (v := x12) (L' := [.ref (ga G 273), .int l1, .int l2, .int l3, .long l4, uu, .int l6, .long x11, uu, .int x12]) dX12_likely_94 rfl (by rw [ex12]; rfl) (Nat.le_of_ble_eq_true rfl) rfl ?_
      refine go_goto 46 dX12_likely_97 rfl ?_
      exact hF
theorem vX12_common (G : GP) (d : Nat) (a0 : Int64) (a1 : Int64) (m : Mem) (K : Int64 → Mem → Prop) (hF : Gw G (d) mX12_common 6 [.long a0, uu, .long a1, uu, .long a0, uu, .long a1, uu, uu, uu] [] m (Ql K)) : Evl G (d) mX12_common [.long a0, .long a1] m K := by
  refine Ev.go [.long a0, uu, .long a1, uu, uu, uu, uu, uu, uu, uu] (by decide) (Nat.le_of_ble_eq_true rfl) rfl ?_
  refine go_lload_n dX12_common_0 rfl ?_
  refine go_lstore (L' := [.long a0, uu, .long a1, uu, .long a0, uu, uu, uu, uu, uu]) dX12_common_1 (Nat.le_of_ble_eq_true rfl) rfl ?_
  refine go_lload_n dX12_common_3 rfl ?_
  refine go_lstore (L' := [.long a0, uu, .long a1, uu, .long a0, uu, .long a1, uu, uu, uu]) dX12_common_4 (Nat.le_of_ble_eq_true rfl) rfl ?_
  exact hF
theorem vX12_common_6 (G : GP) (d : Nat) (u0 : Value) (u1 : Value) (u2 : Value) (u3 : Value) (l4 : Int64) (u5 : Value) (l6 : Int64) (u7 : Value) (u8 : Value) (u9 : Value) (m : Mem) (K : Int64 → Mem → Prop) (hF : (((lg_cmp l6 0) = 0) → K l4 m) ∧ ((¬ (lg_cmp l6 0) = 0) → ¬ l6 = 0 ∧ ∀ x1 : Int64, x1 = l4 - l4 / l6 * l6 → Gw G (d) mX12_common 6 [uu, uu, uu, uu, .long l6, uu, .long x1, uu, .long x1, uu] [] m (Ql K))) : Gw G (d) mX12_common 6 [u0, u1, u2, u3, .long l4, u5, .long l6, u7, u8, u9] [] m (Ql K) := by
  refine Gw.weak (L' := [uu, uu, uu, uu, .long l4, uu, .long l6, uu, uu, uu]) ⟨Or.inr rfl, Or.inr rfl, Or.inr rfl, Or.inr rfl, Or.inl rfl, Or.inr rfl, Or.inl rfl, Or.inr rfl, Or.inr rfl, Or.inr rfl, trivial⟩ ?_
  refine go_lload dX12_common_6 rfl ?_
  refine go_lconst (v := 0) dX12_common_8 (by decide) ?_
  refine go_lcmp dX12_common_9 ?_
  refine go_if_eq 31 dX12_common_10 rfl ⟨fun hc => ?_, fun hc => ?_⟩
  · have hF := hF.1 hc
    refine go_lload dX12_common_31 rfl ?_
    exact go_lret (S := []) dX12_common_33 rfl ⟨_, rfl, hF⟩
  · have hF := hF.2 hc
    refine go_lload dX12_common_13 rfl ?_
    refine go_lload dX12_common_15 rfl ?_
    obtain ⟨h0, hF⟩ := hF
    refine go_lrem dX12_common_17 h0 ?_
    refine Gw.namel (fun x1 ex1 => ?_)
    have hF := hF x1 ex1
    refine go_lstore (L' := [uu, uu, uu, uu, .long l4, uu, .long l6, uu, .long x1, uu]) dX12_common_18 (Nat.le_of_ble_eq_true rfl) rfl ?_
    refine go_lload dX12_common_20 rfl ?_
    refine go_lstore (L' := [uu, uu, uu, uu, .long l6, uu, .long l6, uu, .long x1, uu]) dX12_common_22 (Nat.le_of_ble_eq_true rfl) rfl ?_
    refine go_lload dX12_common_24 rfl ?_
    refine go_lstore (L' := [uu, uu, uu, uu, .long l6, uu, .long x1, uu, .long x1, uu]) dX12_common_26 (Nat.le_of_ble_eq_true rfl) rfl ?_
    refine go_goto 6 dX12_common_28 rfl ?_
    exact hF
theorem vX12_meant (G : GP) (d : Nat) (a0 : Int32) (a1 : Int32) (a2 : Int32) (m : Mem) (K : Int64 → Mem → Prop) (hF : ((0 ≤ a0 ∧ a0 ≤ m.1 274 1 - 1) → ((0 ≤ a1 ∧ a1 ≤ 10) → Evi G (d + 3) mX12_layHeard [.ref (ga G 273)] m (fun r2 m1 => Gw G (d + 4) mX12_meant 34 [.ref (ga G 273), .int a0, .int a1, .int a2, .int r2, .long 0, uu, .int 0, uu] [] m1 (Ql K))) ∧ (¬ (0 ≤ a1 ∧ a1 ≤ 10) → K (-1) m)) ∧ (¬ (0 ≤ a0 ∧ a0 ≤ m.1 274 1 - 1) → K (-1) m)) : Evl G (d + 4) mX12_meant [.ref (ga G 273), .int a0, .int a1, .int a2] m K := by
  refine Ev.go [.ref (ga G 273), .int a0, .int a1, .int a2, uu, uu, uu, uu, uu] (by decide) (Nat.le_of_ble_eq_true rfl) rfl ?_
  refine go_aload_n dX12_meant_0 rfl ?_
  refine go_iload_n dX12_meant_1 rfl ?_
  rcases Classical.em (0 ≤ a0 ∧ a0 ≤ m.1 274 1 - 1) with hp | hp
  · have hF := hF.1 hp
    refine go_callV mX12_isWord0 dX12_meant_2 lm_X12_326 okX12_isWord0 isX12_isWord0 sh_273 rfl (As := [.int a0]) (S := []) rfl rfl (Nat.le_of_ble_eq_true rfl) (eX12_isWord0 G _ a0 m (fun r m' => r = 1 ∧ m = m') ⟨fun _ => ⟨rfl, rfl⟩, fun q => absurd hp q⟩) (k_i (fun r m' hr => ?_))
    obtain ⟨hr1, hr2⟩ := hr
    subst hr1
    subst hr2
    refine go_if_eq 18 dX12_meant_5 rfl ⟨fun hc => absurd hc (by decide), fun _ => ?_⟩
    refine go_iload_n dX12_meant_8 rfl ?_
    refine go_iconst (v := 0) dX12_meant_9 (by decide) ?_
    refine go_bipush (v := 10) dX12_meant_10 (by decide) ?_
    rcases Classical.em (0 ≤ a1 ∧ a1 ≤ 10) with hp | hp
    · have hF := hF.1 hp
      refine go_callS mX12_isIn dX12_meant_12 lm_X12_80 okX12_isIn isX12_isIn (As := [.int a1, .int 0, .int 10]) (S := []) rfl rfl (Nat.le_of_ble_eq_true rfl) (eX12_isIn G _ a1 0 10 m (fun r m' => r = 1 ∧ m = m') ⟨fun _ => ⟨rfl, rfl⟩, fun q => absurd hp q⟩) (k_i (fun r m' hr => ?_))
      obtain ⟨hr1, hr2⟩ := hr
      subst hr1
      subst hr2
      refine go_if_ne 22 dX12_meant_15 rfl ⟨fun _ => ?_, fun hc => absurd hc (by decide)⟩
      refine go_aload_n dX12_meant_22 rfl ?_
      refine go_callV mX12_layHeard dX12_meant_23 lm_X12_353 okX12_layHeard isX12_layHeard sh_273 rfl (As := []) (S := []) rfl rfl (Nat.le_of_ble_eq_true rfl) hF (k_i (fun r2 m1 hF => ?_))
      refine go_istore (L' := [.ref (ga G 273), .int a0, .int a1, .int a2, .int r2, uu, uu, uu, uu]) dX12_meant_26 (Nat.le_of_ble_eq_true rfl) rfl ?_
      refine go_lconst (v := 0) dX12_meant_28 (by decide) ?_
      refine go_lstore (L' := [.ref (ga G 273), .int a0, .int a1, .int a2, .int r2, .long 0, uu, uu, uu]) dX12_meant_29 (Nat.le_of_ble_eq_true rfl) rfl ?_
      refine go_iconst (v := 0) dX12_meant_31 (by decide) ?_
      refine go_istore (L' := [.ref (ga G 273), .int a0, .int a1, .int a2, .int r2, .long 0, uu, .int 0, uu]) dX12_meant_32 (Nat.le_of_ble_eq_true rfl) rfl ?_
      exact hF
    · have hF := hF.2 hp
      refine go_callS mX12_isIn dX12_meant_12 lm_X12_80 okX12_isIn isX12_isIn (As := [.int a1, .int 0, .int 10]) (S := []) rfl rfl (Nat.le_of_ble_eq_true rfl) (eX12_isIn G _ a1 0 10 m (fun r m' => r = 0 ∧ m = m') ⟨fun q => absurd q hp, fun _ => ⟨rfl, rfl⟩⟩) (k_i (fun r m' hr => ?_))
      obtain ⟨hr1, hr2⟩ := hr
      subst hr1
      subst hr2
      refine go_if_ne 22 dX12_meant_15 rfl ⟨fun hc => absurd hc (by decide), fun _ => ?_⟩
      refine go_ldc2 (v := -1) dX12_meant_18 lc_X12_424 ?_
      exact go_lret (S := []) dX12_meant_21 rfl ⟨_, rfl, hF⟩
  · have hF := hF.2 hp
    refine go_callV mX12_isWord0 dX12_meant_2 lm_X12_326 okX12_isWord0 isX12_isWord0 sh_273 rfl (As := [.int a0]) (S := []) rfl rfl (Nat.le_of_ble_eq_true rfl) (eX12_isWord0 G _ a0 m (fun r m' => r = 0 ∧ m = m') ⟨fun q => absurd q hp, fun _ => ⟨rfl, rfl⟩⟩) (k_i (fun r m' hr => ?_))
    obtain ⟨hr1, hr2⟩ := hr
    subst hr1
    subst hr2
    refine go_if_eq 18 dX12_meant_5 rfl ⟨fun _ => ?_, fun hc => absurd hc (by decide)⟩
    refine go_ldc2 (v := -1) dX12_meant_18 lc_X12_424 ?_
    exact go_lret (S := []) dX12_meant_21 rfl ⟨_, rfl, hF⟩
theorem vX12_meant_34 (G : GP) (d : Nat) (l1 : Int32) (l2 : Int32) (l3 : Int32) (l4 : Int32) (l5 : Int64) (u6 : Value) (l7 : Int32) (u8 : Value) (m : Mem) (K : Int64 → Mem → Prop) (hF : (((m.1 274 1) ≤ l7) → ((¬ (lg_cmp l5 0) = 0) → Evl G (d + 3) mX12_likely [.ref (ga G 273), .int l1, .int l2, .int l4] m (fun r4 m3 => ((l3 = 0) → Evl G (d + 3) mX12_common [.long r4, .long l5] m3 (fun r6 m5 => ¬ r6 = 0 ∧ K (r4 / r6) m5)) ∧ ((¬ l3 = 0) → Evl G (d + 3) mX12_common [.long r4, .long l5] m3 (fun r8 m7 => ¬ r8 = 0 ∧ K (l5 / r8) m7)))) ∧ (((lg_cmp l5 0) = 0) → ((l3 = 0) → K 0 m) ∧ ((¬ l3 = 0) → K 1 m))) ∧ ((¬ (m.1 274 1) ≤ l7) → Evl G (d + 3) mX12_likely [.ref (ga G 273), .int l7, .int l2, .int l4] m (fun r10 m9 => ∀ x11 : Int64, x11 = l5 + r10 → ∀ x12 : Int32, x12 = l7 + 1 → Gw G (d + 4) mX12_meant 34 [.ref (ga G 273), .int l1, .int l2, .int l3, .int l4, .long x11, uu, .int x12, uu] [] m9 (Ql K)))) : Gw G (d + 4) mX12_meant 34 [.ref (ga G 273), .int l1, .int l2, .int l3, .int l4, .long l5, u6, .int l7, u8] [] m (Ql K) := by
  refine Gw.weak (L' := [.ref (ga G 273), .int l1, .int l2, .int l3, .int l4, .long l5, uu, .int l7, uu]) ⟨Or.inl rfl, Or.inl rfl, Or.inl rfl, Or.inl rfl, Or.inl rfl, Or.inl rfl, Or.inr rfl, Or.inl rfl, Or.inr rfl, trivial⟩ ?_
  refine go_iload dX12_meant_34 rfl ?_
  refine go_aload_n dX12_meant_36 rfl ?_
  refine go_getR (k := 0) (r := 274) dX12_meant_37 sh_273 rfl inX12 (Nat.le_of_ble_eq_true rfl) lf_X12_7 rfl rfl ?_
  refine go_iconst (v := 1) dX12_meant_40 (by decide) ?_
  refine go_ialdK (k := 1) dX12_meant_41 sh_274 (vp_in_dec (by decide)) (by decide) ?_
  refine go_icmp_ge 65 dX12_meant_42 rfl ⟨fun hc => ?_, fun hc => ?_⟩
  · have hF := hF.1 hc
    refine go_lload dX12_meant_65 rfl ?_
    refine go_lconst (v := 0) dX12_meant_67 (by decide) ?_
    refine go_lcmp dX12_meant_68 ?_
    refine go_if_ne 82 dX12_meant_69 rfl ⟨fun hc => ?_, fun hc => ?_⟩
    · have hF := hF.1 hc
      refine go_aload_n dX12_meant_82 rfl ?_
      refine go_iload_n dX12_meant_83 rfl ?_
      refine go_iload_n dX12_meant_84 rfl ?_
      refine go_iload dX12_meant_85 rfl ?_
      refine go_callV mX12_likely dX12_meant_87 lm_X12_426 okX12_likely isX12_likely sh_273 rfl (As := [.int l1, .int l2, .int l4]) (S := []) rfl rfl (Nat.le_of_ble_eq_true rfl) hF (k_l (fun r4 m3 hF => ?_))
      refine go_lstore (L' := [.ref (ga G 273), .int l1, .int l2, .int l3, .int l4, .long l5, uu, .long r4, uu]) dX12_meant_90 (Nat.le_of_ble_eq_true rfl) rfl ?_
      refine go_iload_n dX12_meant_92 rfl ?_
      refine go_if_eq 101 dX12_meant_93 rfl ⟨fun hc => ?_, fun hc => ?_⟩
      · have hF := hF.1 hc
        refine go_lload dX12_meant_101 rfl ?_
        refine go_lload dX12_meant_103 rfl ?_
        refine go_lload dX12_meant_105 rfl ?_
        refine go_callS mX12_common dX12_meant_107 lm_X12_429 okX12_common isX12_common (As := [.long r4, .long l5]) (S := [.long r4]) rfl rfl (Nat.le_of_ble_eq_true rfl) hF (k_l (fun r6 m5 hF => ?_))
        obtain ⟨h0, hF⟩ := hF
        refine go_ldiv dX12_meant_110 h0 ?_
        exact go_lret (S := []) dX12_meant_111 rfl ⟨_, rfl, hF⟩
      · have hF := hF.2 hc
        refine go_lload dX12_meant_96 rfl ?_
        refine go_goto 103 dX12_meant_98 rfl ?_
        refine go_lload dX12_meant_103 rfl ?_
        refine go_lload dX12_meant_105 rfl ?_
        refine go_callS mX12_common dX12_meant_107 lm_X12_429 okX12_common isX12_common (As := [.long r4, .long l5]) (S := [.long l5]) rfl rfl (Nat.le_of_ble_eq_true rfl) hF (k_l (fun r8 m7 hF => ?_))
        obtain ⟨h0, hF⟩ := hF
        refine go_ldiv dX12_meant_110 h0 ?_
        exact go_lret (S := []) dX12_meant_111 rfl ⟨_, rfl, hF⟩
    · have hF := hF.2 hc
      refine go_iload_n dX12_meant_72 rfl ?_
      refine go_if_eq 80 dX12_meant_73 rfl ⟨fun hc => ?_, fun hc => ?_⟩
      · have hF := hF.1 hc
        refine go_lconst (v := 0) dX12_meant_80 (by decide) ?_
        exact go_lret (S := []) dX12_meant_81 rfl ⟨_, rfl, hF⟩
      · have hF := hF.2 hc
        refine go_lconst (v := 1) dX12_meant_76 (by decide) ?_
        refine go_goto 81 dX12_meant_77 rfl ?_
        exact go_lret (S := []) dX12_meant_81 rfl ⟨_, rfl, hF⟩
  · have hF := hF.2 hc
    refine go_lload dX12_meant_45 rfl ?_
    refine go_aload_n dX12_meant_47 rfl ?_
    refine go_iload dX12_meant_48 rfl ?_
    refine go_iload_n dX12_meant_50 rfl ?_
    refine go_iload dX12_meant_51 rfl ?_
    refine go_callV mX12_likely dX12_meant_53 lm_X12_426 okX12_likely isX12_likely sh_273 rfl (As := [.int l7, .int l2, .int l4]) (S := [.long l5]) rfl rfl (Nat.le_of_ble_eq_true rfl) hF (k_l (fun r10 m9 hF => ?_))
    refine go_ladd dX12_meant_56 ?_
    refine Gw.namel (fun x11 ex11 => ?_)
    have hF := hF x11 ex11
    refine go_lstore (L' := [.ref (ga G 273), .int l1, .int l2, .int l3, .int l4, .long x11, uu, .int l7, uu]) dX12_meant_57 (Nat.le_of_ble_eq_true rfl) rfl ?_
    obtain ⟨x12, ex12⟩ : ∃ z : Int32, z = l7 + 1 := ⟨_, rfl⟩
    have hF := hF x12 ex12
    refine go_iinc (v := x12) (L' := [.ref (ga G 273), .int l1, .int l2, .int l3, .int l4, .long x11, uu, .int x12, uu]) dX12_meant_59 rfl (by rw [ex12]; rfl) (Nat.le_of_ble_eq_true rfl) rfl ?_
    refine go_goto 34 dX12_meant_62 rfl ?_
    exact hF
theorem vX12_areOver (G : GP) (d : Nat) (a0 : Int32) (a1 : Int32) (m : Mem) (K : Int32 → Mem → Prop) (hF : Gw G (d + 5) mX12_areOver 2 [.ref (ga G 273), .int a0, .int a1, .int 0] [] m (Qi K)) : Evi G (d + 5) mX12_areOver [.ref (ga G 273), .int a0, .int a1] m K := by
  refine Ev.go [.ref (ga G 273), .int a0, .int a1, uu] (by decide) (Nat.le_of_ble_eq_true rfl) rfl ?_
  refine go_iconst (v := 0) dX12_areOver_0 (by decide) ?_
  refine go_istore_n (L' := [.ref (ga G 273), .int a0, .int a1, .int 0]) dX12_areOver_1 (Nat.le_of_ble_eq_true rfl) rfl ?_
  exact hF
theorem vX12_areOver_2 (G : GP) (d : Nat) (l1 : Int32) (l2 : Int32) (l3 : Int32) (m : Mem) (K : Int32 → Mem → Prop) (hF : vp_in (((34 : Int32) + (9 : Int32) * l1) + 2) 5968 ∧ (((m.1 274 (((34 : Int32) + (9 : Int32) * l1) + 2).toNatClampNeg) ≤ l3) → K 1 m) ∧ ((¬ (m.1 274 (((34 : Int32) + (9 : Int32) * l1) + 2).toNatClampNeg) ≤ l3) → vp_in (((34 : Int32) + (9 : Int32) * l1) + ((3 : Int32) + l3)) 5968 ∧ Evi G (d + 4) mX12_isOver [.ref (ga G 273), .int (m.1 274 (((34 : Int32) + (9 : Int32) * l1) + ((3 : Int32) + l3)).toNatClampNeg), .int l2, .int ((m.1 274 14) + l3)] m (fun r2 m1 => ((¬ r2 = 0) → ∀ x3 : Int32, x3 = l3 + 1 → Gw G (d + 5) mX12_areOver 2 [.ref (ga G 273), .int l1, .int l2, .int x3] [] m1 (Qi K)) ∧ ((r2 = 0) → K 0 m1)))) : Gw G (d + 5) mX12_areOver 2 [.ref (ga G 273), .int l1, .int l2, .int l3] [] m (Qi K) := by
  refine go_iload_n dX12_areOver_2 rfl ?_
  refine go_aload_n dX12_areOver_3 rfl ?_
  refine go_iload_n dX12_areOver_4 rfl ?_
  refine go_iconst (v := 2) dX12_areOver_5 (by decide) ?_
  obtain ⟨ho, hF⟩ := hF
  refine go_callV mX12_of dX12_areOver_6 lm_X12_84 okX12_of isX12_of sh_273 rfl (As := [.int l1, .int 2]) (S := [.int l3]) rfl rfl (Nat.le_of_ble_eq_true rfl) (eX12_of G _ l1 2 m (fun r m' => r = m.1 274 (((34 : Int32) + (9 : Int32) * l1) + 2).toNatClampNeg ∧ m = m') ho ⟨rfl, rfl⟩) (k_i (fun r m' hr => ?_))
  obtain ⟨hr1, hr2⟩ := hr
  subst hr1
  subst hr2
  refine go_icmp_ge 43 dX12_areOver_9 rfl ⟨fun hc => ?_, fun hc => ?_⟩
  · have hF := hF.1 hc
    refine go_iconst (v := 1) dX12_areOver_43 (by decide) ?_
    exact go_zret (S := []) dX12_areOver_44 rfl (by decide) ⟨_, rfl, hF⟩
  · have hF := hF.2 hc
    refine go_aload_n dX12_areOver_12 rfl ?_
    refine go_aload_n dX12_areOver_13 rfl ?_
    refine go_iload_n dX12_areOver_14 rfl ?_
    refine go_iload_n dX12_areOver_15 rfl ?_
    obtain ⟨ho, hF⟩ := hF
    refine go_callV mX12_strokeOf dX12_areOver_16 lm_X12_320 okX12_strokeOf isX12_strokeOf sh_273 rfl (As := [.int l1, .int l3]) (S := [.ref (ga G 273)]) rfl rfl (Nat.le_of_ble_eq_true rfl) (eX12_strokeOf G _ l1 l3 m (fun r m' => r = m.1 274 (((34 : Int32) + (9 : Int32) * l1) + ((3 : Int32) + l3)).toNatClampNeg ∧ m = m') ho ⟨rfl, rfl⟩) (k_i (fun r m' hr => ?_))
    obtain ⟨hr1, hr2⟩ := hr
    subst hr1
    subst hr2
    refine go_iload_n dX12_areOver_19 rfl ?_
    refine go_aload_n dX12_areOver_20 rfl ?_
    refine go_getR (k := 0) (r := 274) dX12_areOver_21 sh_273 rfl inX12 (Nat.le_of_ble_eq_true rfl) lf_X12_7 rfl rfl ?_
    refine go_bipush (v := 14) dX12_areOver_24 (by decide) ?_
    refine go_ialdK (k := 14) dX12_areOver_26 sh_274 (vp_in_dec (by decide)) (by decide) ?_
    refine go_iload_n dX12_areOver_27 rfl ?_
    refine go_iadd dX12_areOver_28 ?_
    refine go_callV mX12_isOver dX12_areOver_29 lm_X12_308 okX12_isOver isX12_isOver sh_273 rfl (As := [.int (m.1 274 (((34 : Int32) + (9 : Int32) * l1) + ((3 : Int32) + l3)).toNatClampNeg), .int l2, .int ((m.1 274 14) + l3)]) (S := []) rfl rfl (Nat.le_of_ble_eq_true rfl) hF (k_i (fun r2 m1 hF => ?_))
    refine go_if_ne 37 dX12_areOver_32 rfl ⟨fun hc => ?_, fun hc => ?_⟩
    · have hF := hF.1 hc
      obtain ⟨x3, ex3⟩ : ∃ z : Int32, z = l3 + 1 := ⟨_, rfl⟩
      have hF := hF x3 ex3
      refine go_iinc (v := x3) (L' := [.ref (ga G 273), .int l1, .int l2, .int x3]) dX12_areOver_37 rfl (by rw [ex3]; rfl) (Nat.le_of_ble_eq_true rfl) rfl ?_
      refine go_goto 2 dX12_areOver_40 rfl ?_
      exact hF
    · have hF := hF.2 hc
      refine go_iconst (v := 0) dX12_areOver_35 (by decide) ?_
      exact go_zret (S := []) dX12_areOver_36 rfl (by decide) ⟨_, rfl, hF⟩
theorem vX12_shortest (G : GP) (d : Nat) (a0 : Int32) (m : Mem) (K : Int32 → Mem → Prop) (hF : ((0 ≤ a0 ∧ a0 ≤ 99) → Gw G (d + 6) mX12_shortest 16 [.ref (ga G 273), .int a0, .int (-1), .int 0] [] m (Qi K)) ∧ (¬ (0 ≤ a0 ∧ a0 ≤ 99) → K (-1) m)) : Evi G (d + 6) mX12_shortest [.ref (ga G 273), .int a0] m K := by
  refine Ev.go [.ref (ga G 273), .int a0, uu, uu] (by decide) (Nat.le_of_ble_eq_true rfl) rfl ?_
  refine go_iload_n dX12_shortest_0 rfl ?_
  refine go_iconst (v := 0) dX12_shortest_1 (by decide) ?_
  refine go_bipush (v := 99) dX12_shortest_2 (by decide) ?_
  rcases Classical.em (0 ≤ a0 ∧ a0 ≤ 99) with hp | hp
  · have hF := hF.1 hp
    refine go_callS mX12_isIn dX12_shortest_4 lm_X12_80 okX12_isIn isX12_isIn (As := [.int a0, .int 0, .int 99]) (S := []) rfl rfl (Nat.le_of_ble_eq_true rfl) (eX12_isIn G _ a0 0 99 m (fun r m' => r = 1 ∧ m = m') ⟨fun _ => ⟨rfl, rfl⟩, fun q => absurd hp q⟩) (k_i (fun r m' hr => ?_))
    obtain ⟨hr1, hr2⟩ := hr
    subst hr1
    subst hr2
    refine go_if_ne 12 dX12_shortest_7 rfl ⟨fun _ => ?_, fun hc => absurd hc (by decide)⟩
    refine go_iconst (v := -1) dX12_shortest_12 (by decide) ?_
    refine go_istore_n (L' := [.ref (ga G 273), .int a0, .int (-1), uu]) dX12_shortest_13 (Nat.le_of_ble_eq_true rfl) rfl ?_
    refine go_iconst (v := 0) dX12_shortest_14 (by decide) ?_
    refine go_istore_n (L' := [.ref (ga G 273), .int a0, .int (-1), .int 0]) dX12_shortest_15 (Nat.le_of_ble_eq_true rfl) rfl ?_
    exact hF
  · have hF := hF.2 hp
    refine go_callS mX12_isIn dX12_shortest_4 lm_X12_80 okX12_isIn isX12_isIn (As := [.int a0, .int 0, .int 99]) (S := []) rfl rfl (Nat.le_of_ble_eq_true rfl) (eX12_isIn G _ a0 0 99 m (fun r m' => r = 0 ∧ m = m') ⟨fun q => absurd q hp, fun _ => ⟨rfl, rfl⟩⟩) (k_i (fun r m' hr => ?_))
    obtain ⟨hr1, hr2⟩ := hr
    subst hr1
    subst hr2
    refine go_if_ne 12 dX12_shortest_7 rfl ⟨fun hc => absurd hc (by decide), fun _ => ?_⟩
    refine go_iconst (v := -1) dX12_shortest_10 (by decide) ?_
    exact go_iret (S := []) dX12_shortest_11 rfl ⟨_, rfl, hF⟩
theorem vX12_shortest_16 (G : GP) (d : Nat) (l1 : Int32) (l2 : Int32) (l3 : Int32) (m : Mem) (K : Int32 → Mem → Prop) (hF : (((m.1 274 1) ≤ l3) → K l2 m) ∧ ((¬ (m.1 274 1) ≤ l3) → vp_in (((34 : Int32) + (9 : Int32) * l3) + 1) 5968 ∧ ((¬ (m.1 274 (((34 : Int32) + (9 : Int32) * l3) + 1).toNatClampNeg) = l1) → ∀ x1 : Int32, x1 = l3 + 1 → Gw G (d + 6) mX12_shortest 16 [.ref (ga G 273), .int l1, .int l2, .int x1] [] m (Qi K)) ∧ (((m.1 274 (((34 : Int32) + (9 : Int32) * l3) + 1).toNatClampNeg) = l1) → Evi G (d + 5) mX12_areOver [.ref (ga G 273), .int l3, .int (m.1 274 8)] m (fun r3 m2 => ((r3 = 0) → ∀ x4 : Int32, x4 = l3 + 1 → Gw G (d + 6) mX12_shortest 16 [.ref (ga G 273), .int l1, .int l2, .int x4] [] m2 (Qi K)) ∧ ((¬ r3 = 0) → ((l2 = (-1)) → ∀ x5 : Int32, x5 = l3 + 1 → Gw G (d + 6) mX12_shortest 16 [.ref (ga G 273), .int l1, .int l3, .int x5] [] m2 (Qi K)) ∧ ((¬ l2 = (-1)) → vp_in (((34 : Int32) + (9 : Int32) * l3) + 2) 5968 ∧ vp_in (((34 : Int32) + (9 : Int32) * l2) + 2) 5968 ∧ (((m2.1 274 (((34 : Int32) + (9 : Int32) * l2) + 2).toNatClampNeg) ≤ (m2.1 274 (((34 : Int32) + (9 : Int32) * l3) + 2).toNatClampNeg)) → ∀ x6 : Int32, x6 = l3 + 1 → Gw G (d + 6) mX12_shortest 16 [.ref (ga G 273), .int l1, .int l2, .int x6] [] m2 (Qi K)) ∧ ((¬ (m2.1 274 (((34 : Int32) + (9 : Int32) * l2) + 2).toNatClampNeg) ≤ (m2.1 274 (((34 : Int32) + (9 : Int32) * l3) + 2).toNatClampNeg)) → ∀ x7 : Int32, x7 = l3 + 1 → Gw G (d + 6) mX12_shortest 16 [.ref (ga G 273), .int l1, .int l3, .int x7] [] m2 (Qi K)))))))) : Gw G (d + 6) mX12_shortest 16 [.ref (ga G 273), .int l1, .int l2, .int l3] [] m (Qi K) := by
  refine go_iload_n dX12_shortest_16 rfl ?_
  refine go_aload_n dX12_shortest_17 rfl ?_
  refine go_getR (k := 0) (r := 274) dX12_shortest_18 sh_273 rfl inX12 (Nat.le_of_ble_eq_true rfl) lf_X12_7 rfl rfl ?_
  refine go_iconst (v := 1) dX12_shortest_21 (by decide) ?_
  refine go_ialdK (k := 1) dX12_shortest_22 sh_274 (vp_in_dec (by decide)) (by decide) ?_
  refine go_icmp_ge 79 dX12_shortest_23 rfl ⟨fun hc => ?_, fun hc => ?_⟩
  · have hF := hF.1 hc
    refine go_iload_n dX12_shortest_79 rfl ?_
    exact go_iret (S := []) dX12_shortest_80 rfl ⟨_, rfl, hF⟩
  · have hF := hF.2 hc
    refine go_aload_n dX12_shortest_26 rfl ?_
    refine go_iload_n dX12_shortest_27 rfl ?_
    refine go_iconst (v := 1) dX12_shortest_28 (by decide) ?_
    obtain ⟨ho, hF⟩ := hF
    refine go_callV mX12_of dX12_shortest_29 lm_X12_84 okX12_of isX12_of sh_273 rfl (As := [.int l3, .int 1]) (S := []) rfl rfl (Nat.le_of_ble_eq_true rfl) (eX12_of G _ l3 1 m (fun r m' => r = m.1 274 (((34 : Int32) + (9 : Int32) * l3) + 1).toNatClampNeg ∧ m = m') ho ⟨rfl, rfl⟩) (k_i (fun r m' hr => ?_))
    obtain ⟨hr1, hr2⟩ := hr
    subst hr1
    subst hr2
    refine go_iload_n dX12_shortest_32 rfl ?_
    refine go_icmp_ne 73 dX12_shortest_33 rfl ⟨fun hc => ?_, fun hc => ?_⟩
    · have hF := hF.1 hc
      obtain ⟨x1, ex1⟩ : ∃ z : Int32, z = l3 + 1 := ⟨_, rfl⟩
      have hF := hF x1 ex1
      refine go_iinc (v := x1) (L' := [.ref (ga G 273), .int l1, .int l2, .int x1]) dX12_shortest_73 rfl (by rw [ex1]; rfl) (Nat.le_of_ble_eq_true rfl) rfl ?_
      refine go_goto 16 dX12_shortest_76 rfl ?_
      exact hF
    · have hF := hF.2 hc
      refine go_aload_n dX12_shortest_36 rfl ?_
      refine go_iload_n dX12_shortest_37 rfl ?_
      refine go_aload_n dX12_shortest_38 rfl ?_
      refine go_getR (k := 0) (r := 274) dX12_shortest_39 sh_273 rfl inX12 (Nat.le_of_ble_eq_true rfl) lf_X12_7 rfl rfl ?_
      refine go_bipush (v := 8) dX12_shortest_42 (by decide) ?_
      refine go_ialdK (k := 8) dX12_shortest_44 sh_274 (vp_in_dec (by decide)) (by decide) ?_
      refine go_callV mX12_areOver dX12_shortest_45 lm_X12_432 okX12_areOver isX12_areOver sh_273 rfl (As := [.int l3, .int (m.1 274 8)]) (S := []) rfl rfl (Nat.le_of_ble_eq_true rfl) hF (k_i (fun r3 m2 hF => ?_))
      refine go_if_eq 73 dX12_shortest_48 rfl ⟨fun hc => ?_, fun hc => ?_⟩
      · have hF := hF.1 hc
        obtain ⟨x4, ex4⟩ : ∃ z : Int32, z = l3 + 1 := ⟨_, rfl⟩
        have hF := hF x4 ex4
        refine go_iinc (v := x4) (L' := [.ref (ga G 273), .int l1, .int l2, .int x4]) dX12_shortest_73 rfl (by rw [ex4]; rfl) (Nat.le_of_ble_eq_true rfl) rfl ?_
        refine go_goto 16 dX12_shortest_76 rfl ?_
        exact hF
      · have hF := hF.2 hc
        refine go_iload_n dX12_shortest_51 rfl ?_
        refine go_iconst (v := -1) dX12_shortest_52 (by decide) ?_
        refine go_icmp_eq 71 dX12_shortest_53 rfl ⟨fun hc => ?_, fun hc => ?_⟩
        · have hF := hF.1 hc
          refine go_iload_n dX12_shortest_71 rfl ?_
          refine go_istore_n (L' := [.ref (ga G 273), .int l1, .int l3, .int l3]) dX12_shortest_72 (Nat.le_of_ble_eq_true rfl) rfl ?_
          obtain ⟨x5, ex5⟩ : ∃ z : Int32, z = l3 + 1 := ⟨_, rfl⟩
          have hF := hF x5 ex5
          refine go_iinc (v := x5) (L' := [.ref (ga G 273), .int l1, .int l3, .int x5]) dX12_shortest_73 rfl (by rw [ex5]; rfl) (Nat.le_of_ble_eq_true rfl) rfl ?_
          refine go_goto 16 dX12_shortest_76 rfl ?_
          exact hF
        · have hF := hF.2 hc
          refine go_aload_n dX12_shortest_56 rfl ?_
          refine go_iload_n dX12_shortest_57 rfl ?_
          refine go_iconst (v := 2) dX12_shortest_58 (by decide) ?_
          obtain ⟨ho, hF⟩ := hF
          refine go_callV mX12_of dX12_shortest_59 lm_X12_84 okX12_of isX12_of sh_273 rfl (As := [.int l3, .int 2]) (S := []) rfl rfl (Nat.le_of_ble_eq_true rfl) (eX12_of G _ l3 2 m2 (fun r m' => r = m2.1 274 (((34 : Int32) + (9 : Int32) * l3) + 2).toNatClampNeg ∧ m2 = m') ho ⟨rfl, rfl⟩) (k_i (fun r m' hr => ?_))
          obtain ⟨hr1, hr2⟩ := hr
          subst hr1
          subst hr2
          refine go_aload_n dX12_shortest_62 rfl ?_
          refine go_iload_n dX12_shortest_63 rfl ?_
          refine go_iconst (v := 2) dX12_shortest_64 (by decide) ?_
          obtain ⟨ho, hF⟩ := hF
          refine go_callV mX12_of dX12_shortest_65 lm_X12_84 okX12_of isX12_of sh_273 rfl (As := [.int l2, .int 2]) (S := [.int (m2.1 274 (((34 : Int32) + (9 : Int32) * l3) + 2).toNatClampNeg)]) rfl rfl (Nat.le_of_ble_eq_true rfl) (eX12_of G _ l2 2 m2 (fun r m' => r = m2.1 274 (((34 : Int32) + (9 : Int32) * l2) + 2).toNatClampNeg ∧ m2 = m') ho ⟨rfl, rfl⟩) (k_i (fun r m' hr => ?_))
          obtain ⟨hr1, hr2⟩ := hr
          subst hr1
          subst hr2
          refine go_icmp_ge 73 dX12_shortest_68 rfl ⟨fun hc => ?_, fun hc => ?_⟩
          · have hF := hF.1 hc
            obtain ⟨x6, ex6⟩ : ∃ z : Int32, z = l3 + 1 := ⟨_, rfl⟩
            have hF := hF x6 ex6
            refine go_iinc (v := x6) (L' := [.ref (ga G 273), .int l1, .int l2, .int x6]) dX12_shortest_73 rfl (by rw [ex6]; rfl) (Nat.le_of_ble_eq_true rfl) rfl ?_
            refine go_goto 16 dX12_shortest_76 rfl ?_
            exact hF
          · have hF := hF.2 hc
            refine go_iload_n dX12_shortest_71 rfl ?_
            refine go_istore_n (L' := [.ref (ga G 273), .int l1, .int l3, .int l3]) dX12_shortest_72 (Nat.le_of_ble_eq_true rfl) rfl ?_
            obtain ⟨x7, ex7⟩ : ∃ z : Int32, z = l3 + 1 := ⟨_, rfl⟩
            have hF := hF x7 ex7
            refine go_iinc (v := x7) (L' := [.ref (ga G 273), .int l1, .int l3, .int x7]) dX12_shortest_73 rfl (by rw [ex7]; rfl) (Nat.le_of_ble_eq_true rfl) rfl ?_
            refine go_goto 16 dX12_shortest_76 rfl ?_
            exact hF
theorem vX12_atWorst (G : GP) (d : Nat) (a0 : Int32) (m : Mem) (K : Int32 → Mem → Prop) (hF : ((0 ≤ a0 ∧ a0 ≤ m.1 274 1 - 1) → Gw G (d + 6) mX12_atWorst 12 [.ref (ga G 273), .int a0, .int 0] [] m (Qi K)) ∧ (¬ (0 ≤ a0 ∧ a0 ≤ m.1 274 1 - 1) → K (-1) m)) : Evi G (d + 6) mX12_atWorst [.ref (ga G 273), .int a0] m K := by
  refine Ev.go [.ref (ga G 273), .int a0, uu] (by decide) (Nat.le_of_ble_eq_true rfl) rfl ?_
  refine go_aload_n dX12_atWorst_0 rfl ?_
  refine go_iload_n dX12_atWorst_1 rfl ?_
  rcases Classical.em (0 ≤ a0 ∧ a0 ≤ m.1 274 1 - 1) with hp | hp
  · have hF := hF.1 hp
    refine go_callV mX12_isWord0 dX12_atWorst_2 lm_X12_326 okX12_isWord0 isX12_isWord0 sh_273 rfl (As := [.int a0]) (S := []) rfl rfl (Nat.le_of_ble_eq_true rfl) (eX12_isWord0 G _ a0 m (fun r m' => r = 1 ∧ m = m') ⟨fun _ => ⟨rfl, rfl⟩, fun q => absurd hp q⟩) (k_i (fun r m' hr => ?_))
    obtain ⟨hr1, hr2⟩ := hr
    subst hr1
    subst hr2
    refine go_if_ne 10 dX12_atWorst_5 rfl ⟨fun _ => ?_, fun hc => absurd hc (by decide)⟩
    refine go_iconst (v := 0) dX12_atWorst_10 (by decide) ?_
    refine go_istore_n (L' := [.ref (ga G 273), .int a0, .int 0]) dX12_atWorst_11 (Nat.le_of_ble_eq_true rfl) rfl ?_
    exact hF
  · have hF := hF.2 hp
    refine go_callV mX12_isWord0 dX12_atWorst_2 lm_X12_326 okX12_isWord0 isX12_isWord0 sh_273 rfl (As := [.int a0]) (S := []) rfl rfl (Nat.le_of_ble_eq_true rfl) (eX12_isWord0 G _ a0 m (fun r m' => r = 0 ∧ m = m') ⟨fun q => absurd q hp, fun _ => ⟨rfl, rfl⟩⟩) (k_i (fun r m' hr => ?_))
    obtain ⟨hr1, hr2⟩ := hr
    subst hr1
    subst hr2
    refine go_if_ne 10 dX12_atWorst_5 rfl ⟨fun hc => absurd hc (by decide), fun _ => ?_⟩
    refine go_iconst (v := -1) dX12_atWorst_8 (by decide) ?_
    exact go_iret (S := []) dX12_atWorst_9 rfl ⟨_, rfl, hF⟩
theorem vX12_atWorst_12 (G : GP) (d : Nat) (l1 : Int32) (l2 : Int32) (m : Mem) (K : Int32 → Mem → Prop) (hF : ((10 ≤ l2) → K (l2 - 1) m) ∧ ((¬ 10 ≤ l2) → Evi G (d + 5) mX12_areOver [.ref (ga G 273), .int l1, .int l2] m (fun r2 m1 => ((r2 = 0) → K (l2 - 1) m1) ∧ ((¬ r2 = 0) → ∀ x3 : Int32, x3 = l2 + 1 → Gw G (d + 6) mX12_atWorst 12 [.ref (ga G 273), .int l1, .int x3] [] m1 (Qi K))))) : Gw G (d + 6) mX12_atWorst 12 [.ref (ga G 273), .int l1, .int l2] [] m (Qi K) := by
  refine go_iload_n dX12_atWorst_12 rfl ?_
  refine go_bipush (v := 10) dX12_atWorst_13 (by decide) ?_
  refine go_icmp_ge 33 dX12_atWorst_15 rfl ⟨fun hc => ?_, fun hc => ?_⟩
  · have hF := hF.1 hc
    refine go_iload_n dX12_atWorst_33 rfl ?_
    refine go_iconst (v := 1) dX12_atWorst_34 (by decide) ?_
    refine go_isub dX12_atWorst_35 ?_
    exact go_iret (S := []) dX12_atWorst_36 rfl ⟨_, rfl, hF⟩
  · have hF := hF.2 hc
    refine go_aload_n dX12_atWorst_18 rfl ?_
    refine go_iload_n dX12_atWorst_19 rfl ?_
    refine go_iload_n dX12_atWorst_20 rfl ?_
    refine go_callV mX12_areOver dX12_atWorst_21 lm_X12_432 okX12_areOver isX12_areOver sh_273 rfl (As := [.int l1, .int l2]) (S := []) rfl rfl (Nat.le_of_ble_eq_true rfl) hF (k_i (fun r2 m1 hF => ?_))
    refine go_if_eq 33 dX12_atWorst_24 rfl ⟨fun hc => ?_, fun hc => ?_⟩
    · have hF := hF.1 hc
      refine go_iload_n dX12_atWorst_33 rfl ?_
      refine go_iconst (v := 1) dX12_atWorst_34 (by decide) ?_
      refine go_isub dX12_atWorst_35 ?_
      exact go_iret (S := []) dX12_atWorst_36 rfl ⟨_, rfl, hF⟩
    · have hF := hF.2 hc
      obtain ⟨x3, ex3⟩ : ∃ z : Int32, z = l2 + 1 := ⟨_, rfl⟩
      have hF := hF x3 ex3
      refine go_iinc (v := x3) (L' := [.ref (ga G 273), .int l1, .int x3]) dX12_atWorst_27 rfl (by rw [ex3]; rfl) (Nat.le_of_ble_eq_true rfl) rfl ?_
      refine go_goto 12 dX12_atWorst_30 rfl ?_
      exact hF
theorem vX12_layWord (G : GP) (d : Nat) (a0 : Int32) (p1 p1l : Nat) (hp1 : SH[p1]? = some (100, p1l, [])) (m : Mem) (K : Int32 → Mem → Prop) (hF : Gw G (d + 2) mX12_layWord 2 [.ref (ga G 273), .int a0, .ref (ga G p1), .int 0] [] m (Qi K)) : Evi G (d + 2) mX12_layWord [.ref (ga G 273), .int a0, .ref (ga G p1)] m K := by
  refine Ev.go [.ref (ga G 273), .int a0, .ref (ga G p1), uu] (by decide) (Nat.le_of_ble_eq_true rfl) rfl ?_
  refine go_iconst (v := 0) dX12_layWord_0 (by decide) ?_
  refine go_istore_n (L' := [.ref (ga G 273), .int a0, .ref (ga G p1), .int 0]) dX12_layWord_1 (Nat.le_of_ble_eq_true rfl) rfl ?_
  exact hF
theorem vX12_layWord_2 (G : GP) (d : Nat) (l1 : Int32) (p1 p1l : Nat) (hp1 : SH[p1]? = some (100, p1l, [])) (l3 : Int32) (m : Mem) (K : Int32 → Mem → Prop) (hF : vp_in (((34 : Int32) + (9 : Int32) * l1) + 2) 5968 ∧ (((m.1 274 (((34 : Int32) + (9 : Int32) * l1) + 2).toNatClampNeg) ≤ l3) → vp_in (((34 : Int32) + (9 : Int32) * l1) + 2) 5968 ∧ K (m.1 274 (((34 : Int32) + (9 : Int32) * l1) + 2).toNatClampNeg) m) ∧ ((¬ (m.1 274 (((34 : Int32) + (9 : Int32) * l1) + 2).toNatClampNeg) ≤ l3) → vp_in (((34 : Int32) + (9 : Int32) * l1) + ((3 : Int32) + l3)) 5968 ∧ vp_in l3 p1l ∧ ∀ m1 : Mem, m1 = wI m p1 l3.toNatClampNeg (m.1 274 (((34 : Int32) + (9 : Int32) * l1) + ((3 : Int32) + l3)).toNatClampNeg) → ∀ x2 : Int32, x2 = l3 + 1 → Gw G (d + 2) mX12_layWord 2 [.ref (ga G 273), .int l1, .ref (ga G p1), .int x2] [] m1 (Qi K))) : Gw G (d + 2) mX12_layWord 2 [.ref (ga G 273), .int l1, .ref (ga G p1), .int l3] [] m (Qi K) := by
  refine go_iload_n dX12_layWord_2 rfl ?_
  refine go_aload_n dX12_layWord_3 rfl ?_
  refine go_iload_n dX12_layWord_4 rfl ?_
  refine go_iconst (v := 2) dX12_layWord_5 (by decide) ?_
  obtain ⟨ho, hF⟩ := hF
  refine go_callV mX12_of dX12_layWord_6 lm_X12_84 okX12_of isX12_of sh_273 rfl (As := [.int l1, .int 2]) (S := [.int l3]) rfl rfl (Nat.le_of_ble_eq_true rfl) (eX12_of G _ l1 2 m (fun r m' => r = m.1 274 (((34 : Int32) + (9 : Int32) * l1) + 2).toNatClampNeg ∧ m = m') ho ⟨rfl, rfl⟩) (k_i (fun r m' hr => ?_))
  obtain ⟨hr1, hr2⟩ := hr
  subst hr1
  subst hr2
  refine go_icmp_ge 27 dX12_layWord_9 rfl ⟨fun hc => ?_, fun hc => ?_⟩
  · have hF := hF.1 hc
    refine go_aload_n dX12_layWord_27 rfl ?_
    refine go_iload_n dX12_layWord_28 rfl ?_
    refine go_iconst (v := 2) dX12_layWord_29 (by decide) ?_
    obtain ⟨ho, hF⟩ := hF
    refine go_callV mX12_of dX12_layWord_30 lm_X12_84 okX12_of isX12_of sh_273 rfl (As := [.int l1, .int 2]) (S := []) rfl rfl (Nat.le_of_ble_eq_true rfl) (eX12_of G _ l1 2 m (fun r m' => r = m.1 274 (((34 : Int32) + (9 : Int32) * l1) + 2).toNatClampNeg ∧ m = m') ho ⟨rfl, rfl⟩) (k_i (fun r m' hr => ?_))
    obtain ⟨hr1, hr2⟩ := hr
    subst hr1
    subst hr2
    exact go_iret (S := []) dX12_layWord_33 rfl ⟨_, rfl, hF⟩
  · have hF := hF.2 hc
    refine go_aload_n dX12_layWord_12 rfl ?_
    refine go_iload_n dX12_layWord_13 rfl ?_
    refine go_aload_n dX12_layWord_14 rfl ?_
    refine go_iload_n dX12_layWord_15 rfl ?_
    refine go_iload_n dX12_layWord_16 rfl ?_
    obtain ⟨ho, hF⟩ := hF
    refine go_callV mX12_strokeOf dX12_layWord_17 lm_X12_320 okX12_strokeOf isX12_strokeOf sh_273 rfl (As := [.int l1, .int l3]) (S := [.int l3, .ref (ga G p1)]) rfl rfl (Nat.le_of_ble_eq_true rfl) (eX12_strokeOf G _ l1 l3 m (fun r m' => r = m.1 274 (((34 : Int32) + (9 : Int32) * l1) + ((3 : Int32) + l3)).toNatClampNeg ∧ m = m') ho ⟨rfl, rfl⟩) (k_i (fun r m' hr => ?_))
    obtain ⟨hr1, hr2⟩ := hr
    subst hr1
    subst hr2
    obtain ⟨hi, hF⟩ := hF
    refine go_iast dX12_layWord_20 hp1 hi ?_
    obtain ⟨m1, em1⟩ : ∃ z : Mem, z = wI m p1 l3.toNatClampNeg (m.1 274 (((34 : Int32) + (9 : Int32) * l1) + ((3 : Int32) + l3)).toNatClampNeg) := ⟨_, rfl⟩
    rw [← em1]
    have hF := hF m1 em1
    obtain ⟨x2, ex2⟩ : ∃ z : Int32, z = l3 + 1 := ⟨_, rfl⟩
    have hF := hF x2 ex2
    refine go_iinc (v := x2) (L' := [.ref (ga G 273), .int l1, .ref (ga G p1), .int x2]) dX12_layWord_21 rfl (by rw [ex2]; rfl) (Nat.le_of_ble_eq_true rfl) rfl ?_
    refine go_goto 2 dX12_layWord_24 rfl ?_
    exact hF
theorem vX12_farOf (G : GP) (d : Nat) (a0 : Int32) (a1 : Int32) (m : Mem) (K : Int32 → Mem → Prop) (hF : Gw G (d) mX12_farOf 2 [.ref (ga G 273), .int a0, .int a1, .int 0, uu, uu] [] m (Qi K)) : Evi G (d) mX12_farOf [.ref (ga G 273), .int a0, .int a1] m K := by
  refine Ev.go [.ref (ga G 273), .int a0, .int a1, uu, uu, uu] (by decide) (Nat.le_of_ble_eq_true rfl) rfl ?_
  refine go_iconst (v := 0) dX12_farOf_0 (by decide) ?_
  refine go_istore_n (L' := [.ref (ga G 273), .int a0, .int a1, .int 0, uu, uu]) dX12_farOf_1 (Nat.le_of_ble_eq_true rfl) rfl ?_
  exact hF
theorem vX12_farOf_2 (G : GP) (d : Nat) (l1 : Int32) (l2 : Int32) (l3 : Int32) (u4 : Value) (u5 : Value) (m : Mem) (K : Int32 → Mem → Prop) (hF : ((l1 < l3) → vp_in (((25 : Int32) * l1) + l2) 625 ∧ K (m.1 289 (((25 : Int32) * l1) + l2).toNatClampNeg) m) ∧ ((¬ l1 < l3) → Gw G (d) mX12_farOf 10 [.ref (ga G 273), .int l1, .int l2, .int l3, .int 0, uu] [] m (Qi K))) : Gw G (d) mX12_farOf 2 [.ref (ga G 273), .int l1, .int l2, .int l3, u4, u5] [] m (Qi K) := by
  refine Gw.weak (L' := [.ref (ga G 273), .int l1, .int l2, .int l3, uu, uu]) ⟨Or.inl rfl, Or.inl rfl, Or.inl rfl, Or.inl rfl, Or.inr rfl, Or.inr rfl, trivial⟩ ?_
  refine go_iload_n dX12_farOf_2 rfl ?_
  refine go_iload_n dX12_farOf_3 rfl ?_
  refine go_icmp_gt 201 dX12_farOf_4 rfl ⟨fun hc => ?_, fun hc => ?_⟩
  · have hF := hF.1 hc
    refine go_aload_n dX12_farOf_201 rfl ?_
    refine go_getR (k := 30) (r := 289) dX12_farOf_202 sh_273 rfl inX12 (Nat.le_of_ble_eq_true rfl) lf_X12_64 rfl rfl ?_
    refine go_bipush (v := 25) dX12_farOf_205 (by decide) ?_
    refine go_iload_n dX12_farOf_207 rfl ?_
    refine go_imul dX12_farOf_208 ?_
    refine go_iload_n dX12_farOf_209 rfl ?_
    refine go_iadd dX12_farOf_210 ?_
    obtain ⟨hi, hF⟩ := hF
    refine go_iald dX12_farOf_211 sh_289 hi ?_
    exact go_iret (S := []) dX12_farOf_212 rfl ⟨_, rfl, hF⟩
  · have hF := hF.2 hc
    refine go_iconst (v := 0) dX12_farOf_7 (by decide) ?_
    refine go_istore (L' := [.ref (ga G 273), .int l1, .int l2, .int l3, .int 0, uu]) dX12_farOf_8 (Nat.le_of_ble_eq_true rfl) rfl ?_
    exact hF
theorem vX12_farOf_10 (G : GP) (d : Nat) (l1 : Int32) (l2 : Int32) (l3 : Int32) (l4 : Int32) (u5 : Value) (m : Mem) (K : Int32 → Mem → Prop) (hF : ((l2 < l4) → ∀ x1 : Int32, x1 = l3 + 1 → Gw G (d) mX12_farOf 2 [.ref (ga G 273), .int l1, .int l2, .int x1, .int l4, uu] [] m (Qi K)) ∧ ((¬ l2 < l4) → ((¬ l3 = 0) → ((¬ l4 = 0) → vp_in ((((25 : Int32) * (l3 - 1)) + l4) - 1) 625 ∧ vp_in (l3 - 1) 24 ∧ vp_in (l4 - 1) 24 ∧ ((¬ (m.1 287 (l3 - 1).toNatClampNeg) = (m.1 288 (l4 - 1).toNatClampNeg)) → ∀ x2 : Int32, x2 = (m.1 289 ((((25 : Int32) * (l3 - 1)) + l4) - 1).toNatClampNeg) + 1 → ((l3 ≤ 0) → vp_in (((25 : Int32) * l3) + l4) 625 ∧ ∀ m3 : Mem, m3 = wI m 289 (((25 : Int32) * l3) + l4).toNatClampNeg x2 → ∀ x4 : Int32, x4 = l4 + 1 → Gw G (d) mX12_farOf 10 [.ref (ga G 273), .int l1, .int l2, .int l3, .int x4, .int x2] [] m3 (Qi K)) ∧ ((¬ l3 ≤ 0) → ((l4 ≤ 0) → vp_in (((25 : Int32) * l3) + l4) 625 ∧ ∀ m5 : Mem, m5 = wI m 289 (((25 : Int32) * l3) + l4).toNatClampNeg x2 → ∀ x6 : Int32, x6 = l4 + 1 → Gw G (d) mX12_farOf 10 [.ref (ga G 273), .int l1, .int l2, .int l3, .int x6, .int x2] [] m5 (Qi K)) ∧ ((¬ l4 ≤ 0) → vp_in (((25 : Int32) * (l3 - 1)) + l4) 625 ∧ ((x2 ≤ ((m.1 289 (((25 : Int32) * (l3 - 1)) + l4).toNatClampNeg) + 1)) → vp_in ((((25 : Int32) * l3) + l4) - 1) 625 ∧ ((x2 ≤ ((m.1 289 ((((25 : Int32) * l3) + l4) - 1).toNatClampNeg) + 1)) → vp_in (((25 : Int32) * l3) + l4) 625 ∧ ∀ m7 : Mem, m7 = wI m 289 (((25 : Int32) * l3) + l4).toNatClampNeg x2 → ∀ x8 : Int32, x8 = l4 + 1 → Gw G (d) mX12_farOf 10 [.ref (ga G 273), .int l1, .int l2, .int l3, .int x8, .int x2] [] m7 (Qi K)) ∧ ((¬ x2 ≤ ((m.1 289 ((((25 : Int32) * l3) + l4) - 1).toNatClampNeg) + 1)) → vp_in ((((25 : Int32) * l3) + l4) - 1) 625 ∧ ∀ x9 : Int32, x9 = (m.1 289 ((((25 : Int32) * l3) + l4) - 1).toNatClampNeg) + 1 → vp_in (((25 : Int32) * l3) + l4) 625 ∧ ∀ m10 : Mem, m10 = wI m 289 (((25 : Int32) * l3) + l4).toNatClampNeg x9 → ∀ x11 : Int32, x11 = l4 + 1 → Gw G (d) mX12_farOf 10 [.ref (ga G 273), .int l1, .int l2, .int l3, .int x11, .int x9] [] m10 (Qi K))) ∧ ((¬ x2 ≤ ((m.1 289 (((25 : Int32) * (l3 - 1)) + l4).toNatClampNeg) + 1)) → vp_in (((25 : Int32) * (l3 - 1)) + l4) 625 ∧ ∀ x12 : Int32, x12 = (m.1 289 (((25 : Int32) * (l3 - 1)) + l4).toNatClampNeg) + 1 → vp_in ((((25 : Int32) * l3) + l4) - 1) 625 ∧ ((x12 ≤ ((m.1 289 ((((25 : Int32) * l3) + l4) - 1).toNatClampNeg) + 1)) → vp_in (((25 : Int32) * l3) + l4) 625 ∧ ∀ m13 : Mem, m13 = wI m 289 (((25 : Int32) * l3) + l4).toNatClampNeg x12 → ∀ x14 : Int32, x14 = l4 + 1 → Gw G (d) mX12_farOf 10 [.ref (ga G 273), .int l1, .int l2, .int l3, .int x14, .int x12] [] m13 (Qi K)) ∧ ((¬ x12 ≤ ((m.1 289 ((((25 : Int32) * l3) + l4) - 1).toNatClampNeg) + 1)) → vp_in ((((25 : Int32) * l3) + l4) - 1) 625 ∧ ∀ x15 : Int32, x15 = (m.1 289 ((((25 : Int32) * l3) + l4) - 1).toNatClampNeg) + 1 → vp_in (((25 : Int32) * l3) + l4) 625 ∧ ∀ m16 : Mem, m16 = wI m 289 (((25 : Int32) * l3) + l4).toNatClampNeg x15 → ∀ x17 : Int32, x17 = l4 + 1 → Gw G (d) mX12_farOf 10 [.ref (ga G 273), .int l1, .int l2, .int l3, .int x17, .int x15] [] m16 (Qi K)))))) ∧ (((m.1 287 (l3 - 1).toNatClampNeg) = (m.1 288 (l4 - 1).toNatClampNeg)) → ∀ x18 : Int32, x18 = (m.1 289 ((((25 : Int32) * (l3 - 1)) + l4) - 1).toNatClampNeg) + 0 → ((l3 ≤ 0) → vp_in (((25 : Int32) * l3) + l4) 625 ∧ ∀ m19 : Mem, m19 = wI m 289 (((25 : Int32) * l3) + l4).toNatClampNeg x18 → ∀ x20 : Int32, x20 = l4 + 1 → Gw G (d) mX12_farOf 10 [.ref (ga G 273), .int l1, .int l2, .int l3, .int x20, .int x18] [] m19 (Qi K)) ∧ ((¬ l3 ≤ 0) → ((l4 ≤ 0) → vp_in (((25 : Int32) * l3) + l4) 625 ∧ ∀ m21 : Mem, m21 = wI m 289 (((25 : Int32) * l3) + l4).toNatClampNeg x18 → ∀ x22 : Int32, x22 = l4 + 1 → Gw G (d) mX12_farOf 10 [.ref (ga G 273), .int l1, .int l2, .int l3, .int x22, .int x18] [] m21 (Qi K)) ∧ ((¬ l4 ≤ 0) → vp_in (((25 : Int32) * (l3 - 1)) + l4) 625 ∧ ((x18 ≤ ((m.1 289 (((25 : Int32) * (l3 - 1)) + l4).toNatClampNeg) + 1)) → vp_in ((((25 : Int32) * l3) + l4) - 1) 625 ∧ ((x18 ≤ ((m.1 289 ((((25 : Int32) * l3) + l4) - 1).toNatClampNeg) + 1)) → vp_in (((25 : Int32) * l3) + l4) 625 ∧ ∀ m23 : Mem, m23 = wI m 289 (((25 : Int32) * l3) + l4).toNatClampNeg x18 → ∀ x24 : Int32, x24 = l4 + 1 → Gw G (d) mX12_farOf 10 [.ref (ga G 273), .int l1, .int l2, .int l3, .int x24, .int x18] [] m23 (Qi K)) ∧ ((¬ x18 ≤ ((m.1 289 ((((25 : Int32) * l3) + l4) - 1).toNatClampNeg) + 1)) → vp_in ((((25 : Int32) * l3) + l4) - 1) 625 ∧ ∀ x25 : Int32, x25 = (m.1 289 ((((25 : Int32) * l3) + l4) - 1).toNatClampNeg) + 1 → vp_in (((25 : Int32) * l3) + l4) 625 ∧ ∀ m26 : Mem, m26 = wI m 289 (((25 : Int32) * l3) + l4).toNatClampNeg x25 → ∀ x27 : Int32, x27 = l4 + 1 → Gw G (d) mX12_farOf 10 [.ref (ga G 273), .int l1, .int l2, .int l3, .int x27, .int x25] [] m26 (Qi K))) ∧ ((¬ x18 ≤ ((m.1 289 (((25 : Int32) * (l3 - 1)) + l4).toNatClampNeg) + 1)) → vp_in (((25 : Int32) * (l3 - 1)) + l4) 625 ∧ ∀ x28 : Int32, x28 = (m.1 289 (((25 : Int32) * (l3 - 1)) + l4).toNatClampNeg) + 1 → vp_in ((((25 : Int32) * l3) + l4) - 1) 625 ∧ ((x28 ≤ ((m.1 289 ((((25 : Int32) * l3) + l4) - 1).toNatClampNeg) + 1)) → vp_in (((25 : Int32) * l3) + l4) 625 ∧ ∀ m29 : Mem, m29 = wI m 289 (((25 : Int32) * l3) + l4).toNatClampNeg x28 → ∀ x30 : Int32, x30 = l4 + 1 → Gw G (d) mX12_farOf 10 [.ref (ga G 273), .int l1, .int l2, .int l3, .int x30, .int x28] [] m29 (Qi K)) ∧ ((¬ x28 ≤ ((m.1 289 ((((25 : Int32) * l3) + l4) - 1).toNatClampNeg) + 1)) → vp_in ((((25 : Int32) * l3) + l4) - 1) 625 ∧ ∀ x31 : Int32, x31 = (m.1 289 ((((25 : Int32) * l3) + l4) - 1).toNatClampNeg) + 1 → vp_in (((25 : Int32) * l3) + l4) 625 ∧ ∀ m32 : Mem, m32 = wI m 289 (((25 : Int32) * l3) + l4).toNatClampNeg x31 → ∀ x33 : Int32, x33 = l4 + 1 → Gw G (d) mX12_farOf 10 [.ref (ga G 273), .int l1, .int l2, .int l3, .int x33, .int x31] [] m32 (Qi K))))))) ∧ ((l4 = 0) → ((l3 ≤ 0) → vp_in (((25 : Int32) * l3) + l4) 625 ∧ ∀ m34 : Mem, m34 = wI m 289 (((25 : Int32) * l3) + l4).toNatClampNeg l3 → ∀ x35 : Int32, x35 = l4 + 1 → Gw G (d) mX12_farOf 10 [.ref (ga G 273), .int l1, .int l2, .int l3, .int x35, .int l3] [] m34 (Qi K)) ∧ ((¬ l3 ≤ 0) → ((l4 ≤ 0) → vp_in (((25 : Int32) * l3) + l4) 625 ∧ ∀ m36 : Mem, m36 = wI m 289 (((25 : Int32) * l3) + l4).toNatClampNeg l3 → ∀ x37 : Int32, x37 = l4 + 1 → Gw G (d) mX12_farOf 10 [.ref (ga G 273), .int l1, .int l2, .int l3, .int x37, .int l3] [] m36 (Qi K)) ∧ ((¬ l4 ≤ 0) → vp_in (((25 : Int32) * (l3 - 1)) + l4) 625 ∧ ((l3 ≤ ((m.1 289 (((25 : Int32) * (l3 - 1)) + l4).toNatClampNeg) + 1)) → vp_in ((((25 : Int32) * l3) + l4) - 1) 625 ∧ ((l3 ≤ ((m.1 289 ((((25 : Int32) * l3) + l4) - 1).toNatClampNeg) + 1)) → vp_in (((25 : Int32) * l3) + l4) 625 ∧ ∀ m38 : Mem, m38 = wI m 289 (((25 : Int32) * l3) + l4).toNatClampNeg l3 → ∀ x39 : Int32, x39 = l4 + 1 → Gw G (d) mX12_farOf 10 [.ref (ga G 273), .int l1, .int l2, .int l3, .int x39, .int l3] [] m38 (Qi K)) ∧ ((¬ l3 ≤ ((m.1 289 ((((25 : Int32) * l3) + l4) - 1).toNatClampNeg) + 1)) → vp_in ((((25 : Int32) * l3) + l4) - 1) 625 ∧ ∀ x40 : Int32, x40 = (m.1 289 ((((25 : Int32) * l3) + l4) - 1).toNatClampNeg) + 1 → vp_in (((25 : Int32) * l3) + l4) 625 ∧ ∀ m41 : Mem, m41 = wI m 289 (((25 : Int32) * l3) + l4).toNatClampNeg x40 → ∀ x42 : Int32, x42 = l4 + 1 → Gw G (d) mX12_farOf 10 [.ref (ga G 273), .int l1, .int l2, .int l3, .int x42, .int x40] [] m41 (Qi K))) ∧ ((¬ l3 ≤ ((m.1 289 (((25 : Int32) * (l3 - 1)) + l4).toNatClampNeg) + 1)) → vp_in (((25 : Int32) * (l3 - 1)) + l4) 625 ∧ ∀ x43 : Int32, x43 = (m.1 289 (((25 : Int32) * (l3 - 1)) + l4).toNatClampNeg) + 1 → vp_in ((((25 : Int32) * l3) + l4) - 1) 625 ∧ ((x43 ≤ ((m.1 289 ((((25 : Int32) * l3) + l4) - 1).toNatClampNeg) + 1)) → vp_in (((25 : Int32) * l3) + l4) 625 ∧ ∀ m44 : Mem, m44 = wI m 289 (((25 : Int32) * l3) + l4).toNatClampNeg x43 → ∀ x45 : Int32, x45 = l4 + 1 → Gw G (d) mX12_farOf 10 [.ref (ga G 273), .int l1, .int l2, .int l3, .int x45, .int x43] [] m44 (Qi K)) ∧ ((¬ x43 ≤ ((m.1 289 ((((25 : Int32) * l3) + l4) - 1).toNatClampNeg) + 1)) → vp_in ((((25 : Int32) * l3) + l4) - 1) 625 ∧ ∀ x46 : Int32, x46 = (m.1 289 ((((25 : Int32) * l3) + l4) - 1).toNatClampNeg) + 1 → vp_in (((25 : Int32) * l3) + l4) 625 ∧ ∀ m47 : Mem, m47 = wI m 289 (((25 : Int32) * l3) + l4).toNatClampNeg x46 → ∀ x48 : Int32, x48 = l4 + 1 → Gw G (d) mX12_farOf 10 [.ref (ga G 273), .int l1, .int l2, .int l3, .int x48, .int x46] [] m47 (Qi K))))))) ∧ ((l3 = 0) → ((l3 ≤ 0) → vp_in (((25 : Int32) * l3) + l4) 625 ∧ ∀ m49 : Mem, m49 = wI m 289 (((25 : Int32) * l3) + l4).toNatClampNeg l4 → ∀ x50 : Int32, x50 = l4 + 1 → Gw G (d) mX12_farOf 10 [.ref (ga G 273), .int l1, .int l2, .int l3, .int x50, .int l4] [] m49 (Qi K)) ∧ ((¬ l3 ≤ 0) → ((l4 ≤ 0) → vp_in (((25 : Int32) * l3) + l4) 625 ∧ ∀ m51 : Mem, m51 = wI m 289 (((25 : Int32) * l3) + l4).toNatClampNeg l4 → ∀ x52 : Int32, x52 = l4 + 1 → Gw G (d) mX12_farOf 10 [.ref (ga G 273), .int l1, .int l2, .int l3, .int x52, .int l4] [] m51 (Qi K)) ∧ ((¬ l4 ≤ 0) → vp_in (((25 : Int32) * (l3 - 1)) + l4) 625 ∧ ((l4 ≤ ((m.1 289 (((25 : Int32) * (l3 - 1)) + l4).toNatClampNeg) + 1)) → vp_in ((((25 : Int32) * l3) + l4) - 1) 625 ∧ ((l4 ≤ ((m.1 289 ((((25 : Int32) * l3) + l4) - 1).toNatClampNeg) + 1)) → vp_in (((25 : Int32) * l3) + l4) 625 ∧ ∀ m53 : Mem, m53 = wI m 289 (((25 : Int32) * l3) + l4).toNatClampNeg l4 → ∀ x54 : Int32, x54 = l4 + 1 → Gw G (d) mX12_farOf 10 [.ref (ga G 273), .int l1, .int l2, .int l3, .int x54, .int l4] [] m53 (Qi K)) ∧ ((¬ l4 ≤ ((m.1 289 ((((25 : Int32) * l3) + l4) - 1).toNatClampNeg) + 1)) → vp_in ((((25 : Int32) * l3) + l4) - 1) 625 ∧ ∀ x55 : Int32, x55 = (m.1 289 ((((25 : Int32) * l3) + l4) - 1).toNatClampNeg) + 1 → vp_in (((25 : Int32) * l3) + l4) 625 ∧ ∀ m56 : Mem, m56 = wI m 289 (((25 : Int32) * l3) + l4).toNatClampNeg x55 → ∀ x57 : Int32, x57 = l4 + 1 → Gw G (d) mX12_farOf 10 [.ref (ga G 273), .int l1, .int l2, .int l3, .int x57, .int x55] [] m56 (Qi K))) ∧ ((¬ l4 ≤ ((m.1 289 (((25 : Int32) * (l3 - 1)) + l4).toNatClampNeg) + 1)) → vp_in (((25 : Int32) * (l3 - 1)) + l4) 625 ∧ ∀ x58 : Int32, x58 = (m.1 289 (((25 : Int32) * (l3 - 1)) + l4).toNatClampNeg) + 1 → vp_in ((((25 : Int32) * l3) + l4) - 1) 625 ∧ ((x58 ≤ ((m.1 289 ((((25 : Int32) * l3) + l4) - 1).toNatClampNeg) + 1)) → vp_in (((25 : Int32) * l3) + l4) 625 ∧ ∀ m59 : Mem, m59 = wI m 289 (((25 : Int32) * l3) + l4).toNatClampNeg x58 → ∀ x60 : Int32, x60 = l4 + 1 → Gw G (d) mX12_farOf 10 [.ref (ga G 273), .int l1, .int l2, .int l3, .int x60, .int x58] [] m59 (Qi K)) ∧ ((¬ x58 ≤ ((m.1 289 ((((25 : Int32) * l3) + l4) - 1).toNatClampNeg) + 1)) → vp_in ((((25 : Int32) * l3) + l4) - 1) 625 ∧ ∀ x61 : Int32, x61 = (m.1 289 ((((25 : Int32) * l3) + l4) - 1).toNatClampNeg) + 1 → vp_in (((25 : Int32) * l3) + l4) 625 ∧ ∀ m62 : Mem, m62 = wI m 289 (((25 : Int32) * l3) + l4).toNatClampNeg x61 → ∀ x63 : Int32, x63 = l4 + 1 → Gw G (d) mX12_farOf 10 [.ref (ga G 273), .int l1, .int l2, .int l3, .int x63, .int x61] [] m62 (Qi K)))))))) : Gw G (d) mX12_farOf 10 [.ref (ga G 273), .int l1, .int l2, .int l3, .int l4, u5] [] m (Qi K) := by
  refine Gw.weak (L' := [.ref (ga G 273), .int l1, .int l2, .int l3, .int l4, uu]) ⟨Or.inl rfl, Or.inl rfl, Or.inl rfl, Or.inl rfl, Or.inl rfl, Or.inr rfl, trivial⟩ ?_
  refine go_iload dX12_farOf_10 rfl ?_
  refine go_iload_n dX12_farOf_12 rfl ?_
  refine go_icmp_gt 195 dX12_farOf_13 rfl ⟨fun hc => ?_, fun hc => ?_⟩
  · have hF := hF.1 hc
    obtain ⟨x1, ex1⟩ : ∃ z : Int32, z = l3 + 1 := ⟨_, rfl⟩
    have hF := hF x1 ex1
    refine go_iinc (v := x1) (L' := [.ref (ga G 273), .int l1, .int l2, .int x1, .int l4, uu]) dX12_farOf_195 rfl (by rw [ex1]; rfl) (Nat.le_of_ble_eq_true rfl) rfl ?_
    refine go_goto 2 dX12_farOf_198 rfl ?_
    exact hF
  · have hF := hF.2 hc
    refine go_iload_n dX12_farOf_16 rfl ?_
    refine go_if_ne 25 dX12_farOf_17 rfl ⟨fun hc => ?_, fun hc => ?_⟩
    · have hF := hF.1 hc
      refine go_iload dX12_farOf_25 rfl ?_
      refine go_if_ne 34 dX12_farOf_27 rfl ⟨fun hc => ?_, fun hc => ?_⟩
      · have hF := hF.1 hc
        refine go_aload_n dX12_farOf_34 rfl ?_
        refine go_getR (k := 30) (r := 289) dX12_farOf_35 sh_273 rfl inX12 (Nat.le_of_ble_eq_true rfl) lf_X12_64 rfl rfl ?_
        refine go_bipush (v := 25) dX12_farOf_38 (by decide) ?_
        refine go_iload_n dX12_farOf_40 rfl ?_
        refine go_iconst (v := 1) dX12_farOf_41 (by decide) ?_
        refine go_isub dX12_farOf_42 ?_
        refine go_imul dX12_farOf_43 ?_
        refine go_iload dX12_farOf_44 rfl ?_
        refine go_iadd dX12_farOf_46 ?_
        refine go_iconst (v := 1) dX12_farOf_47 (by decide) ?_
        refine go_isub dX12_farOf_48 ?_
        obtain ⟨hi, hF⟩ := hF
        refine go_iald dX12_farOf_49 sh_289 hi ?_
        refine go_aload_n dX12_farOf_50 rfl ?_
        refine go_getR (k := 28) (r := 287) dX12_farOf_51 sh_273 rfl inX12 (Nat.le_of_ble_eq_true rfl) lf_X12_58 rfl rfl ?_
        refine go_iload_n dX12_farOf_54 rfl ?_
        refine go_iconst (v := 1) dX12_farOf_55 (by decide) ?_
        refine go_isub dX12_farOf_56 ?_
        obtain ⟨hi, hF⟩ := hF
        refine go_iald dX12_farOf_57 sh_287 hi ?_
        refine go_aload_n dX12_farOf_58 rfl ?_
        refine go_getR (k := 29) (r := 288) dX12_farOf_59 sh_273 rfl inX12 (Nat.le_of_ble_eq_true rfl) lf_X12_61 rfl rfl ?_
        refine go_iload dX12_farOf_62 rfl ?_
        refine go_iconst (v := 1) dX12_farOf_64 (by decide) ?_
        refine go_isub dX12_farOf_65 ?_
        obtain ⟨hi, hF⟩ := hF
        refine go_iald dX12_farOf_66 sh_288 hi ?_
        refine go_icmp_ne 74 dX12_farOf_67 rfl ⟨fun hc => ?_, fun hc => ?_⟩
        · have hF := hF.1 hc
          refine go_iconst (v := 1) dX12_farOf_74 (by decide) ?_
          refine go_iadd dX12_farOf_75 ?_
          refine Gw.namei (fun x2 ex2 => ?_)
          have hF := hF x2 ex2
          refine go_istore (L' := [.ref (ga G 273), .int l1, .int l2, .int l3, .int l4, .int x2]) dX12_farOf_76 (Nat.le_of_ble_eq_true rfl) rfl ?_
          refine go_iload_n dX12_farOf_78 rfl ?_
          refine go_if_le 175 dX12_farOf_79 rfl ⟨fun hc => ?_, fun hc => ?_⟩
          · have hF := hF.1 hc
            refine go_aload_n dX12_farOf_175 rfl ?_
            refine go_getR (k := 30) (r := 289) dX12_farOf_176 sh_273 rfl inX12 (Nat.le_of_ble_eq_true rfl) lf_X12_64 rfl rfl ?_
            refine go_bipush (v := 25) dX12_farOf_179 (by decide) ?_
            refine go_iload_n dX12_farOf_181 rfl ?_
            refine go_imul dX12_farOf_182 ?_
            refine go_iload dX12_farOf_183 rfl ?_
            refine go_iadd dX12_farOf_185 ?_
            refine go_iload dX12_farOf_186 rfl ?_
            obtain ⟨hi, hF⟩ := hF
            refine go_iast dX12_farOf_188 sh_289 hi ?_
            obtain ⟨m3, em3⟩ : ∃ z : Mem, z = wI m 289 (((25 : Int32) * l3) + l4).toNatClampNeg x2 := ⟨_, rfl⟩
            rw [← em3]
            have hF := hF m3 em3
            obtain ⟨x4, ex4⟩ : ∃ z : Int32, z = l4 + 1 := ⟨_, rfl⟩
            have hF := hF x4 ex4
            refine go_iinc (v := x4) (L' := [.ref (ga G 273), .int l1, .int l2, .int l3, .int x4, .int x2]) dX12_farOf_189 rfl (by rw [ex4]; rfl) (Nat.le_of_ble_eq_true rfl) rfl ?_
            refine go_goto 10 dX12_farOf_192 rfl ?_
            exact hF
          · have hF := hF.2 hc
            refine go_iload dX12_farOf_82 rfl ?_
            refine go_if_le 175 dX12_farOf_84 rfl ⟨fun hc => ?_, fun hc => ?_⟩
            · have hF := hF.1 hc
              refine go_aload_n dX12_farOf_175 rfl ?_
              refine go_getR (k := 30) (r := 289) dX12_farOf_176 sh_273 rfl inX12 (Nat.le_of_ble_eq_true rfl) lf_X12_64 rfl rfl ?_
              refine go_bipush (v := 25) dX12_farOf_179 (by decide) ?_
              refine go_iload_n dX12_farOf_181 rfl ?_
              refine go_imul dX12_farOf_182 ?_
              refine go_iload dX12_farOf_183 rfl ?_
              refine go_iadd dX12_farOf_185 ?_
              refine go_iload dX12_farOf_186 rfl ?_
              obtain ⟨hi, hF⟩ := hF
              refine go_iast dX12_farOf_188 sh_289 hi ?_
              obtain ⟨m5, em5⟩ : ∃ z : Mem, z = wI m 289 (((25 : Int32) * l3) + l4).toNatClampNeg x2 := ⟨_, rfl⟩
              rw [← em5]
              have hF := hF m5 em5
              obtain ⟨x6, ex6⟩ : ∃ z : Int32, z = l4 + 1 := ⟨_, rfl⟩
              have hF := hF x6 ex6
              refine go_iinc (v := x6) (L' := [.ref (ga G 273), .int l1, .int l2, .int l3, .int x6, .int x2]) dX12_farOf_189 rfl (by rw [ex6]; rfl) (Nat.le_of_ble_eq_true rfl) rfl ?_
              refine go_goto 10 dX12_farOf_192 rfl ?_
              exact hF
            · have hF := hF.2 hc
              refine go_aload_n dX12_farOf_87 rfl ?_
              refine go_getR (k := 30) (r := 289) dX12_farOf_88 sh_273 rfl inX12 (Nat.le_of_ble_eq_true rfl) lf_X12_64 rfl rfl ?_
              refine go_bipush (v := 25) dX12_farOf_91 (by decide) ?_
              refine go_iload_n dX12_farOf_93 rfl ?_
              refine go_iconst (v := 1) dX12_farOf_94 (by decide) ?_
              refine go_isub dX12_farOf_95 ?_
              refine go_imul dX12_farOf_96 ?_
              refine go_iload dX12_farOf_97 rfl ?_
              refine go_iadd dX12_farOf_99 ?_
              obtain ⟨hi, hF⟩ := hF
              refine go_iald dX12_farOf_100 sh_289 hi ?_
              refine go_iconst (v := 1) dX12_farOf_101 (by decide) ?_
              refine go_iadd dX12_farOf_102 ?_
              refine go_iload dX12_farOf_103 rfl ?_
              refine go_icmp_ge 127 dX12_farOf_105 rfl ⟨fun hc => ?_, fun hc => ?_⟩
              · have hF := hF.1 hc
                refine go_iload dX12_farOf_127 rfl ?_
                refine go_istore (L' := [.ref (ga G 273), .int l1, .int l2, .int l3, .int l4, .int x2]) dX12_farOf_129 (Nat.le_of_ble_eq_true rfl) rfl ?_
                refine go_aload_n dX12_farOf_131 rfl ?_
                refine go_getR (k := 30) (r := 289) dX12_farOf_132 sh_273 rfl inX12 (Nat.le_of_ble_eq_true rfl) lf_X12_64 rfl rfl ?_
                refine go_bipush (v := 25) dX12_farOf_135 (by decide) ?_
                refine go_iload_n dX12_farOf_137 rfl ?_
                refine go_imul dX12_farOf_138 ?_
                refine go_iload dX12_farOf_139 rfl ?_
                refine go_iadd dX12_farOf_141 ?_
                refine go_iconst (v := 1) dX12_farOf_142 (by decide) ?_
                refine go_isub dX12_farOf_143 ?_
                obtain ⟨hi, hF⟩ := hF
                refine go_iald dX12_farOf_144 sh_289 hi ?_
                refine go_iconst (v := 1) dX12_farOf_145 (by decide) ?_
                refine go_iadd dX12_farOf_146 ?_
                refine go_iload dX12_farOf_147 rfl ?_
                refine go_icmp_ge 171 dX12_farOf_149 rfl ⟨fun hc => ?_, fun hc => ?_⟩
                · have hF := hF.1 hc
                  refine go_iload dX12_farOf_171 rfl ?_
                  refine go_istore (L' := [.ref (ga G 273), .int l1, .int l2, .int l3, .int l4, .int x2]) dX12_farOf_173 (Nat.le_of_ble_eq_true rfl) rfl ?_
                  refine go_aload_n dX12_farOf_175 rfl ?_
                  refine go_getR (k := 30) (r := 289) dX12_farOf_176 sh_273 rfl inX12 (Nat.le_of_ble_eq_true rfl) lf_X12_64 rfl rfl ?_
                  refine go_bipush (v := 25) dX12_farOf_179 (by decide) ?_
                  refine go_iload_n dX12_farOf_181 rfl ?_
                  refine go_imul dX12_farOf_182 ?_
                  refine go_iload dX12_farOf_183 rfl ?_
                  refine go_iadd dX12_farOf_185 ?_
                  refine go_iload dX12_farOf_186 rfl ?_
                  obtain ⟨hi, hF⟩ := hF
                  refine go_iast dX12_farOf_188 sh_289 hi ?_
                  obtain ⟨m7, em7⟩ : ∃ z : Mem, z = wI m 289 (((25 : Int32) * l3) + l4).toNatClampNeg x2 := ⟨_, rfl⟩
                  rw [← em7]
                  have hF := hF m7 em7
                  obtain ⟨x8, ex8⟩ : ∃ z : Int32, z = l4 + 1 := ⟨_, rfl⟩
                  have hF := hF x8 ex8
                  refine go_iinc (v := x8) (L' := [.ref (ga G 273), .int l1, .int l2, .int l3, .int x8, .int x2]) dX12_farOf_189 rfl (by rw [ex8]; rfl) (Nat.le_of_ble_eq_true rfl) rfl ?_
                  refine go_goto 10 dX12_farOf_192 rfl ?_
                  exact hF
                · have hF := hF.2 hc
                  refine go_aload_n dX12_farOf_152 rfl ?_
                  refine go_getR (k := 30) (r := 289) dX12_farOf_153 sh_273 rfl inX12 (Nat.le_of_ble_eq_true rfl) lf_X12_64 rfl rfl ?_
                  refine go_bipush (v := 25) dX12_farOf_156 (by decide) ?_
                  refine go_iload_n dX12_farOf_158 rfl ?_
                  refine go_imul dX12_farOf_159 ?_
                  refine go_iload dX12_farOf_160 rfl ?_
                  refine go_iadd dX12_farOf_162 ?_
                  refine go_iconst (v := 1) dX12_farOf_163 (by decide) ?_
                  refine go_isub dX12_farOf_164 ?_
                  obtain ⟨hi, hF⟩ := hF
                  refine go_iald dX12_farOf_165 sh_289 hi ?_
                  refine go_iconst (v := 1) dX12_farOf_166 (by decide) ?_
                  refine go_iadd dX12_farOf_167 ?_
                  refine go_goto 173 dX12_farOf_168 rfl ?_
                  refine Gw.namei (fun x9 ex9 => ?_)
                  have hF := hF x9 ex9
                  refine go_istore (L' := [.ref (ga G 273), .int l1, .int l2, .int l3, .int l4, .int x9]) dX12_farOf_173 (Nat.le_of_ble_eq_true rfl) rfl ?_
                  refine go_aload_n dX12_farOf_175 rfl ?_
                  refine go_getR (k := 30) (r := 289) dX12_farOf_176 sh_273 rfl inX12 (Nat.le_of_ble_eq_true rfl) lf_X12_64 rfl rfl ?_
                  refine go_bipush (v := 25) dX12_farOf_179 (by decide) ?_
                  refine go_iload_n dX12_farOf_181 rfl ?_
                  refine go_imul dX12_farOf_182 ?_
                  refine go_iload dX12_farOf_183 rfl ?_
                  refine go_iadd dX12_farOf_185 ?_
                  refine go_iload dX12_farOf_186 rfl ?_
                  obtain ⟨hi, hF⟩ := hF
                  refine go_iast dX12_farOf_188 sh_289 hi ?_
                  obtain ⟨m10, em10⟩ : ∃ z : Mem, z = wI m 289 (((25 : Int32) * l3) + l4).toNatClampNeg x9 := ⟨_, rfl⟩
                  rw [← em10]
                  have hF := hF m10 em10
                  obtain ⟨x11, ex11⟩ : ∃ z : Int32, z = l4 + 1 := ⟨_, rfl⟩
                  have hF := hF x11 ex11
                  refine go_iinc (v := x11) (L' := [.ref (ga G 273), .int l1, .int l2, .int l3, .int x11, .int x9]) dX12_farOf_189 rfl (by rw [ex11]; rfl) (Nat.le_of_ble_eq_true rfl) rfl ?_
                  refine go_goto 10 dX12_farOf_192 rfl ?_
                  exact hF
              · have hF := hF.2 hc
                refine go_aload_n dX12_farOf_108 rfl ?_
                refine go_getR (k := 30) (r := 289) dX12_farOf_109 sh_273 rfl inX12 (Nat.le_of_ble_eq_true rfl) lf_X12_64 rfl rfl ?_
                refine go_bipush (v := 25) dX12_farOf_112 (by decide) ?_
                refine go_iload_n dX12_farOf_114 rfl ?_
                refine go_iconst (v := 1) dX12_farOf_115 (by decide) ?_
                refine go_isub dX12_farOf_116 ?_
                refine go_imul dX12_farOf_117 ?_
                refine go_iload dX12_farOf_118 rfl ?_
                refine go_iadd dX12_farOf_120 ?_
                obtain ⟨hi, hF⟩ := hF
                refine go_iald dX12_farOf_121 sh_289 hi ?_
                refine go_iconst (v := 1) dX12_farOf_122 (by decide) ?_
                refine go_iadd dX12_farOf_123 ?_
                refine go_goto 129 dX12_farOf_124 rfl ?_
                refine Gw.namei (fun x12 ex12 => ?_)
                have hF := hF x12 ex12
                refine go_istore (L' := [.ref (ga G 273), .int l1, .int l2, .int l3, .int l4, .int x12]) dX12_farOf_129 (Nat.le_of_ble_eq_true rfl) rfl ?_
                refine go_aload_n dX12_farOf_131 rfl ?_
                refine go_getR (k := 30) (r := 289) dX12_farOf_132 sh_273 rfl inX12 (Nat.le_of_ble_eq_true rfl) lf_X12_64 rfl rfl ?_
                refine go_bipush (v := 25) dX12_farOf_135 (by decide) ?_
                refine go_iload_n dX12_farOf_137 rfl ?_
                refine go_imul dX12_farOf_138 ?_
                refine go_iload dX12_farOf_139 rfl ?_
                refine go_iadd dX12_farOf_141 ?_
                refine go_iconst (v := 1) dX12_farOf_142 (by decide) ?_
                refine go_isub dX12_farOf_143 ?_
                obtain ⟨hi, hF⟩ := hF
                refine go_iald dX12_farOf_144 sh_289 hi ?_
                refine go_iconst (v := 1) dX12_farOf_145 (by decide) ?_
                refine go_iadd dX12_farOf_146 ?_
                refine go_iload dX12_farOf_147 rfl ?_
                refine go_icmp_ge 171 dX12_farOf_149 rfl ⟨fun hc => ?_, fun hc => ?_⟩
                · have hF := hF.1 hc
                  refine go_iload dX12_farOf_171 rfl ?_
                  refine go_istore (L' := [.ref (ga G 273), .int l1, .int l2, .int l3, .int l4, .int x12]) dX12_farOf_173 (Nat.le_of_ble_eq_true rfl) rfl ?_
                  refine go_aload_n dX12_farOf_175 rfl ?_
                  refine go_getR (k := 30) (r := 289) dX12_farOf_176 sh_273 rfl inX12 (Nat.le_of_ble_eq_true rfl) lf_X12_64 rfl rfl ?_
                  refine go_bipush (v := 25) dX12_farOf_179 (by decide) ?_
                  refine go_iload_n dX12_farOf_181 rfl ?_
                  refine go_imul dX12_farOf_182 ?_
                  refine go_iload dX12_farOf_183 rfl ?_
                  refine go_iadd dX12_farOf_185 ?_
                  refine go_iload dX12_farOf_186 rfl ?_
                  obtain ⟨hi, hF⟩ := hF
                  refine go_iast dX12_farOf_188 sh_289 hi ?_
                  obtain ⟨m13, em13⟩ : ∃ z : Mem, z = wI m 289 (((25 : Int32) * l3) + l4).toNatClampNeg x12 := ⟨_, rfl⟩
                  rw [← em13]
                  have hF := hF m13 em13
                  obtain ⟨x14, ex14⟩ : ∃ z : Int32, z = l4 + 1 := ⟨_, rfl⟩
                  have hF := hF x14 ex14
                  refine go_iinc (v := x14) (L' := [.ref (ga G 273), .int l1, .int l2, .int l3, .int x14, .int x12]) dX12_farOf_189 rfl (by rw [ex14]; rfl) (Nat.le_of_ble_eq_true rfl) rfl ?_
                  refine go_goto 10 dX12_farOf_192 rfl ?_
                  exact hF
                · have hF := hF.2 hc
                  refine go_aload_n dX12_farOf_152 rfl ?_
                  refine go_getR (k := 30) (r := 289) dX12_farOf_153 sh_273 rfl inX12 (Nat.le_of_ble_eq_true rfl) lf_X12_64 rfl rfl ?_
                  refine go_bipush (v := 25) dX12_farOf_156 (by decide) ?_
                  refine go_iload_n dX12_farOf_158 rfl ?_
                  refine go_imul dX12_farOf_159 ?_
                  refine go_iload dX12_farOf_160 rfl ?_
                  refine go_iadd dX12_farOf_162 ?_
                  refine go_iconst (v := 1) dX12_farOf_163 (by decide) ?_
                  refine go_isub dX12_farOf_164 ?_
                  obtain ⟨hi, hF⟩ := hF
                  refine go_iald dX12_farOf_165 sh_289 hi ?_
                  refine go_iconst (v := 1) dX12_farOf_166 (by decide) ?_
                  refine go_iadd dX12_farOf_167 ?_
                  refine go_goto 173 dX12_farOf_168 rfl ?_
                  refine Gw.namei (fun x15 ex15 => ?_)
                  have hF := hF x15 ex15
                  refine go_istore (L' := [.ref (ga G 273), .int l1, .int l2, .int l3, .int l4, .int x15]) dX12_farOf_173 (Nat.le_of_ble_eq_true rfl) rfl ?_
                  refine go_aload_n dX12_farOf_175 rfl ?_
                  refine go_getR (k := 30) (r := 289) dX12_farOf_176 sh_273 rfl inX12 (Nat.le_of_ble_eq_true rfl) lf_X12_64 rfl rfl ?_
                  refine go_bipush (v := 25) dX12_farOf_179 (by decide) ?_
                  refine go_iload_n dX12_farOf_181 rfl ?_
                  refine go_imul dX12_farOf_182 ?_
                  refine go_iload dX12_farOf_183 rfl ?_
                  refine go_iadd dX12_farOf_185 ?_
                  refine go_iload dX12_farOf_186 rfl ?_
                  obtain ⟨hi, hF⟩ := hF
                  refine go_iast dX12_farOf_188 sh_289 hi ?_
                  obtain ⟨m16, em16⟩ : ∃ z : Mem, z = wI m 289 (((25 : Int32) * l3) + l4).toNatClampNeg x15 := ⟨_, rfl⟩
                  rw [← em16]
                  have hF := hF m16 em16
                  obtain ⟨x17, ex17⟩ : ∃ z : Int32, z = l4 + 1 := ⟨_, rfl⟩
                  have hF := hF x17 ex17
                  refine go_iinc (v := x17) (L' := [.ref (ga G 273), .int l1, .int l2, .int l3, .int x17, .int x15]) dX12_farOf_189 rfl (by rw [ex17]; rfl) (Nat.le_of_ble_eq_true rfl) rfl ?_
                  refine go_goto 10 dX12_farOf_192 rfl ?_
                  exact hF
        · have hF := hF.2 hc
          refine go_iconst (v := 0) dX12_farOf_70 (by decide) ?_
          refine go_goto 75 dX12_farOf_71 rfl ?_
          refine go_iadd dX12_farOf_75 ?_
          refine Gw.namei (fun x18 ex18 => ?_)
          have hF := hF x18 ex18
          refine go_istore (L' := [.ref (ga G 273), .int l1, .int l2, .int l3, .int l4, .int x18]) dX12_farOf_76 (Nat.le_of_ble_eq_true rfl) rfl ?_
          refine go_iload_n dX12_farOf_78 rfl ?_
          refine go_if_le 175 dX12_farOf_79 rfl ⟨fun hc => ?_, fun hc => ?_⟩
          · have hF := hF.1 hc
            refine go_aload_n dX12_farOf_175 rfl ?_
            refine go_getR (k := 30) (r := 289) dX12_farOf_176 sh_273 rfl inX12 (Nat.le_of_ble_eq_true rfl) lf_X12_64 rfl rfl ?_
            refine go_bipush (v := 25) dX12_farOf_179 (by decide) ?_
            refine go_iload_n dX12_farOf_181 rfl ?_
            refine go_imul dX12_farOf_182 ?_
            refine go_iload dX12_farOf_183 rfl ?_
            refine go_iadd dX12_farOf_185 ?_
            refine go_iload dX12_farOf_186 rfl ?_
            obtain ⟨hi, hF⟩ := hF
            refine go_iast dX12_farOf_188 sh_289 hi ?_
            obtain ⟨m19, em19⟩ : ∃ z : Mem, z = wI m 289 (((25 : Int32) * l3) + l4).toNatClampNeg x18 := ⟨_, rfl⟩
            rw [← em19]
            have hF := hF m19 em19
            obtain ⟨x20, ex20⟩ : ∃ z : Int32, z = l4 + 1 := ⟨_, rfl⟩
            have hF := hF x20 ex20
            refine go_iinc (v := x20) (L' := [.ref (ga G 273), .int l1, .int l2, .int l3, .int x20, .int x18]) dX12_farOf_189 rfl (by rw [ex20]; rfl) (Nat.le_of_ble_eq_true rfl) rfl ?_
            refine go_goto 10 dX12_farOf_192 rfl ?_
            exact hF
          · have hF := hF.2 hc
            refine go_iload dX12_farOf_82 rfl ?_
            refine go_if_le 175 dX12_farOf_84 rfl ⟨fun hc => ?_, fun hc => ?_⟩
            · have hF := hF.1 hc
              refine go_aload_n dX12_farOf_175 rfl ?_
              refine go_getR (k := 30) (r := 289) dX12_farOf_176 sh_273 rfl inX12 (Nat.le_of_ble_eq_true rfl) lf_X12_64 rfl rfl ?_
              refine go_bipush (v := 25) dX12_farOf_179 (by decide) ?_
              refine go_iload_n dX12_farOf_181 rfl ?_
              refine go_imul dX12_farOf_182 ?_
              refine go_iload dX12_farOf_183 rfl ?_
              refine go_iadd dX12_farOf_185 ?_
              refine go_iload dX12_farOf_186 rfl ?_
              obtain ⟨hi, hF⟩ := hF
              refine go_iast dX12_farOf_188 sh_289 hi ?_
              obtain ⟨m21, em21⟩ : ∃ z : Mem, z = wI m 289 (((25 : Int32) * l3) + l4).toNatClampNeg x18 := ⟨_, rfl⟩
              rw [← em21]
              have hF := hF m21 em21
              obtain ⟨x22, ex22⟩ : ∃ z : Int32, z = l4 + 1 := ⟨_, rfl⟩
              have hF := hF x22 ex22
              refine go_iinc (v := x22) (L' := [.ref (ga G 273), .int l1, .int l2, .int l3, .int x22, .int x18]) dX12_farOf_189 rfl (by rw [ex22]; rfl) (Nat.le_of_ble_eq_true rfl) rfl ?_
              refine go_goto 10 dX12_farOf_192 rfl ?_
              exact hF
            · have hF := hF.2 hc
              refine go_aload_n dX12_farOf_87 rfl ?_
              refine go_getR (k := 30) (r := 289) dX12_farOf_88 sh_273 rfl inX12 (Nat.le_of_ble_eq_true rfl) lf_X12_64 rfl rfl ?_
              refine go_bipush (v := 25) dX12_farOf_91 (by decide) ?_
              refine go_iload_n dX12_farOf_93 rfl ?_
              refine go_iconst (v := 1) dX12_farOf_94 (by decide) ?_
              refine go_isub dX12_farOf_95 ?_
              refine go_imul dX12_farOf_96 ?_
              refine go_iload dX12_farOf_97 rfl ?_
              refine go_iadd dX12_farOf_99 ?_
              obtain ⟨hi, hF⟩ := hF
              refine go_iald dX12_farOf_100 sh_289 hi ?_
              refine go_iconst (v := 1) dX12_farOf_101 (by decide) ?_
              refine go_iadd dX12_farOf_102 ?_
              refine go_iload dX12_farOf_103 rfl ?_
              refine go_icmp_ge 127 dX12_farOf_105 rfl ⟨fun hc => ?_, fun hc => ?_⟩
              · have hF := hF.1 hc
                refine go_iload dX12_farOf_127 rfl ?_
                refine go_istore (L' := [.ref (ga G 273), .int l1, .int l2, .int l3, .int l4, .int x18]) dX12_farOf_129 (Nat.le_of_ble_eq_true rfl) rfl ?_
                refine go_aload_n dX12_farOf_131 rfl ?_
                refine go_getR (k := 30) (r := 289) dX12_farOf_132 sh_273 rfl inX12 (Nat.le_of_ble_eq_true rfl) lf_X12_64 rfl rfl ?_
                refine go_bipush (v := 25) dX12_farOf_135 (by decide) ?_
                refine go_iload_n dX12_farOf_137 rfl ?_
                refine go_imul dX12_farOf_138 ?_
                refine go_iload dX12_farOf_139 rfl ?_
                refine go_iadd dX12_farOf_141 ?_
                refine go_iconst (v := 1) dX12_farOf_142 (by decide) ?_
                refine go_isub dX12_farOf_143 ?_
                obtain ⟨hi, hF⟩ := hF
                refine go_iald dX12_farOf_144 sh_289 hi ?_
                refine go_iconst (v := 1) dX12_farOf_145 (by decide) ?_
                refine go_iadd dX12_farOf_146 ?_
                refine go_iload dX12_farOf_147 rfl ?_
                refine go_icmp_ge 171 dX12_farOf_149 rfl ⟨fun hc => ?_, fun hc => ?_⟩
                · have hF := hF.1 hc
                  refine go_iload dX12_farOf_171 rfl ?_
                  refine go_istore (L' := [.ref (ga G 273), .int l1, .int l2, .int l3, .int l4, .int x18]) dX12_farOf_173 (Nat.le_of_ble_eq_true rfl) rfl ?_
                  refine go_aload_n dX12_farOf_175 rfl ?_
                  refine go_getR (k := 30) (r := 289) dX12_farOf_176 sh_273 rfl inX12 (Nat.le_of_ble_eq_true rfl) lf_X12_64 rfl rfl ?_
                  refine go_bipush (v := 25) dX12_farOf_179 (by decide) ?_
                  refine go_iload_n dX12_farOf_181 rfl ?_
                  refine go_imul dX12_farOf_182 ?_
                  refine go_iload dX12_farOf_183 rfl ?_
                  refine go_iadd dX12_farOf_185 ?_
                  refine go_iload dX12_farOf_186 rfl ?_
                  obtain ⟨hi, hF⟩ := hF
                  refine go_iast dX12_farOf_188 sh_289 hi ?_
                  obtain ⟨m23, em23⟩ : ∃ z : Mem, z = wI m 289 (((25 : Int32) * l3) + l4).toNatClampNeg x18 := ⟨_, rfl⟩
                  rw [← em23]
                  have hF := hF m23 em23
                  obtain ⟨x24, ex24⟩ : ∃ z : Int32, z = l4 + 1 := ⟨_, rfl⟩
                  have hF := hF x24 ex24
                  refine go_iinc (v := x24) (L' := [.ref (ga G 273), .int l1, .int l2, .int l3, .int x24, .int x18]) dX12_farOf_189 rfl (by rw [ex24]; rfl) (Nat.le_of_ble_eq_true rfl) rfl ?_
                  refine go_goto 10 dX12_farOf_192 rfl ?_
                  exact hF
                · have hF := hF.2 hc
                  refine go_aload_n dX12_farOf_152 rfl ?_
                  refine go_getR (k := 30) (r := 289) dX12_farOf_153 sh_273 rfl inX12 (Nat.le_of_ble_eq_true rfl) lf_X12_64 rfl rfl ?_
                  refine go_bipush (v := 25) dX12_farOf_156 (by decide) ?_
                  refine go_iload_n dX12_farOf_158 rfl ?_
                  refine go_imul dX12_farOf_159 ?_
                  refine go_iload dX12_farOf_160 rfl ?_
                  refine go_iadd dX12_farOf_162 ?_
                  refine go_iconst (v := 1) dX12_farOf_163 (by decide) ?_
                  refine go_isub dX12_farOf_164 ?_
                  obtain ⟨hi, hF⟩ := hF
                  refine go_iald dX12_farOf_165 sh_289 hi ?_
                  refine go_iconst (v := 1) dX12_farOf_166 (by decide) ?_
                  refine go_iadd dX12_farOf_167 ?_
                  refine go_goto 173 dX12_farOf_168 rfl ?_
                  refine Gw.namei (fun x25 ex25 => ?_)
                  have hF := hF x25 ex25
                  refine go_istore (L' := [.ref (ga G 273), .int l1, .int l2, .int l3, .int l4, .int x25]) dX12_farOf_173 (Nat.le_of_ble_eq_true rfl) rfl ?_
                  refine go_aload_n dX12_farOf_175 rfl ?_
                  refine go_getR (k := 30) (r := 289) dX12_farOf_176 sh_273 rfl inX12 (Nat.le_of_ble_eq_true rfl) lf_X12_64 rfl rfl ?_
                  refine go_bipush (v := 25) dX12_farOf_179 (by decide) ?_
                  refine go_iload_n dX12_farOf_181 rfl ?_
                  refine go_imul dX12_farOf_182 ?_
                  refine go_iload dX12_farOf_183 rfl ?_
                  refine go_iadd dX12_farOf_185 ?_
                  refine go_iload dX12_farOf_186 rfl ?_
                  obtain ⟨hi, hF⟩ := hF
                  refine go_iast dX12_farOf_188 sh_289 hi ?_
                  obtain ⟨m26, em26⟩ : ∃ z : Mem, z = wI m 289 (((25 : Int32) * l3) + l4).toNatClampNeg x25 := ⟨_, rfl⟩
                  rw [← em26]
                  have hF := hF m26 em26
                  obtain ⟨x27, ex27⟩ : ∃ z : Int32, z = l4 + 1 := ⟨_, rfl⟩
                  have hF := hF x27 ex27
                  refine go_iinc (v := x27) (L' := [.ref (ga G 273), .int l1, .int l2, .int l3, .int x27, .int x25]) dX12_farOf_189 rfl (by rw [ex27]; rfl) (Nat.le_of_ble_eq_true rfl) rfl ?_
                  refine go_goto 10 dX12_farOf_192 rfl ?_
                  exact hF
              · have hF := hF.2 hc
                refine go_aload_n dX12_farOf_108 rfl ?_
                refine go_getR (k := 30) (r := 289) dX12_farOf_109 sh_273 rfl inX12 (Nat.le_of_ble_eq_true rfl) lf_X12_64 rfl rfl ?_
                refine go_bipush (v := 25) dX12_farOf_112 (by decide) ?_
                refine go_iload_n dX12_farOf_114 rfl ?_
                refine go_iconst (v := 1) dX12_farOf_115 (by decide) ?_
                refine go_isub dX12_farOf_116 ?_
                refine go_imul dX12_farOf_117 ?_
                refine go_iload dX12_farOf_118 rfl ?_
                refine go_iadd dX12_farOf_120 ?_
                obtain ⟨hi, hF⟩ := hF
                refine go_iald dX12_farOf_121 sh_289 hi ?_
                refine go_iconst (v := 1) dX12_farOf_122 (by decide) ?_
                refine go_iadd dX12_farOf_123 ?_
                refine go_goto 129 dX12_farOf_124 rfl ?_
                refine Gw.namei (fun x28 ex28 => ?_)
                have hF := hF x28 ex28
                refine go_istore (L' := [.ref (ga G 273), .int l1, .int l2, .int l3, .int l4, .int x28]) dX12_farOf_129 (Nat.le_of_ble_eq_true rfl) rfl ?_
                refine go_aload_n dX12_farOf_131 rfl ?_
                refine go_getR (k := 30) (r := 289) dX12_farOf_132 sh_273 rfl inX12 (Nat.le_of_ble_eq_true rfl) lf_X12_64 rfl rfl ?_
                refine go_bipush (v := 25) dX12_farOf_135 (by decide) ?_
                refine go_iload_n dX12_farOf_137 rfl ?_
                refine go_imul dX12_farOf_138 ?_
                refine go_iload dX12_farOf_139 rfl ?_
                refine go_iadd dX12_farOf_141 ?_
                refine go_iconst (v := 1) dX12_farOf_142 (by decide) ?_
                refine go_isub dX12_farOf_143 ?_
                obtain ⟨hi, hF⟩ := hF
                refine go_iald dX12_farOf_144 sh_289 hi ?_
                refine go_iconst (v := 1) dX12_farOf_145 (by decide) ?_
                refine go_iadd dX12_farOf_146 ?_
                refine go_iload dX12_farOf_147 rfl ?_
                refine go_icmp_ge 171 dX12_farOf_149 rfl ⟨fun hc => ?_, fun hc => ?_⟩
                · have hF := hF.1 hc
                  refine go_iload dX12_farOf_171 rfl ?_
                  refine go_istore (L' := [.ref (ga G 273), .int l1, .int l2, .int l3, .int l4, .int x28]) dX12_farOf_173 (Nat.le_of_ble_eq_true rfl) rfl ?_
                  refine go_aload_n dX12_farOf_175 rfl ?_
                  refine go_getR (k := 30) (r := 289) dX12_farOf_176 sh_273 rfl inX12 (Nat.le_of_ble_eq_true rfl) lf_X12_64 rfl rfl ?_
                  refine go_bipush (v := 25) dX12_farOf_179 (by decide) ?_
                  refine go_iload_n dX12_farOf_181 rfl ?_
                  refine go_imul dX12_farOf_182 ?_
                  refine go_iload dX12_farOf_183 rfl ?_
                  refine go_iadd dX12_farOf_185 ?_
                  refine go_iload dX12_farOf_186 rfl ?_
                  obtain ⟨hi, hF⟩ := hF
                  refine go_iast dX12_farOf_188 sh_289 hi ?_
                  obtain ⟨m29, em29⟩ : ∃ z : Mem, z = wI m 289 (((25 : Int32) * l3) + l4).toNatClampNeg x28 := ⟨_, rfl⟩
                  rw [← em29]
                  have hF := hF m29 em29
                  obtain ⟨x30, ex30⟩ : ∃ z : Int32, z = l4 + 1 := ⟨_, rfl⟩
                  have hF := hF x30 ex30
                  refine go_iinc (v := x30) (L' := [.ref (ga G 273), .int l1, .int l2, .int l3, .int x30, .int x28]) dX12_farOf_189 rfl (by rw [ex30]; rfl) (Nat.le_of_ble_eq_true rfl) rfl ?_
                  refine go_goto 10 dX12_farOf_192 rfl ?_
                  exact hF
                · have hF := hF.2 hc
                  refine go_aload_n dX12_farOf_152 rfl ?_
                  refine go_getR (k := 30) (r := 289) dX12_farOf_153 sh_273 rfl inX12 (Nat.le_of_ble_eq_true rfl) lf_X12_64 rfl rfl ?_
                  refine go_bipush (v := 25) dX12_farOf_156 (by decide) ?_
                  refine go_iload_n dX12_farOf_158 rfl ?_
                  refine go_imul dX12_farOf_159 ?_
                  refine go_iload dX12_farOf_160 rfl ?_
                  refine go_iadd dX12_farOf_162 ?_
                  refine go_iconst (v := 1) dX12_farOf_163 (by decide) ?_
                  refine go_isub dX12_farOf_164 ?_
                  obtain ⟨hi, hF⟩ := hF
                  refine go_iald dX12_farOf_165 sh_289 hi ?_
                  refine go_iconst (v := 1) dX12_farOf_166 (by decide) ?_
                  refine go_iadd dX12_farOf_167 ?_
                  refine go_goto 173 dX12_farOf_168 rfl ?_
                  refine Gw.namei (fun x31 ex31 => ?_)
                  have hF := hF x31 ex31
                  refine go_istore (L' := [.ref (ga G 273), .int l1, .int l2, .int l3, .int l4, .int x31]) dX12_farOf_173 (Nat.le_of_ble_eq_true rfl) rfl ?_
                  refine go_aload_n dX12_farOf_175 rfl ?_
                  refine go_getR (k := 30) (r := 289) dX12_farOf_176 sh_273 rfl inX12 (Nat.le_of_ble_eq_true rfl) lf_X12_64 rfl rfl ?_
                  refine go_bipush (v := 25) dX12_farOf_179 (by decide) ?_
                  refine go_iload_n dX12_farOf_181 rfl ?_
                  refine go_imul dX12_farOf_182 ?_
                  refine go_iload dX12_farOf_183 rfl ?_
                  refine go_iadd dX12_farOf_185 ?_
                  refine go_iload dX12_farOf_186 rfl ?_
                  obtain ⟨hi, hF⟩ := hF
                  refine go_iast dX12_farOf_188 sh_289 hi ?_
                  obtain ⟨m32, em32⟩ : ∃ z : Mem, z = wI m 289 (((25 : Int32) * l3) + l4).toNatClampNeg x31 := ⟨_, rfl⟩
                  rw [← em32]
                  have hF := hF m32 em32
                  obtain ⟨x33, ex33⟩ : ∃ z : Int32, z = l4 + 1 := ⟨_, rfl⟩
                  have hF := hF x33 ex33
                  refine go_iinc (v := x33) (L' := [.ref (ga G 273), .int l1, .int l2, .int l3, .int x33, .int x31]) dX12_farOf_189 rfl (by rw [ex33]; rfl) (Nat.le_of_ble_eq_true rfl) rfl ?_
                  refine go_goto 10 dX12_farOf_192 rfl ?_
                  exact hF
      · have hF := hF.2 hc
        refine go_iload_n dX12_farOf_30 rfl ?_
        refine go_goto 76 dX12_farOf_31 rfl ?_
        refine go_istore (L' := [.ref (ga G 273), .int l1, .int l2, .int l3, .int l4, .int l3]) dX12_farOf_76 (Nat.le_of_ble_eq_true rfl) rfl ?_
        refine go_iload_n dX12_farOf_78 rfl ?_
        refine go_if_le 175 dX12_farOf_79 rfl ⟨fun hc => ?_, fun hc => ?_⟩
        · have hF := hF.1 hc
          refine go_aload_n dX12_farOf_175 rfl ?_
          refine go_getR (k := 30) (r := 289) dX12_farOf_176 sh_273 rfl inX12 (Nat.le_of_ble_eq_true rfl) lf_X12_64 rfl rfl ?_
          refine go_bipush (v := 25) dX12_farOf_179 (by decide) ?_
          refine go_iload_n dX12_farOf_181 rfl ?_
          refine go_imul dX12_farOf_182 ?_
          refine go_iload dX12_farOf_183 rfl ?_
          refine go_iadd dX12_farOf_185 ?_
          refine go_iload dX12_farOf_186 rfl ?_
          obtain ⟨hi, hF⟩ := hF
          refine go_iast dX12_farOf_188 sh_289 hi ?_
          obtain ⟨m34, em34⟩ : ∃ z : Mem, z = wI m 289 (((25 : Int32) * l3) + l4).toNatClampNeg l3 := ⟨_, rfl⟩
          rw [← em34]
          have hF := hF m34 em34
          obtain ⟨x35, ex35⟩ : ∃ z : Int32, z = l4 + 1 := ⟨_, rfl⟩
          have hF := hF x35 ex35
          refine go_iinc (v := x35) (L' := [.ref (ga G 273), .int l1, .int l2, .int l3, .int x35, .int l3]) dX12_farOf_189 rfl (by rw [ex35]; rfl) (Nat.le_of_ble_eq_true rfl) rfl ?_
          refine go_goto 10 dX12_farOf_192 rfl ?_
          exact hF
        · have hF := hF.2 hc
          refine go_iload dX12_farOf_82 rfl ?_
          refine go_if_le 175 dX12_farOf_84 rfl ⟨fun hc => ?_, fun hc => ?_⟩
          · have hF := hF.1 hc
            refine go_aload_n dX12_farOf_175 rfl ?_
            refine go_getR (k := 30) (r := 289) dX12_farOf_176 sh_273 rfl inX12 (Nat.le_of_ble_eq_true rfl) lf_X12_64 rfl rfl ?_
            refine go_bipush (v := 25) dX12_farOf_179 (by decide) ?_
            refine go_iload_n dX12_farOf_181 rfl ?_
            refine go_imul dX12_farOf_182 ?_
            refine go_iload dX12_farOf_183 rfl ?_
            refine go_iadd dX12_farOf_185 ?_
            refine go_iload dX12_farOf_186 rfl ?_
            obtain ⟨hi, hF⟩ := hF
            refine go_iast dX12_farOf_188 sh_289 hi ?_
            obtain ⟨m36, em36⟩ : ∃ z : Mem, z = wI m 289 (((25 : Int32) * l3) + l4).toNatClampNeg l3 := ⟨_, rfl⟩
            rw [← em36]
            have hF := hF m36 em36
            obtain ⟨x37, ex37⟩ : ∃ z : Int32, z = l4 + 1 := ⟨_, rfl⟩
            have hF := hF x37 ex37
            refine go_iinc (v := x37) (L' := [.ref (ga G 273), .int l1, .int l2, .int l3, .int x37, .int l3]) dX12_farOf_189 rfl (by rw [ex37]; rfl) (Nat.le_of_ble_eq_true rfl) rfl ?_
            refine go_goto 10 dX12_farOf_192 rfl ?_
            exact hF
          · have hF := hF.2 hc
            refine go_aload_n dX12_farOf_87 rfl ?_
            refine go_getR (k := 30) (r := 289) dX12_farOf_88 sh_273 rfl inX12 (Nat.le_of_ble_eq_true rfl) lf_X12_64 rfl rfl ?_
            refine go_bipush (v := 25) dX12_farOf_91 (by decide) ?_
            refine go_iload_n dX12_farOf_93 rfl ?_
            refine go_iconst (v := 1) dX12_farOf_94 (by decide) ?_
            refine go_isub dX12_farOf_95 ?_
            refine go_imul dX12_farOf_96 ?_
            refine go_iload dX12_farOf_97 rfl ?_
            refine go_iadd dX12_farOf_99 ?_
            obtain ⟨hi, hF⟩ := hF
            refine go_iald dX12_farOf_100 sh_289 hi ?_
            refine go_iconst (v := 1) dX12_farOf_101 (by decide) ?_
            refine go_iadd dX12_farOf_102 ?_
            refine go_iload dX12_farOf_103 rfl ?_
            refine go_icmp_ge 127 dX12_farOf_105 rfl ⟨fun hc => ?_, fun hc => ?_⟩
            · have hF := hF.1 hc
              refine go_iload dX12_farOf_127 rfl ?_
              refine go_istore (L' := [.ref (ga G 273), .int l1, .int l2, .int l3, .int l4, .int l3]) dX12_farOf_129 (Nat.le_of_ble_eq_true rfl) rfl ?_
              refine go_aload_n dX12_farOf_131 rfl ?_
              refine go_getR (k := 30) (r := 289) dX12_farOf_132 sh_273 rfl inX12 (Nat.le_of_ble_eq_true rfl) lf_X12_64 rfl rfl ?_
              refine go_bipush (v := 25) dX12_farOf_135 (by decide) ?_
              refine go_iload_n dX12_farOf_137 rfl ?_
              refine go_imul dX12_farOf_138 ?_
              refine go_iload dX12_farOf_139 rfl ?_
              refine go_iadd dX12_farOf_141 ?_
              refine go_iconst (v := 1) dX12_farOf_142 (by decide) ?_
              refine go_isub dX12_farOf_143 ?_
              obtain ⟨hi, hF⟩ := hF
              refine go_iald dX12_farOf_144 sh_289 hi ?_
              refine go_iconst (v := 1) dX12_farOf_145 (by decide) ?_
              refine go_iadd dX12_farOf_146 ?_
              refine go_iload dX12_farOf_147 rfl ?_
              refine go_icmp_ge 171 dX12_farOf_149 rfl ⟨fun hc => ?_, fun hc => ?_⟩
              · have hF := hF.1 hc
                refine go_iload dX12_farOf_171 rfl ?_
                refine go_istore (L' := [.ref (ga G 273), .int l1, .int l2, .int l3, .int l4, .int l3]) dX12_farOf_173 (Nat.le_of_ble_eq_true rfl) rfl ?_
                refine go_aload_n dX12_farOf_175 rfl ?_
                refine go_getR (k := 30) (r := 289) dX12_farOf_176 sh_273 rfl inX12 (Nat.le_of_ble_eq_true rfl) lf_X12_64 rfl rfl ?_
                refine go_bipush (v := 25) dX12_farOf_179 (by decide) ?_
                refine go_iload_n dX12_farOf_181 rfl ?_
                refine go_imul dX12_farOf_182 ?_
                refine go_iload dX12_farOf_183 rfl ?_
                refine go_iadd dX12_farOf_185 ?_
                refine go_iload dX12_farOf_186 rfl ?_
                obtain ⟨hi, hF⟩ := hF
                refine go_iast dX12_farOf_188 sh_289 hi ?_
                obtain ⟨m38, em38⟩ : ∃ z : Mem, z = wI m 289 (((25 : Int32) * l3) + l4).toNatClampNeg l3 := ⟨_, rfl⟩
                rw [← em38]
                have hF := hF m38 em38
                obtain ⟨x39, ex39⟩ : ∃ z : Int32, z = l4 + 1 := ⟨_, rfl⟩
                have hF := hF x39 ex39
                refine go_iinc (v := x39) (L' := [.ref (ga G 273), .int l1, .int l2, .int l3, .int x39, .int l3]) dX12_farOf_189 rfl (by rw [ex39]; rfl) (Nat.le_of_ble_eq_true rfl) rfl ?_
                refine go_goto 10 dX12_farOf_192 rfl ?_
                exact hF
              · have hF := hF.2 hc
                refine go_aload_n dX12_farOf_152 rfl ?_
                refine go_getR (k := 30) (r := 289) dX12_farOf_153 sh_273 rfl inX12 (Nat.le_of_ble_eq_true rfl) lf_X12_64 rfl rfl ?_
                refine go_bipush (v := 25) dX12_farOf_156 (by decide) ?_
                refine go_iload_n dX12_farOf_158 rfl ?_
                refine go_imul dX12_farOf_159 ?_
                refine go_iload dX12_farOf_160 rfl ?_
                refine go_iadd dX12_farOf_162 ?_
                refine go_iconst (v := 1) dX12_farOf_163 (by decide) ?_
                refine go_isub dX12_farOf_164 ?_
                obtain ⟨hi, hF⟩ := hF
                refine go_iald dX12_farOf_165 sh_289 hi ?_
                refine go_iconst (v := 1) dX12_farOf_166 (by decide) ?_
                refine go_iadd dX12_farOf_167 ?_
                refine go_goto 173 dX12_farOf_168 rfl ?_
                refine Gw.namei (fun x40 ex40 => ?_)
                have hF := hF x40 ex40
                refine go_istore (L' := [.ref (ga G 273), .int l1, .int l2, .int l3, .int l4, .int x40]) dX12_farOf_173 (Nat.le_of_ble_eq_true rfl) rfl ?_
                refine go_aload_n dX12_farOf_175 rfl ?_
                refine go_getR (k := 30) (r := 289) dX12_farOf_176 sh_273 rfl inX12 (Nat.le_of_ble_eq_true rfl) lf_X12_64 rfl rfl ?_
                refine go_bipush (v := 25) dX12_farOf_179 (by decide) ?_
                refine go_iload_n dX12_farOf_181 rfl ?_
                refine go_imul dX12_farOf_182 ?_
                refine go_iload dX12_farOf_183 rfl ?_
                refine go_iadd dX12_farOf_185 ?_
                refine go_iload dX12_farOf_186 rfl ?_
                obtain ⟨hi, hF⟩ := hF
                refine go_iast dX12_farOf_188 sh_289 hi ?_
                obtain ⟨m41, em41⟩ : ∃ z : Mem, z = wI m 289 (((25 : Int32) * l3) + l4).toNatClampNeg x40 := ⟨_, rfl⟩
                rw [← em41]
                have hF := hF m41 em41
                obtain ⟨x42, ex42⟩ : ∃ z : Int32, z = l4 + 1 := ⟨_, rfl⟩
                have hF := hF x42 ex42
                refine go_iinc (v := x42) (L' := [.ref (ga G 273), .int l1, .int l2, .int l3, .int x42, .int x40]) dX12_farOf_189 rfl (by rw [ex42]; rfl) (Nat.le_of_ble_eq_true rfl) rfl ?_
                refine go_goto 10 dX12_farOf_192 rfl ?_
                exact hF
            · have hF := hF.2 hc
              refine go_aload_n dX12_farOf_108 rfl ?_
              refine go_getR (k := 30) (r := 289) dX12_farOf_109 sh_273 rfl inX12 (Nat.le_of_ble_eq_true rfl) lf_X12_64 rfl rfl ?_
              refine go_bipush (v := 25) dX12_farOf_112 (by decide) ?_
              refine go_iload_n dX12_farOf_114 rfl ?_
              refine go_iconst (v := 1) dX12_farOf_115 (by decide) ?_
              refine go_isub dX12_farOf_116 ?_
              refine go_imul dX12_farOf_117 ?_
              refine go_iload dX12_farOf_118 rfl ?_
              refine go_iadd dX12_farOf_120 ?_
              obtain ⟨hi, hF⟩ := hF
              refine go_iald dX12_farOf_121 sh_289 hi ?_
              refine go_iconst (v := 1) dX12_farOf_122 (by decide) ?_
              refine go_iadd dX12_farOf_123 ?_
              refine go_goto 129 dX12_farOf_124 rfl ?_
              refine Gw.namei (fun x43 ex43 => ?_)
              have hF := hF x43 ex43
              refine go_istore (L' := [.ref (ga G 273), .int l1, .int l2, .int l3, .int l4, .int x43]) dX12_farOf_129 (Nat.le_of_ble_eq_true rfl) rfl ?_
              refine go_aload_n dX12_farOf_131 rfl ?_
              refine go_getR (k := 30) (r := 289) dX12_farOf_132 sh_273 rfl inX12 (Nat.le_of_ble_eq_true rfl) lf_X12_64 rfl rfl ?_
              refine go_bipush (v := 25) dX12_farOf_135 (by decide) ?_
              refine go_iload_n dX12_farOf_137 rfl ?_
              refine go_imul dX12_farOf_138 ?_
              refine go_iload dX12_farOf_139 rfl ?_
              refine go_iadd dX12_farOf_141 ?_
              refine go_iconst (v := 1) dX12_farOf_142 (by decide) ?_
              refine go_isub dX12_farOf_143 ?_
              obtain ⟨hi, hF⟩ := hF
              refine go_iald dX12_farOf_144 sh_289 hi ?_
              refine go_iconst (v := 1) dX12_farOf_145 (by decide) ?_
              refine go_iadd dX12_farOf_146 ?_
              refine go_iload dX12_farOf_147 rfl ?_
              refine go_icmp_ge 171 dX12_farOf_149 rfl ⟨fun hc => ?_, fun hc => ?_⟩
              · have hF := hF.1 hc
                refine go_iload dX12_farOf_171 rfl ?_
                refine go_istore (L' := [.ref (ga G 273), .int l1, .int l2, .int l3, .int l4, .int x43]) dX12_farOf_173 (Nat.le_of_ble_eq_true rfl) rfl ?_
                refine go_aload_n dX12_farOf_175 rfl ?_
                refine go_getR (k := 30) (r := 289) dX12_farOf_176 sh_273 rfl inX12 (Nat.le_of_ble_eq_true rfl) lf_X12_64 rfl rfl ?_
                refine go_bipush (v := 25) dX12_farOf_179 (by decide) ?_
                refine go_iload_n dX12_farOf_181 rfl ?_
                refine go_imul dX12_farOf_182 ?_
                refine go_iload dX12_farOf_183 rfl ?_
                refine go_iadd dX12_farOf_185 ?_
                refine go_iload dX12_farOf_186 rfl ?_
                obtain ⟨hi, hF⟩ := hF
                refine go_iast dX12_farOf_188 sh_289 hi ?_
                obtain ⟨m44, em44⟩ : ∃ z : Mem, z = wI m 289 (((25 : Int32) * l3) + l4).toNatClampNeg x43 := ⟨_, rfl⟩
                rw [← em44]
                have hF := hF m44 em44
                obtain ⟨x45, ex45⟩ : ∃ z : Int32, z = l4 + 1 := ⟨_, rfl⟩
                have hF := hF x45 ex45
                refine go_iinc (v := x45) (L' := [.ref (ga G 273), .int l1, .int l2, .int l3, .int x45, .int x43]) dX12_farOf_189 rfl (by rw [ex45]; rfl) (Nat.le_of_ble_eq_true rfl) rfl ?_
                refine go_goto 10 dX12_farOf_192 rfl ?_
                exact hF
              · have hF := hF.2 hc
                refine go_aload_n dX12_farOf_152 rfl ?_
                refine go_getR (k := 30) (r := 289) dX12_farOf_153 sh_273 rfl inX12 (Nat.le_of_ble_eq_true rfl) lf_X12_64 rfl rfl ?_
                refine go_bipush (v := 25) dX12_farOf_156 (by decide) ?_
                refine go_iload_n dX12_farOf_158 rfl ?_
                refine go_imul dX12_farOf_159 ?_
                refine go_iload dX12_farOf_160 rfl ?_
                refine go_iadd dX12_farOf_162 ?_
                refine go_iconst (v := 1) dX12_farOf_163 (by decide) ?_
                refine go_isub dX12_farOf_164 ?_
                obtain ⟨hi, hF⟩ := hF
                refine go_iald dX12_farOf_165 sh_289 hi ?_
                refine go_iconst (v := 1) dX12_farOf_166 (by decide) ?_
                refine go_iadd dX12_farOf_167 ?_
                refine go_goto 173 dX12_farOf_168 rfl ?_
                refine Gw.namei (fun x46 ex46 => ?_)
                have hF := hF x46 ex46
                refine go_istore (L' := [.ref (ga G 273), .int l1, .int l2, .int l3, .int l4, .int x46]) dX12_farOf_173 (Nat.le_of_ble_eq_true rfl) rfl ?_
                refine go_aload_n dX12_farOf_175 rfl ?_
                refine go_getR (k := 30) (r := 289) dX12_farOf_176 sh_273 rfl inX12 (Nat.le_of_ble_eq_true rfl) lf_X12_64 rfl rfl ?_
                refine go_bipush (v := 25) dX12_farOf_179 (by decide) ?_
                refine go_iload_n dX12_farOf_181 rfl ?_
                refine go_imul dX12_farOf_182 ?_
                refine go_iload dX12_farOf_183 rfl ?_
                refine go_iadd dX12_farOf_185 ?_
                refine go_iload dX12_farOf_186 rfl ?_
                obtain ⟨hi, hF⟩ := hF
                refine go_iast dX12_farOf_188 sh_289 hi ?_
                obtain ⟨m47, em47⟩ : ∃ z : Mem, z = wI m 289 (((25 : Int32) * l3) + l4).toNatClampNeg x46 := ⟨_, rfl⟩
                rw [← em47]
                have hF := hF m47 em47
                obtain ⟨x48, ex48⟩ : ∃ z : Int32, z = l4 + 1 := ⟨_, rfl⟩
                have hF := hF x48 ex48
                refine go_iinc (v := x48) (L' := [.ref (ga G 273), .int l1, .int l2, .int l3, .int x48, .int x46]) dX12_farOf_189 rfl (by rw [ex48]; rfl) (Nat.le_of_ble_eq_true rfl) rfl ?_
                refine go_goto 10 dX12_farOf_192 rfl ?_
                exact hF
    · have hF := hF.2 hc
      refine go_iload dX12_farOf_20 rfl ?_
      refine go_goto 76 dX12_farOf_22 rfl ?_
      refine go_istore (L' := [.ref (ga G 273), .int l1, .int l2, .int l3, .int l4, .int l4]) dX12_farOf_76 (Nat.le_of_ble_eq_true rfl) rfl ?_
      refine go_iload_n dX12_farOf_78 rfl ?_
      refine go_if_le 175 dX12_farOf_79 rfl ⟨fun hc => ?_, fun hc => ?_⟩
      · have hF := hF.1 hc
        refine go_aload_n dX12_farOf_175 rfl ?_
        refine go_getR (k := 30) (r := 289) dX12_farOf_176 sh_273 rfl inX12 (Nat.le_of_ble_eq_true rfl) lf_X12_64 rfl rfl ?_
        refine go_bipush (v := 25) dX12_farOf_179 (by decide) ?_
        refine go_iload_n dX12_farOf_181 rfl ?_
        refine go_imul dX12_farOf_182 ?_
        refine go_iload dX12_farOf_183 rfl ?_
        refine go_iadd dX12_farOf_185 ?_
        refine go_iload dX12_farOf_186 rfl ?_
        obtain ⟨hi, hF⟩ := hF
        refine go_iast dX12_farOf_188 sh_289 hi ?_
        obtain ⟨m49, em49⟩ : ∃ z : Mem, z = wI m 289 (((25 : Int32) * l3) + l4).toNatClampNeg l4 := ⟨_, rfl⟩
        rw [← em49]
        have hF := hF m49 em49
        obtain ⟨x50, ex50⟩ : ∃ z : Int32, z = l4 + 1 := ⟨_, rfl⟩
        have hF := hF x50 ex50
        refine go_iinc (v := x50) (L' := [.ref (ga G 273), .int l1, .int l2, .int l3, .int x50, .int l4]) dX12_farOf_189 rfl (by rw [ex50]; rfl) (Nat.le_of_ble_eq_true rfl) rfl ?_
        refine go_goto 10 dX12_farOf_192 rfl ?_
        exact hF
      · have hF := hF.2 hc
        refine go_iload dX12_farOf_82 rfl ?_
        refine go_if_le 175 dX12_farOf_84 rfl ⟨fun hc => ?_, fun hc => ?_⟩
        · have hF := hF.1 hc
          refine go_aload_n dX12_farOf_175 rfl ?_
          refine go_getR (k := 30) (r := 289) dX12_farOf_176 sh_273 rfl inX12 (Nat.le_of_ble_eq_true rfl) lf_X12_64 rfl rfl ?_
          refine go_bipush (v := 25) dX12_farOf_179 (by decide) ?_
          refine go_iload_n dX12_farOf_181 rfl ?_
          refine go_imul dX12_farOf_182 ?_
          refine go_iload dX12_farOf_183 rfl ?_
          refine go_iadd dX12_farOf_185 ?_
          refine go_iload dX12_farOf_186 rfl ?_
          obtain ⟨hi, hF⟩ := hF
          refine go_iast dX12_farOf_188 sh_289 hi ?_
          obtain ⟨m51, em51⟩ : ∃ z : Mem, z = wI m 289 (((25 : Int32) * l3) + l4).toNatClampNeg l4 := ⟨_, rfl⟩
          rw [← em51]
          have hF := hF m51 em51
          obtain ⟨x52, ex52⟩ : ∃ z : Int32, z = l4 + 1 := ⟨_, rfl⟩
          have hF := hF x52 ex52
          refine go_iinc (v := x52) (L' := [.ref (ga G 273), .int l1, .int l2, .int l3, .int x52, .int l4]) dX12_farOf_189 rfl (by rw [ex52]; rfl) (Nat.le_of_ble_eq_true rfl) rfl ?_
          refine go_goto 10 dX12_farOf_192 rfl ?_
          exact hF
        · have hF := hF.2 hc
          refine go_aload_n dX12_farOf_87 rfl ?_
          refine go_getR (k := 30) (r := 289) dX12_farOf_88 sh_273 rfl inX12 (Nat.le_of_ble_eq_true rfl) lf_X12_64 rfl rfl ?_
          refine go_bipush (v := 25) dX12_farOf_91 (by decide) ?_
          refine go_iload_n dX12_farOf_93 rfl ?_
          refine go_iconst (v := 1) dX12_farOf_94 (by decide) ?_
          refine go_isub dX12_farOf_95 ?_
          refine go_imul dX12_farOf_96 ?_
          refine go_iload dX12_farOf_97 rfl ?_
          refine go_iadd dX12_farOf_99 ?_
          obtain ⟨hi, hF⟩ := hF
          refine go_iald dX12_farOf_100 sh_289 hi ?_
          refine go_iconst (v := 1) dX12_farOf_101 (by decide) ?_
          refine go_iadd dX12_farOf_102 ?_
          refine go_iload dX12_farOf_103 rfl ?_
          refine go_icmp_ge 127 dX12_farOf_105 rfl ⟨fun hc => ?_, fun hc => ?_⟩
          · have hF := hF.1 hc
            refine go_iload dX12_farOf_127 rfl ?_
            refine go_istore (L' := [.ref (ga G 273), .int l1, .int l2, .int l3, .int l4, .int l4]) dX12_farOf_129 (Nat.le_of_ble_eq_true rfl) rfl ?_
            refine go_aload_n dX12_farOf_131 rfl ?_
            refine go_getR (k := 30) (r := 289) dX12_farOf_132 sh_273 rfl inX12 (Nat.le_of_ble_eq_true rfl) lf_X12_64 rfl rfl ?_
            refine go_bipush (v := 25) dX12_farOf_135 (by decide) ?_
            refine go_iload_n dX12_farOf_137 rfl ?_
            refine go_imul dX12_farOf_138 ?_
            refine go_iload dX12_farOf_139 rfl ?_
            refine go_iadd dX12_farOf_141 ?_
            refine go_iconst (v := 1) dX12_farOf_142 (by decide) ?_
            refine go_isub dX12_farOf_143 ?_
            obtain ⟨hi, hF⟩ := hF
            refine go_iald dX12_farOf_144 sh_289 hi ?_
            refine go_iconst (v := 1) dX12_farOf_145 (by decide) ?_
            refine go_iadd dX12_farOf_146 ?_
            refine go_iload dX12_farOf_147 rfl ?_
            refine go_icmp_ge 171 dX12_farOf_149 rfl ⟨fun hc => ?_, fun hc => ?_⟩
            · have hF := hF.1 hc
              refine go_iload dX12_farOf_171 rfl ?_
              refine go_istore (L' := [.ref (ga G 273), .int l1, .int l2, .int l3, .int l4, .int l4]) dX12_farOf_173 (Nat.le_of_ble_eq_true rfl) rfl ?_
              refine go_aload_n dX12_farOf_175 rfl ?_
              refine go_getR (k := 30) (r := 289) dX12_farOf_176 sh_273 rfl inX12 (Nat.le_of_ble_eq_true rfl) lf_X12_64 rfl rfl ?_
              refine go_bipush (v := 25) dX12_farOf_179 (by decide) ?_
              refine go_iload_n dX12_farOf_181 rfl ?_
              refine go_imul dX12_farOf_182 ?_
              refine go_iload dX12_farOf_183 rfl ?_
              refine go_iadd dX12_farOf_185 ?_
              refine go_iload dX12_farOf_186 rfl ?_
              obtain ⟨hi, hF⟩ := hF
              refine go_iast dX12_farOf_188 sh_289 hi ?_
              obtain ⟨m53, em53⟩ : ∃ z : Mem, z = wI m 289 (((25 : Int32) * l3) + l4).toNatClampNeg l4 := ⟨_, rfl⟩
              rw [← em53]
              have hF := hF m53 em53
              obtain ⟨x54, ex54⟩ : ∃ z : Int32, z = l4 + 1 := ⟨_, rfl⟩
              have hF := hF x54 ex54
              refine go_iinc (v := x54) (L' := [.ref (ga G 273), .int l1, .int l2, .int l3, .int x54, .int l4]) dX12_farOf_189 rfl (by rw [ex54]; rfl) (Nat.le_of_ble_eq_true rfl) rfl ?_
              refine go_goto 10 dX12_farOf_192 rfl ?_
              exact hF
            · have hF := hF.2 hc
              refine go_aload_n dX12_farOf_152 rfl ?_
              refine go_getR (k := 30) (r := 289) dX12_farOf_153 sh_273 rfl inX12 (Nat.le_of_ble_eq_true rfl) lf_X12_64 rfl rfl ?_
              refine go_bipush (v := 25) dX12_farOf_156 (by decide) ?_
              refine go_iload_n dX12_farOf_158 rfl ?_
              refine go_imul dX12_farOf_159 ?_
              refine go_iload dX12_farOf_160 rfl ?_
              refine go_iadd dX12_farOf_162 ?_
              refine go_iconst (v := 1) dX12_farOf_163 (by decide) ?_
              refine go_isub dX12_farOf_164 ?_
              obtain ⟨hi, hF⟩ := hF
              refine go_iald dX12_farOf_165 sh_289 hi ?_
              refine go_iconst (v := 1) dX12_farOf_166 (by decide) ?_
              refine go_iadd dX12_farOf_167 ?_
              refine go_goto 173 dX12_farOf_168 rfl ?_
              refine Gw.namei (fun x55 ex55 => ?_)
              have hF := hF x55 ex55
              refine go_istore (L' := [.ref (ga G 273), .int l1, .int l2, .int l3, .int l4, .int x55]) dX12_farOf_173 (Nat.le_of_ble_eq_true rfl) rfl ?_
              refine go_aload_n dX12_farOf_175 rfl ?_
              refine go_getR (k := 30) (r := 289) dX12_farOf_176 sh_273 rfl inX12 (Nat.le_of_ble_eq_true rfl) lf_X12_64 rfl rfl ?_
              refine go_bipush (v := 25) dX12_farOf_179 (by decide) ?_
              refine go_iload_n dX12_farOf_181 rfl ?_
              refine go_imul dX12_farOf_182 ?_
              refine go_iload dX12_farOf_183 rfl ?_
              refine go_iadd dX12_farOf_185 ?_
              refine go_iload dX12_farOf_186 rfl ?_
              obtain ⟨hi, hF⟩ := hF
              refine go_iast dX12_farOf_188 sh_289 hi ?_
              obtain ⟨m56, em56⟩ : ∃ z : Mem, z = wI m 289 (((25 : Int32) * l3) + l4).toNatClampNeg x55 := ⟨_, rfl⟩
              rw [← em56]
              have hF := hF m56 em56
              obtain ⟨x57, ex57⟩ : ∃ z : Int32, z = l4 + 1 := ⟨_, rfl⟩
              have hF := hF x57 ex57
              refine go_iinc (v := x57) (L' := [.ref (ga G 273), .int l1, .int l2, .int l3, .int x57, .int x55]) dX12_farOf_189 rfl (by rw [ex57]; rfl) (Nat.le_of_ble_eq_true rfl) rfl ?_
              refine go_goto 10 dX12_farOf_192 rfl ?_
              exact hF
          · have hF := hF.2 hc
            refine go_aload_n dX12_farOf_108 rfl ?_
            refine go_getR (k := 30) (r := 289) dX12_farOf_109 sh_273 rfl inX12 (Nat.le_of_ble_eq_true rfl) lf_X12_64 rfl rfl ?_
            refine go_bipush (v := 25) dX12_farOf_112 (by decide) ?_
            refine go_iload_n dX12_farOf_114 rfl ?_
            refine go_iconst (v := 1) dX12_farOf_115 (by decide) ?_
            refine go_isub dX12_farOf_116 ?_
            refine go_imul dX12_farOf_117 ?_
            refine go_iload dX12_farOf_118 rfl ?_
            refine go_iadd dX12_farOf_120 ?_
            obtain ⟨hi, hF⟩ := hF
            refine go_iald dX12_farOf_121 sh_289 hi ?_
            refine go_iconst (v := 1) dX12_farOf_122 (by decide) ?_
            refine go_iadd dX12_farOf_123 ?_
            refine go_goto 129 dX12_farOf_124 rfl ?_
            refine Gw.namei (fun x58 ex58 => ?_)
            have hF := hF x58 ex58
            refine go_istore (L' := [.ref (ga G 273), .int l1, .int l2, .int l3, .int l4, .int x58]) dX12_farOf_129 (Nat.le_of_ble_eq_true rfl) rfl ?_
            refine go_aload_n dX12_farOf_131 rfl ?_
            refine go_getR (k := 30) (r := 289) dX12_farOf_132 sh_273 rfl inX12 (Nat.le_of_ble_eq_true rfl) lf_X12_64 rfl rfl ?_
            refine go_bipush (v := 25) dX12_farOf_135 (by decide) ?_
            refine go_iload_n dX12_farOf_137 rfl ?_
            refine go_imul dX12_farOf_138 ?_
            refine go_iload dX12_farOf_139 rfl ?_
            refine go_iadd dX12_farOf_141 ?_
            refine go_iconst (v := 1) dX12_farOf_142 (by decide) ?_
            refine go_isub dX12_farOf_143 ?_
            obtain ⟨hi, hF⟩ := hF
            refine go_iald dX12_farOf_144 sh_289 hi ?_
            refine go_iconst (v := 1) dX12_farOf_145 (by decide) ?_
            refine go_iadd dX12_farOf_146 ?_
            refine go_iload dX12_farOf_147 rfl ?_
            refine go_icmp_ge 171 dX12_farOf_149 rfl ⟨fun hc => ?_, fun hc => ?_⟩
            · have hF := hF.1 hc
              refine go_iload dX12_farOf_171 rfl ?_
              refine go_istore (L' := [.ref (ga G 273), .int l1, .int l2, .int l3, .int l4, .int x58]) dX12_farOf_173 (Nat.le_of_ble_eq_true rfl) rfl ?_
              refine go_aload_n dX12_farOf_175 rfl ?_
              refine go_getR (k := 30) (r := 289) dX12_farOf_176 sh_273 rfl inX12 (Nat.le_of_ble_eq_true rfl) lf_X12_64 rfl rfl ?_
              refine go_bipush (v := 25) dX12_farOf_179 (by decide) ?_
              refine go_iload_n dX12_farOf_181 rfl ?_
              refine go_imul dX12_farOf_182 ?_
              refine go_iload dX12_farOf_183 rfl ?_
              refine go_iadd dX12_farOf_185 ?_
              refine go_iload dX12_farOf_186 rfl ?_
              obtain ⟨hi, hF⟩ := hF
              refine go_iast dX12_farOf_188 sh_289 hi ?_
              obtain ⟨m59, em59⟩ : ∃ z : Mem, z = wI m 289 (((25 : Int32) * l3) + l4).toNatClampNeg x58 := ⟨_, rfl⟩
              rw [← em59]
              have hF := hF m59 em59
              obtain ⟨x60, ex60⟩ : ∃ z : Int32, z = l4 + 1 := ⟨_, rfl⟩
              have hF := hF x60 ex60
              refine go_iinc (v := x60) (L' := [.ref (ga G 273), .int l1, .int l2, .int l3, .int x60, .int x58]) dX12_farOf_189 rfl (by rw [ex60]; rfl) (Nat.le_of_ble_eq_true rfl) rfl ?_
              refine go_goto 10 dX12_farOf_192 rfl ?_
              exact hF
            · have hF := hF.2 hc
              refine go_aload_n dX12_farOf_152 rfl ?_
              refine go_getR (k := 30) (r := 289) dX12_farOf_153 sh_273 rfl inX12 (Nat.le_of_ble_eq_true rfl) lf_X12_64 rfl rfl ?_
              refine go_bipush (v := 25) dX12_farOf_156 (by decide) ?_
              refine go_iload_n dX12_farOf_158 rfl ?_
              refine go_imul dX12_farOf_159 ?_
              refine go_iload dX12_farOf_160 rfl ?_
              refine go_iadd dX12_farOf_162 ?_
              refine go_iconst (v := 1) dX12_farOf_163 (by decide) ?_
              refine go_isub dX12_farOf_164 ?_
              obtain ⟨hi, hF⟩ := hF
              refine go_iald dX12_farOf_165 sh_289 hi ?_
              refine go_iconst (v := 1) dX12_farOf_166 (by decide) ?_
              refine go_iadd dX12_farOf_167 ?_
              refine go_goto 173 dX12_farOf_168 rfl ?_
              refine Gw.namei (fun x61 ex61 => ?_)
              have hF := hF x61 ex61
              refine go_istore (L' := [.ref (ga G 273), .int l1, .int l2, .int l3, .int l4, .int x61]) dX12_farOf_173 (Nat.le_of_ble_eq_true rfl) rfl ?_
              refine go_aload_n dX12_farOf_175 rfl ?_
              refine go_getR (k := 30) (r := 289) dX12_farOf_176 sh_273 rfl inX12 (Nat.le_of_ble_eq_true rfl) lf_X12_64 rfl rfl ?_
              refine go_bipush (v := 25) dX12_farOf_179 (by decide) ?_
              refine go_iload_n dX12_farOf_181 rfl ?_
              refine go_imul dX12_farOf_182 ?_
              refine go_iload dX12_farOf_183 rfl ?_
              refine go_iadd dX12_farOf_185 ?_
              refine go_iload dX12_farOf_186 rfl ?_
              obtain ⟨hi, hF⟩ := hF
              refine go_iast dX12_farOf_188 sh_289 hi ?_
              obtain ⟨m62, em62⟩ : ∃ z : Mem, z = wI m 289 (((25 : Int32) * l3) + l4).toNatClampNeg x61 := ⟨_, rfl⟩
              rw [← em62]
              have hF := hF m62 em62
              obtain ⟨x63, ex63⟩ : ∃ z : Int32, z = l4 + 1 := ⟨_, rfl⟩
              have hF := hF x63 ex63
              refine go_iinc (v := x63) (L' := [.ref (ga G 273), .int l1, .int l2, .int l3, .int x63, .int x61]) dX12_farOf_189 rfl (by rw [ex63]; rfl) (Nat.le_of_ble_eq_true rfl) rfl ?_
              refine go_goto 10 dX12_farOf_192 rfl ?_
              exact hF
theorem vX12_away (G : GP) (d : Nat) (a0 : Int32) (a1 : Int32) (m : Mem) (K : Int32 → Mem → Prop) (hF : ((0 ≤ a0 ∧ a0 ≤ m.1 274 1 - 1) → ((0 ≤ a1 ∧ a1 ≤ m.1 274 1 - 1) → Evi G (d + 2) mX12_layWord [.ref (ga G 273), .int a0, .ref (ga G 287)] m (fun r2 m1 => Evi G (d + 2) mX12_layWord [.ref (ga G 273), .int a1, .ref (ga G 288)] m1 (fun r4 m3 => Evi G (d + 2) mX12_farOf [.ref (ga G 273), .int r2, .int r4] m3 (fun r6 m5 => K r6 m5)))) ∧ (¬ (0 ≤ a1 ∧ a1 ≤ m.1 274 1 - 1) → K (-1) m)) ∧ (¬ (0 ≤ a0 ∧ a0 ≤ m.1 274 1 - 1) → K (-1) m)) : Evi G (d + 3) mX12_away [.ref (ga G 273), .int a0, .int a1] m K := by
  refine Ev.go [.ref (ga G 273), .int a0, .int a1] (by decide) (Nat.le_of_ble_eq_true rfl) rfl ?_
  refine go_aload_n dX12_away_0 rfl ?_
  refine go_iload_n dX12_away_1 rfl ?_
  rcases Classical.em (0 ≤ a0 ∧ a0 ≤ m.1 274 1 - 1) with hp | hp
  · have hF := hF.1 hp
    refine go_callV mX12_isWord0 dX12_away_2 lm_X12_326 okX12_isWord0 isX12_isWord0 sh_273 rfl (As := [.int a0]) (S := []) rfl rfl (Nat.le_of_ble_eq_true rfl) (eX12_isWord0 G _ a0 m (fun r m' => r = 1 ∧ m = m') ⟨fun _ => ⟨rfl, rfl⟩, fun q => absurd hp q⟩) (k_i (fun r m' hr => ?_))
    obtain ⟨hr1, hr2⟩ := hr
    subst hr1
    subst hr2
    refine go_if_eq 41 dX12_away_5 rfl ⟨fun hc => absurd hc (by decide), fun _ => ?_⟩
    refine go_aload_n dX12_away_8 rfl ?_
    refine go_iload_n dX12_away_9 rfl ?_
    rcases Classical.em (0 ≤ a1 ∧ a1 ≤ m.1 274 1 - 1) with hp | hp
    · have hF := hF.1 hp
      refine go_callV mX12_isWord0 dX12_away_10 lm_X12_326 okX12_isWord0 isX12_isWord0 sh_273 rfl (As := [.int a1]) (S := []) rfl rfl (Nat.le_of_ble_eq_true rfl) (eX12_isWord0 G _ a1 m (fun r m' => r = 1 ∧ m = m') ⟨fun _ => ⟨rfl, rfl⟩, fun q => absurd hp q⟩) (k_i (fun r m' hr => ?_))
      obtain ⟨hr1, hr2⟩ := hr
      subst hr1
      subst hr2
      refine go_if_eq 41 dX12_away_13 rfl ⟨fun hc => absurd hc (by decide), fun _ => ?_⟩
      refine go_aload_n dX12_away_16 rfl ?_
      refine go_aload_n dX12_away_17 rfl ?_
      refine go_iload_n dX12_away_18 rfl ?_
      refine go_aload_n dX12_away_19 rfl ?_
      refine go_getR (k := 28) (r := 287) dX12_away_20 sh_273 rfl inX12 (Nat.le_of_ble_eq_true rfl) lf_X12_58 rfl rfl ?_
      refine go_callV mX12_layWord dX12_away_23 lm_X12_435 okX12_layWord isX12_layWord sh_273 rfl (As := [.int a0, .ref (ga G 287)]) (S := [.ref (ga G 273)]) rfl rfl (Nat.le_of_ble_eq_true rfl) hF (k_i (fun r2 m1 hF => ?_))
      refine go_aload_n dX12_away_26 rfl ?_
      refine go_iload_n dX12_away_27 rfl ?_
      refine go_aload_n dX12_away_28 rfl ?_
      refine go_getR (k := 29) (r := 288) dX12_away_29 sh_273 rfl inX12 (Nat.le_of_ble_eq_true rfl) lf_X12_61 rfl rfl ?_
      refine go_callV mX12_layWord dX12_away_32 lm_X12_435 okX12_layWord isX12_layWord sh_273 rfl (As := [.int a1, .ref (ga G 288)]) (S := [.int r2, .ref (ga G 273)]) rfl rfl (Nat.le_of_ble_eq_true rfl) hF (k_i (fun r4 m3 hF => ?_))
      refine go_callV mX12_farOf dX12_away_35 lm_X12_439 okX12_farOf isX12_farOf sh_273 rfl (As := [.int r2, .int r4]) (S := []) rfl rfl (Nat.le_of_ble_eq_true rfl) hF (k_i (fun r6 m5 hF => ?_))
      refine go_goto 42 dX12_away_38 rfl ?_
      exact go_iret (S := []) dX12_away_42 rfl ⟨_, rfl, hF⟩
    · have hF := hF.2 hp
      refine go_callV mX12_isWord0 dX12_away_10 lm_X12_326 okX12_isWord0 isX12_isWord0 sh_273 rfl (As := [.int a1]) (S := []) rfl rfl (Nat.le_of_ble_eq_true rfl) (eX12_isWord0 G _ a1 m (fun r m' => r = 0 ∧ m = m') ⟨fun q => absurd q hp, fun _ => ⟨rfl, rfl⟩⟩) (k_i (fun r m' hr => ?_))
      obtain ⟨hr1, hr2⟩ := hr
      subst hr1
      subst hr2
      refine go_if_eq 41 dX12_away_13 rfl ⟨fun _ => ?_, fun hc => absurd hc (by decide)⟩
      refine go_iconst (v := -1) dX12_away_41 (by decide) ?_
      exact go_iret (S := []) dX12_away_42 rfl ⟨_, rfl, hF⟩
  · have hF := hF.2 hp
    refine go_callV mX12_isWord0 dX12_away_2 lm_X12_326 okX12_isWord0 isX12_isWord0 sh_273 rfl (As := [.int a0]) (S := []) rfl rfl (Nat.le_of_ble_eq_true rfl) (eX12_isWord0 G _ a0 m (fun r m' => r = 0 ∧ m = m') ⟨fun q => absurd q hp, fun _ => ⟨rfl, rfl⟩⟩) (k_i (fun r m' hr => ?_))
    obtain ⟨hr1, hr2⟩ := hr
    subst hr1
    subst hr2
    refine go_if_eq 41 dX12_away_5 rfl ⟨fun _ => ?_, fun hc => absurd hc (by decide)⟩
    refine go_iconst (v := -1) dX12_away_41 (by decide) ?_
    exact go_iret (S := []) dX12_away_42 rfl ⟨_, rfl, hF⟩
theorem vX12_apart (G : GP) (d : Nat) (a0 : Int32) (m : Mem) (K : Int32 → Mem → Prop) (hF : ((1 ≤ a0 ∧ a0 ≤ 4) → Gw G (d + 4) mX12_apart 15 [.ref (ga G 273), .int a0, .int 0, .int 0, uu, uu, uu] [] m (Qi K)) ∧ (¬ (1 ≤ a0 ∧ a0 ≤ 4) → K (-1) m)) : Evi G (d + 4) mX12_apart [.ref (ga G 273), .int a0] m K := by
  refine Ev.go [.ref (ga G 273), .int a0, uu, uu, uu, uu, uu] (by decide) (Nat.le_of_ble_eq_true rfl) rfl ?_
  refine go_iload_n dX12_apart_0 rfl ?_
  refine go_iconst (v := 1) dX12_apart_1 (by decide) ?_
  refine go_iconst (v := 4) dX12_apart_2 (by decide) ?_
  rcases Classical.em (1 ≤ a0 ∧ a0 ≤ 4) with hp | hp
  · have hF := hF.1 hp
    refine go_callS mX12_isIn dX12_apart_3 lm_X12_80 okX12_isIn isX12_isIn (As := [.int a0, .int 1, .int 4]) (S := []) rfl rfl (Nat.le_of_ble_eq_true rfl) (eX12_isIn G _ a0 1 4 m (fun r m' => r = 1 ∧ m = m') ⟨fun _ => ⟨rfl, rfl⟩, fun q => absurd hp q⟩) (k_i (fun r m' hr => ?_))
    obtain ⟨hr1, hr2⟩ := hr
    subst hr1
    subst hr2
    refine go_if_ne 11 dX12_apart_6 rfl ⟨fun _ => ?_, fun hc => absurd hc (by decide)⟩
    refine go_iconst (v := 0) dX12_apart_11 (by decide) ?_
    refine go_istore_n (L' := [.ref (ga G 273), .int a0, .int 0, uu, uu, uu, uu]) dX12_apart_12 (Nat.le_of_ble_eq_true rfl) rfl ?_
    refine go_iconst (v := 0) dX12_apart_13 (by decide) ?_
    refine go_istore_n (L' := [.ref (ga G 273), .int a0, .int 0, .int 0, uu, uu, uu]) dX12_apart_14 (Nat.le_of_ble_eq_true rfl) rfl ?_
    exact hF
  · have hF := hF.2 hp
    refine go_callS mX12_isIn dX12_apart_3 lm_X12_80 okX12_isIn isX12_isIn (As := [.int a0, .int 1, .int 4]) (S := []) rfl rfl (Nat.le_of_ble_eq_true rfl) (eX12_isIn G _ a0 1 4 m (fun r m' => r = 0 ∧ m = m') ⟨fun q => absurd q hp, fun _ => ⟨rfl, rfl⟩⟩) (k_i (fun r m' hr => ?_))
    obtain ⟨hr1, hr2⟩ := hr
    subst hr1
    subst hr2
    refine go_if_ne 11 dX12_apart_6 rfl ⟨fun hc => absurd hc (by decide), fun _ => ?_⟩
    refine go_iconst (v := -1) dX12_apart_9 (by decide) ?_
    exact go_iret (S := []) dX12_apart_10 rfl ⟨_, rfl, hF⟩
theorem vX12_apart_15 (G : GP) (d : Nat) (l1 : Int32) (l2 : Int32) (l3 : Int32) (u4 : Value) (u5 : Value) (u6 : Value) (m : Mem) (K : Int32 → Mem → Prop) (hF : ((((1 : Int32) <<< ((m.1 274 1) &&& 31)) ≤ l3) → K l2 m) ∧ ((¬ ((1 : Int32) <<< ((m.1 274 1) &&& 31)) ≤ l3) → Evi G (d + 3) mX12_bits [.int l3] m (fun r2 m1 => Evi G (d + 3) mX12_bits [.int l2] m1 (fun r4 m3 => ((r2 ≤ r4) → Gw G (d + 4) mX12_apart 48 [.ref (ga G 273), .int l1, .int l2, .int l3, .int 0, .int 0, uu] [] m3 (Qi K)) ∧ ((¬ r2 ≤ r4) → Gw G (d + 4) mX12_apart 48 [.ref (ga G 273), .int l1, .int l2, .int l3, .int 1, .int 0, uu] [] m3 (Qi K)))))) : Gw G (d + 4) mX12_apart 15 [.ref (ga G 273), .int l1, .int l2, .int l3, u4, u5, u6] [] m (Qi K) := by
  refine Gw.weak (L' := [.ref (ga G 273), .int l1, .int l2, .int l3, uu, uu, uu]) ⟨Or.inl rfl, Or.inl rfl, Or.inl rfl, Or.inl rfl, Or.inr rfl, Or.inr rfl, Or.inr rfl, trivial⟩ ?_
  refine go_iload_n dX12_apart_15 rfl ?_
  refine go_iconst (v := 1) dX12_apart_16 (by decide) ?_
  refine go_aload_n dX12_apart_17 rfl ?_
  refine go_getR (k := 0) (r := 274) dX12_apart_18 sh_273 rfl inX12 (Nat.le_of_ble_eq_true rfl) lf_X12_7 rfl rfl ?_
  refine go_iconst (v := 1) dX12_apart_21 (by decide) ?_
  refine go_ialdK (k := 1) dX12_apart_22 sh_274 (vp_in_dec (by decide)) (by decide) ?_
  refine go_ishl dX12_apart_23 ?_
  refine go_icmp_ge 141 dX12_apart_24 rfl ⟨fun hc => ?_, fun hc => ?_⟩
  · have hF := hF.1 hc
    refine go_iload_n dX12_apart_141 rfl ?_
    exact go_iret (S := []) dX12_apart_142 rfl ⟨_, rfl, hF⟩
  · have hF := hF.2 hc
    refine go_iload_n dX12_apart_27 rfl ?_
    refine go_callS mX12_bits dX12_apart_28 lm_X12_442 okX12_bits isX12_bits (As := [.int l3]) (S := []) rfl rfl (Nat.le_of_ble_eq_true rfl) hF (k_i (fun r2 m1 hF => ?_))
    refine go_iload_n dX12_apart_31 rfl ?_
    refine go_callS mX12_bits dX12_apart_32 lm_X12_442 okX12_bits isX12_bits (As := [.int l2]) (S := [.int r2]) rfl rfl (Nat.le_of_ble_eq_true rfl) hF (k_i (fun r4 m3 hF => ?_))
    refine go_icmp_le 42 dX12_apart_35 rfl ⟨fun hc => ?_, fun hc => ?_⟩
    · have hF := hF.1 hc
      refine go_iconst (v := 0) dX12_apart_42 (by decide) ?_
      refine go_istore (L' := [.ref (ga G 273), .int l1, .int l2, .int l3, .int 0, uu, uu]) dX12_apart_43 (Nat.le_of_ble_eq_true rfl) rfl ?_
      refine go_iconst (v := 0) dX12_apart_45 (by decide) ?_
      refine go_istore (L' := [.ref (ga G 273), .int l1, .int l2, .int l3, .int 0, .int 0, uu]) dX12_apart_46 (Nat.le_of_ble_eq_true rfl) rfl ?_
      exact hF
    · have hF := hF.2 hc
      refine go_iconst (v := 1) dX12_apart_38 (by decide) ?_
      refine go_goto 43 dX12_apart_39 rfl ?_
      refine go_istore (L' := [.ref (ga G 273), .int l1, .int l2, .int l3, .int 1, uu, uu]) dX12_apart_43 (Nat.le_of_ble_eq_true rfl) rfl ?_
      refine go_iconst (v := 0) dX12_apart_45 (by decide) ?_
      refine go_istore (L' := [.ref (ga G 273), .int l1, .int l2, .int l3, .int 1, .int 0, uu]) dX12_apart_46 (Nat.le_of_ble_eq_true rfl) rfl ?_
      exact hF
theorem vX12_apart_48 (G : GP) (d : Nat) (l1 : Int32) (l2 : Int32) (l3 : Int32) (l4 : Int32) (l5 : Int32) (u6 : Value) (m : Mem) (K : Int32 → Mem → Prop) (hF : (((m.1 274 1) ≤ l5) → ((l4 = 0) → ∀ x5 : Int32, x5 = l3 + 1 → Gw G (d + 4) mX12_apart 15 [.ref (ga G 273), .int l1, .int l2, .int x5, .int l4, .int l5, uu] [] m (Qi K)) ∧ ((¬ l4 = 0) → ∀ x6 : Int32, x6 = l3 + 1 → Gw G (d + 4) mX12_apart 15 [.ref (ga G 273), .int l1, .int l3, .int x6, .int l4, .int l5, uu] [] m (Qi K))) ∧ ((¬ (m.1 274 1) ≤ l5) → ((l4 = 0) → ((l4 = 0) → ∀ x7 : Int32, x7 = l3 + 1 → Gw G (d + 4) mX12_apart 15 [.ref (ga G 273), .int l1, .int l2, .int x7, .int l4, .int l5, uu] [] m (Qi K)) ∧ ((¬ l4 = 0) → ∀ x8 : Int32, x8 = l3 + 1 → Gw G (d + 4) mX12_apart 15 [.ref (ga G 273), .int l1, .int l3, .int x8, .int l4, .int l5, uu] [] m (Qi K))) ∧ ((¬ l4 = 0) → Gw G (d + 4) mX12_apart 67 [.ref (ga G 273), .int l1, .int l2, .int l3, .int l4, .int l5, .int 0] [] m (Qi K)))) : Gw G (d + 4) mX12_apart 48 [.ref (ga G 273), .int l1, .int l2, .int l3, .int l4, .int l5, u6] [] m (Qi K) := by
  refine Gw.weak (L' := [.ref (ga G 273), .int l1, .int l2, .int l3, .int l4, .int l5, uu]) ⟨Or.inl rfl, Or.inl rfl, Or.inl rfl, Or.inl rfl, Or.inl rfl, Or.inl rfl, Or.inr rfl, trivial⟩ ?_
  refine go_iload dX12_apart_48 rfl ?_
  refine go_aload_n dX12_apart_50 rfl ?_
  refine go_getR (k := 0) (r := 274) dX12_apart_51 sh_273 rfl inX12 (Nat.le_of_ble_eq_true rfl) lf_X12_7 rfl rfl ?_
  refine go_iconst (v := 1) dX12_apart_54 (by decide) ?_
  refine go_ialdK (k := 1) dX12_apart_55 sh_274 (vp_in_dec (by decide)) (by decide) ?_
  refine go_icmp_ge 128 dX12_apart_56 rfl ⟨fun hc => ?_, fun hc => ?_⟩
  · have hF := hF.1 hc
    refine go_iload dX12_apart_128 rfl ?_
    refine go_if_eq 135 dX12_apart_130 rfl ⟨fun hc => ?_, fun hc => ?_⟩
    · have hF := hF.1 hc
      obtain ⟨x5, ex5⟩ : ∃ z : Int32, z = l3 + 1 := ⟨_, rfl⟩
      have hF := hF x5 ex5
      refine go_iinc (v := x5) (L' := [.ref (ga G 273), .int l1, .int l2, .int x5, .int l4, .int l5, uu]) dX12_apart_135 rfl (by rw [ex5]; rfl) (Nat.le_of_ble_eq_true rfl) rfl ?_
      refine go_goto 15 dX12_apart_138 rfl ?_
      exact hF
    · have hF := hF.2 hc
      refine go_iload_n dX12_apart_133 rfl ?_
      refine go_istore_n (L' := [.ref (ga G 273), .int l1, .int l3, .int l3, .int l4, .int l5, uu]) dX12_apart_134 (Nat.le_of_ble_eq_true rfl) rfl ?_
      obtain ⟨x6, ex6⟩ : ∃ z : Int32, z = l3 + 1 := ⟨_, rfl⟩
      have hF := hF x6 ex6
      refine go_iinc (v := x6) (L' := [.ref (ga G 273), .int l1, .int l3, .int x6, .int l4, .int l5, uu]) dX12_apart_135 rfl (by rw [ex6]; rfl) (Nat.le_of_ble_eq_true rfl) rfl ?_
      refine go_goto 15 dX12_apart_138 rfl ?_
      exact hF
  · have hF := hF.2 hc
    refine go_iload dX12_apart_59 rfl ?_
    refine go_if_eq 128 dX12_apart_61 rfl ⟨fun hc => ?_, fun hc => ?_⟩
    · have hF := hF.1 hc
      refine go_iload dX12_apart_128 rfl ?_
      refine go_if_eq 135 dX12_apart_130 rfl ⟨fun hc => ?_, fun hc => ?_⟩
      · have hF := hF.1 hc
        obtain ⟨x7, ex7⟩ : ∃ z : Int32, z = l3 + 1 := ⟨_, rfl⟩
        have hF := hF x7 ex7
        refine go_iinc (v := x7) (L' := [.ref (ga G 273), .int l1, .int l2, .int x7, .int l4, .int l5, uu]) dX12_apart_135 rfl (by rw [ex7]; rfl) (Nat.le_of_ble_eq_true rfl) rfl ?_
        refine go_goto 15 dX12_apart_138 rfl ?_
        exact hF
      · have hF := hF.2 hc
        refine go_iload_n dX12_apart_133 rfl ?_
        refine go_istore_n (L' := [.ref (ga G 273), .int l1, .int l3, .int l3, .int l4, .int l5, uu]) dX12_apart_134 (Nat.le_of_ble_eq_true rfl) rfl ?_
        obtain ⟨x8, ex8⟩ : ∃ z : Int32, z = l3 + 1 := ⟨_, rfl⟩
        have hF := hF x8 ex8
        refine go_iinc (v := x8) (L' := [.ref (ga G 273), .int l1, .int l3, .int x8, .int l4, .int l5, uu]) dX12_apart_135 rfl (by rw [ex8]; rfl) (Nat.le_of_ble_eq_true rfl) rfl ?_
        refine go_goto 15 dX12_apart_138 rfl ?_
        exact hF
    · have hF := hF.2 hc
      refine go_iconst (v := 0) dX12_apart_64 (by decide) ?_
      refine go_istore (L' := [.ref (ga G 273), .int l1, .int l2, .int l3, .int l4, .int l5, .int 0]) dX12_apart_65 (Nat.le_of_ble_eq_true rfl) rfl ?_
      exact hF
theorem vX12_apart_67 (G : GP) (d : Nat) (l1 : Int32) (l2 : Int32) (l3 : Int32) (l4 : Int32) (l5 : Int32) (l6 : Int32) (m : Mem) (K : Int32 → Mem → Prop) (hF : ((l5 ≤ l6) → ∀ x9 : Int32, x9 = l5 + 1 → Gw G (d + 4) mX12_apart 48 [.ref (ga G 273), .int l1, .int l2, .int l3, .int l4, .int x9, .int l6] [] m (Qi K)) ∧ ((¬ l5 ≤ l6) → ((l4 = 0) → ∀ x10 : Int32, x10 = l5 + 1 → Gw G (d + 4) mX12_apart 48 [.ref (ga G 273), .int l1, .int l2, .int l3, .int l4, .int x10, .int l6] [] m (Qi K)) ∧ ((¬ l4 = 0) → (((l3 >>> (l5 &&& 31)) &&& 1 = 1) → (((l3 >>> (l6 &&& 31)) &&& 1 = 1) → Evi G (d + 3) mX12_away [.ref (ga G 273), .int l5, .int l6] m (fun r12 m11 => ((r12 < l1) → ∀ x13 : Int32, x13 = l6 + 1 → Gw G (d + 4) mX12_apart 67 [.ref (ga G 273), .int l1, .int l2, .int l3, .int 0, .int l5, .int x13] [] m11 (Qi K)) ∧ ((¬ r12 < l1) → ∀ x14 : Int32, x14 = l6 + 1 → Gw G (d + 4) mX12_apart 67 [.ref (ga G 273), .int l1, .int l2, .int l3, .int 1, .int l5, .int x14] [] m11 (Qi K)))) ∧ (¬ ((l3 >>> (l6 &&& 31)) &&& 1 = 1) → ∀ x15 : Int32, x15 = l6 + 1 → Gw G (d + 4) mX12_apart 67 [.ref (ga G 273), .int l1, .int l2, .int l3, .int 1, .int l5, .int x15] [] m (Qi K))) ∧ (¬ ((l3 >>> (l5 &&& 31)) &&& 1 = 1) → ∀ x16 : Int32, x16 = l6 + 1 → Gw G (d + 4) mX12_apart 67 [.ref (ga G 273), .int l1, .int l2, .int l3, .int 1, .int l5, .int x16] [] m (Qi K))))) : Gw G (d + 4) mX12_apart 67 [.ref (ga G 273), .int l1, .int l2, .int l3, .int l4, .int l5, .int l6] [] m (Qi K) := by
  refine go_iload dX12_apart_67 rfl ?_
  refine go_iload dX12_apart_69 rfl ?_
  refine go_icmp_ge 122 dX12_apart_71 rfl ⟨fun hc => ?_, fun hc => ?_⟩
  · have hF := hF.1 hc
    obtain ⟨x9, ex9⟩ : ∃ z : Int32, z = l5 + 1 := ⟨_, rfl⟩
    have hF := hF x9 ex9
    refine go_iinc (v := x9) (L' := [.ref (ga G 273), .int l1, .int l2, .int l3, .int l4, .int x9, .int l6]) dX12_apart_122 rfl (by rw [ex9]; rfl) (Nat.le_of_ble_eq_true rfl) rfl ?_
    refine go_goto 48 dX12_apart_125 rfl ?_
    exact hF
  · have hF := hF.2 hc
    refine go_iload dX12_apart_74 rfl ?_
    refine go_if_eq 122 dX12_apart_76 rfl ⟨fun hc => ?_, fun hc => ?_⟩
    · have hF := hF.1 hc
      obtain ⟨x10, ex10⟩ : ∃ z : Int32, z = l5 + 1 := ⟨_, rfl⟩
      have hF := hF x10 ex10
      refine go_iinc (v := x10) (L' := [.ref (ga G 273), .int l1, .int l2, .int l3, .int l4, .int x10, .int l6]) dX12_apart_122 rfl (by rw [ex10]; rfl) (Nat.le_of_ble_eq_true rfl) rfl ?_
      refine go_goto 48 dX12_apart_125 rfl ?_
      exact hF
    · have hF := hF.2 hc
      refine go_iload_n dX12_apart_79 rfl ?_
      refine go_iload dX12_apart_80 rfl ?_
      rcases Classical.em ((l3 >>> (l5 &&& 31)) &&& 1 = 1) with hp | hp
      · have hF := hF.1 hp
        refine go_callS mX12_has dX12_apart_82 lm_X12_261 okX12_has isX12_has (As := [.int l3, .int l5]) (S := []) rfl rfl (Nat.le_of_ble_eq_true rfl) (eX12_has G _ l3 l5 m (fun r m' => r = 1 ∧ m = m') ⟨fun _ => ⟨rfl, rfl⟩, fun q => absurd hp q⟩) (k_i (fun r m' hr => ?_))
        obtain ⟨hr1, hr2⟩ := hr
        subst hr1
        subst hr2
        refine go_if_eq 109 dX12_apart_85 rfl ⟨fun hc => absurd hc (by decide), fun _ => ?_⟩
        refine go_iload_n dX12_apart_88 rfl ?_
        refine go_iload dX12_apart_89 rfl ?_
        rcases Classical.em ((l3 >>> (l6 &&& 31)) &&& 1 = 1) with hp | hp
        · have hF := hF.1 hp
          refine go_callS mX12_has dX12_apart_91 lm_X12_261 okX12_has isX12_has (As := [.int l3, .int l6]) (S := []) rfl rfl (Nat.le_of_ble_eq_true rfl) (eX12_has G _ l3 l6 m (fun r m' => r = 1 ∧ m = m') ⟨fun _ => ⟨rfl, rfl⟩, fun q => absurd hp q⟩) (k_i (fun r m' hr => ?_))
          obtain ⟨hr1, hr2⟩ := hr
          subst hr1
          subst hr2
          refine go_if_eq 109 dX12_apart_94 rfl ⟨fun hc => absurd hc (by decide), fun _ => ?_⟩
          refine go_aload_n dX12_apart_97 rfl ?_
          refine go_iload dX12_apart_98 rfl ?_
          refine go_iload dX12_apart_100 rfl ?_
          refine go_callV mX12_away dX12_apart_102 lm_X12_445 okX12_away isX12_away sh_273 rfl (As := [.int l5, .int l6]) (S := []) rfl rfl (Nat.le_of_ble_eq_true rfl) hF (k_i (fun r12 m11 hF => ?_))
          refine go_iload_n dX12_apart_105 rfl ?_
          refine go_icmp_lt 113 dX12_apart_106 rfl ⟨fun hc => ?_, fun hc => ?_⟩
          · have hF := hF.1 hc
            refine go_iconst (v := 0) dX12_apart_113 (by decide) ?_
            refine go_istore (L' := [.ref (ga G 273), .int l1, .int l2, .int l3, .int 0, .int l5, .int l6]) dX12_apart_114 (Nat.le_of_ble_eq_true rfl) rfl ?_
            obtain ⟨x13, ex13⟩ : ∃ z : Int32, z = l6 + 1 := ⟨_, rfl⟩
            have hF := hF x13 ex13
            refine go_iinc (v := x13) (L' := [.ref (ga G 273), .int l1, .int l2, .int l3, .int 0, .int l5, .int x13]) dX12_apart_116 rfl (by rw [ex13]; rfl) (Nat.le_of_ble_eq_true rfl) rfl ?_
            refine go_goto 67 dX12_apart_119 rfl ?_
            exact hF
          · have hF := hF.2 hc
            refine go_iconst (v := 1) dX12_apart_109 (by decide) ?_
            refine go_goto 114 dX12_apart_110 rfl ?_
            refine go_istore (L' := [.ref (ga G 273), .int l1, .int l2, .int l3, .int 1, .int l5, .int l6]) dX12_apart_114 (Nat.le_of_ble_eq_true rfl) rfl ?_
            obtain ⟨x14, ex14⟩ : ∃ z : Int32, z = l6 + 1 := ⟨_, rfl⟩
            have hF := hF x14 ex14
            refine go_iinc (v := x14) (L' := [.ref (ga G 273), .int l1, .int l2, .int l3, .int 1, .int l5, .int x14]) dX12_apart_116 rfl (by rw [ex14]; rfl) (Nat.le_of_ble_eq_true rfl) rfl ?_
            refine go_goto 67 dX12_apart_119 rfl ?_
            exact hF
        · have hF := hF.2 hp
          refine go_callS mX12_has dX12_apart_91 lm_X12_261 okX12_has isX12_has (As := [.int l3, .int l6]) (S := []) rfl rfl (Nat.le_of_ble_eq_true rfl) (eX12_has G _ l3 l6 m (fun r m' => r = 0 ∧ m = m') ⟨fun q => absurd q hp, fun _ => ⟨rfl, rfl⟩⟩) (k_i (fun r m' hr => ?_))
          obtain ⟨hr1, hr2⟩ := hr
          subst hr1
          subst hr2
          refine go_if_eq 109 dX12_apart_94 rfl ⟨fun _ => ?_, fun hc => absurd hc (by decide)⟩
          refine go_iconst (v := 1) dX12_apart_109 (by decide) ?_
          refine go_goto 114 dX12_apart_110 rfl ?_
          refine go_istore (L' := [.ref (ga G 273), .int l1, .int l2, .int l3, .int 1, .int l5, .int l6]) dX12_apart_114 (Nat.le_of_ble_eq_true rfl) rfl ?_
          obtain ⟨x15, ex15⟩ : ∃ z : Int32, z = l6 + 1 := ⟨_, rfl⟩
          have hF := hF x15 ex15
          refine go_iinc (v := x15) (L' := [.ref (ga G 273), .int l1, .int l2, .int l3, .int 1, .int l5, .int x15]) dX12_apart_116 rfl (by rw [ex15]; rfl) (Nat.le_of_ble_eq_true rfl) rfl ?_
          refine go_goto 67 dX12_apart_119 rfl ?_
          exact hF
      · have hF := hF.2 hp
        refine go_callS mX12_has dX12_apart_82 lm_X12_261 okX12_has isX12_has (As := [.int l3, .int l5]) (S := []) rfl rfl (Nat.le_of_ble_eq_true rfl) (eX12_has G _ l3 l5 m (fun r m' => r = 0 ∧ m = m') ⟨fun q => absurd q hp, fun _ => ⟨rfl, rfl⟩⟩) (k_i (fun r m' hr => ?_))
        obtain ⟨hr1, hr2⟩ := hr
        subst hr1
        subst hr2
        refine go_if_eq 109 dX12_apart_85 rfl ⟨fun _ => ?_, fun hc => absurd hc (by decide)⟩
        refine go_iconst (v := 1) dX12_apart_109 (by decide) ?_
        refine go_goto 114 dX12_apart_110 rfl ?_
        refine go_istore (L' := [.ref (ga G 273), .int l1, .int l2, .int l3, .int 1, .int l5, .int l6]) dX12_apart_114 (Nat.le_of_ble_eq_true rfl) rfl ?_
        obtain ⟨x16, ex16⟩ : ∃ z : Int32, z = l6 + 1 := ⟨_, rfl⟩
        have hF := hF x16 ex16
        refine go_iinc (v := x16) (L' := [.ref (ga G 273), .int l1, .int l2, .int l3, .int 1, .int l5, .int x16]) dX12_apart_116 rfl (by rw [ex16]; rfl) (Nat.le_of_ble_eq_true rfl) rfl ?_
        refine go_goto 67 dX12_apart_119 rfl ?_
        exact hF
