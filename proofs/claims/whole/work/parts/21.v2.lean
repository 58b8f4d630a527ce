theorem vX2_addBell (G : GP) (d : Nat) (a0 : Int32) (a1 : Int32) (a2 : Int32) (m : Mem) (K : Int32 → Mem → Prop) (hF : ((6 ≤ (m.1 2 0)) → K (-1) m) ∧ ((¬ 6 ≤ (m.1 2 0)) → ((1 ≤ a0 ∧ a0 ≤ 9) → ((0 ≤ a1 ∧ a1 ≤ 9) → ((1 ≤ a2 ∧ a2 ≤ 9) → vp_in (m.1 2 0) 6 ∧ ∀ m1 : Mem, m1 = wI m 3 (m.1 2 0).toNatClampNeg a0 → vp_in (m1.1 2 0) 6 ∧ ∀ m2 : Mem, m2 = wI m1 4 (m1.1 2 0).toNatClampNeg a1 → vp_in (m2.1 2 0) 6 ∧ ∀ m3 : Mem, m3 = wI m2 5 (m2.1 2 0).toNatClampNeg a2 → ∀ m4 : Mem, m4 = wI m3 2 0 ((m3.1 2 0) + 1) → K ((m4.1 2 0) - 1) m4) ∧ (¬ (1 ≤ a2 ∧ a2 ≤ 9) → K (-1) m)) ∧ (¬ (0 ≤ a1 ∧ a1 ≤ 9) → K (-1) m)) ∧ (¬ (1 ≤ a0 ∧ a0 ≤ 9) → K (-1) m))) : Evi G (d + 1) mX2_addBell [.ref (ga G 2), .int a0, .int a1, .int a2] m K := by
  refine Ev.go [.ref (ga G 2), .int a0, .int a1, .int a2] (by decide) (Nat.le_of_ble_eq_true rfl) rfl ?_
  refine go_aload_n dX2_addBell_0 rfl ?_
  refine go_getI (k := 0) dX2_addBell_1 sh_2 rfl inX2 (Nat.le_of_ble_eq_true rfl) lf_X2_39 rfl ?_
  refine go_bipush (v := 6) dX2_addBell_4 (by decide) ?_
  refine go_icmp_ge 39 dX2_addBell_6 rfl ⟨fun hc => ?_, fun hc => ?_⟩
  · have hF := hF.1 hc
    refine go_iconst (v := -1) dX2_addBell_39 (by decide) ?_
    exact go_iret (S := []) dX2_addBell_40 rfl ⟨_, rfl, hF⟩
  · have hF := hF.2 hc
    refine go_iload_n dX2_addBell_9 rfl ?_
    refine go_iconst (v := 1) dX2_addBell_10 (by decide) ?_
    refine go_bipush (v := 9) dX2_addBell_11 (by decide) ?_
    rcases Classical.em (1 ≤ a0 ∧ a0 ≤ 9) with hp | hp
    · have hF := hF.1 hp
      refine go_callN mX11_within "BellTongue" dX2_addBell_13 ln_X2_46 okX11_within isX11_within (As := [.int a0, .int 1, .int 9]) (S := []) rfl rfl (Nat.le_of_ble_eq_true rfl) (eX11_within G _ a0 1 9 m (fun r m' => r = 1 ∧ m = m') ⟨fun _ => ⟨rfl, rfl⟩, fun q => absurd hp q⟩) (k_i (fun r m' hr => ?_))
      obtain ⟨hr1, hr2⟩ := hr
      subst hr1
      subst hr2
      refine go_if_eq 39 dX2_addBell_16 rfl ⟨fun hc => absurd hc (by decide), fun _ => ?_⟩
      refine go_iload_n dX2_addBell_19 rfl ?_
      refine go_iconst (v := 0) dX2_addBell_20 (by decide) ?_
      refine go_bipush (v := 9) dX2_addBell_21 (by decide) ?_
      rcases Classical.em (0 ≤ a1 ∧ a1 ≤ 9) with hp | hp
      · have hF := hF.1 hp
        refine go_callN mX11_within "BellTongue" dX2_addBell_23 ln_X2_46 okX11_within isX11_within (As := [.int a1, .int 0, .int 9]) (S := []) rfl rfl (Nat.le_of_ble_eq_true rfl) (eX11_within G _ a1 0 9 m (fun r m' => r = 1 ∧ m = m') ⟨fun _ => ⟨rfl, rfl⟩, fun q => absurd hp q⟩) (k_i (fun r m' hr => ?_))
        obtain ⟨hr1, hr2⟩ := hr
        subst hr1
        subst hr2
        refine go_if_eq 39 dX2_addBell_26 rfl ⟨fun hc => absurd hc (by decide), fun _ => ?_⟩
        refine go_iload_n dX2_addBell_29 rfl ?_
        refine go_iconst (v := 1) dX2_addBell_30 (by decide) ?_
        refine go_bipush (v := 9) dX2_addBell_31 (by decide) ?_
        rcases Classical.em (1 ≤ a2 ∧ a2 ≤ 9) with hp | hp
        · have hF := hF.1 hp
          refine go_callN mX11_within "BellTongue" dX2_addBell_33 ln_X2_46 okX11_within isX11_within (As := [.int a2, .int 1, .int 9]) (S := []) rfl rfl (Nat.le_of_ble_eq_true rfl) (eX11_within G _ a2 1 9 m (fun r m' => r = 1 ∧ m = m') ⟨fun _ => ⟨rfl, rfl⟩, fun q => absurd hp q⟩) (k_i (fun r m' hr => ?_))
          obtain ⟨hr1, hr2⟩ := hr
          subst hr1
          subst hr2
          refine go_if_ne 41 dX2_addBell_36 rfl ⟨fun _ => ?_, fun hc => absurd hc (by decide)⟩
          refine go_aload_n dX2_addBell_41 rfl ?_
          refine go_getR (k := 1) (r := 3) dX2_addBell_42 sh_2 rfl inX2 (Nat.le_of_ble_eq_true rfl) lf_X2_9 rfl rfl ?_
          refine go_aload_n dX2_addBell_45 rfl ?_
          refine go_getI (k := 0) dX2_addBell_46 sh_2 rfl inX2 (Nat.le_of_ble_eq_true rfl) lf_X2_39 rfl ?_
          refine go_iload_n dX2_addBell_49 rfl ?_
          obtain ⟨hi, hF⟩ := hF
          refine go_iast dX2_addBell_50 sh_3 hi ?_
          obtain ⟨m1, em1⟩ : ∃ z : Mem, z = wI m 3 (m.1 2 0).toNatClampNeg a0 := ⟨_, rfl⟩
          rw [← em1]
          have hF := hF m1 em1
          refine go_aload_n dX2_addBell_51 rfl ?_
          refine go_getR (k := 2) (r := 4) dX2_addBell_52 sh_2 rfl inX2 (Nat.le_of_ble_eq_true rfl) lf_X2_15 rfl rfl ?_
          refine go_aload_n dX2_addBell_55 rfl ?_
          refine go_getI (k := 0) dX2_addBell_56 sh_2 rfl inX2 (Nat.le_of_ble_eq_true rfl) lf_X2_39 rfl ?_
          refine go_iload_n dX2_addBell_59 rfl ?_
          obtain ⟨hi, hF⟩ := hF
          refine go_iast dX2_addBell_60 sh_4 hi ?_
          obtain ⟨m2, em2⟩ : ∃ z : Mem, z = wI m1 4 (m1.1 2 0).toNatClampNeg a1 := ⟨_, rfl⟩
          rw [← em2]
          have hF := hF m2 em2
          refine go_aload_n dX2_addBell_61 rfl ?_
          refine go_getR (k := 3) (r := 5) dX2_addBell_62 sh_2 rfl inX2 (Nat.le_of_ble_eq_true rfl) lf_X2_18 rfl rfl ?_
          refine go_aload_n dX2_addBell_65 rfl ?_
          refine go_getI (k := 0) dX2_addBell_66 sh_2 rfl inX2 (Nat.le_of_ble_eq_true rfl) lf_X2_39 rfl ?_
          refine go_iload_n dX2_addBell_69 rfl ?_
          obtain ⟨hi, hF⟩ := hF
          refine go_iast dX2_addBell_70 sh_5 hi ?_
          obtain ⟨m3, em3⟩ : ∃ z : Mem, z = wI m2 5 (m2.1 2 0).toNatClampNeg a2 := ⟨_, rfl⟩
          rw [← em3]
          have hF := hF m3 em3
          refine go_aload_n dX2_addBell_71 rfl ?_
          refine go_dup dX2_addBell_72 rfl ?_
          refine go_getI (k := 0) dX2_addBell_73 sh_2 rfl inX2 (Nat.le_of_ble_eq_true rfl) lf_X2_39 rfl ?_
          refine go_iconst (v := 1) dX2_addBell_76 (by decide) ?_
          refine go_iadd dX2_addBell_77 ?_
          refine go_putI (k := 0) dX2_addBell_78 sh_2 rfl inX2 (Nat.le_of_ble_eq_true rfl) lf_X2_39 tyX2 tyX2_ok nmX2 rfl rfl (by decide +kernel) ?_
          obtain ⟨m4, em4⟩ : ∃ z : Mem, z = wI m3 2 0 ((m3.1 2 0) + 1) := ⟨_, rfl⟩
          rw [← em4]
          have hF := hF m4 em4
          refine go_aload_n dX2_addBell_81 rfl ?_
          refine go_getI (k := 0) dX2_addBell_82 sh_2 rfl inX2 (Nat.le_of_ble_eq_true rfl) lf_X2_39 rfl ?_
          refine go_iconst (v := 1) dX2_addBell_85 (by decide) ?_
          refine go_isub dX2_addBell_86 ?_
          exact go_iret (S := []) dX2_addBell_87 rfl ⟨_, rfl, hF⟩
        · have hF := hF.2 hp
          refine go_callN mX11_within "BellTongue" dX2_addBell_33 ln_X2_46 okX11_within isX11_within (As := [.int a2, .int 1, .int 9]) (S := []) rfl rfl (Nat.le_of_ble_eq_true rfl) (eX11_within G _ a2 1 9 m (fun r m' => r = 0 ∧ m = m') ⟨fun q => absurd q hp, fun _ => ⟨rfl, rfl⟩⟩) (k_i (fun r m' hr => ?_))
          obtain ⟨hr1, hr2⟩ := hr
          subst hr1
          subst hr2
          refine go_if_ne 41 dX2_addBell_36 rfl ⟨fun hc => absurd hc (by decide), fun _ => ?_⟩
          refine go_iconst (v := -1) dX2_addBell_39 (by decide) ?_
          exact go_iret (S := []) dX2_addBell_40 rfl ⟨_, rfl, hF⟩
      · have hF := hF.2 hp
        refine go_callN mX11_within "BellTongue" dX2_addBell_23 ln_X2_46 okX11_within isX11_within (As := [.int a1, .int 0, .int 9]) (S := []) rfl rfl (Nat.le_of_ble_eq_true rfl) (eX11_within G _ a1 0 9 m (fun r m' => r = 0 ∧ m = m') ⟨fun q => absurd q hp, fun _ => ⟨rfl, rfl⟩⟩) (k_i (fun r m' hr => ?_))
        obtain ⟨hr1, hr2⟩ := hr
        subst hr1
        subst hr2
        refine go_if_eq 39 dX2_addBell_26 rfl ⟨fun _ => ?_, fun hc => absurd hc (by decide)⟩
        refine go_iconst (v := -1) dX2_addBell_39 (by decide) ?_
        exact go_iret (S := []) dX2_addBell_40 rfl ⟨_, rfl, hF⟩
    · have hF := hF.2 hp
      refine go_callN mX11_within "BellTongue" dX2_addBell_13 ln_X2_46 okX11_within isX11_within (As := [.int a0, .int 1, .int 9]) (S := []) rfl rfl (Nat.le_of_ble_eq_true rfl) (eX11_within G _ a0 1 9 m (fun r m' => r = 0 ∧ m = m') ⟨fun q => absurd q hp, fun _ => ⟨rfl, rfl⟩⟩) (k_i (fun r m' hr => ?_))
      obtain ⟨hr1, hr2⟩ := hr
      subst hr1
      subst hr2
      refine go_if_eq 39 dX2_addBell_16 rfl ⟨fun _ => ?_, fun hc => absurd hc (by decide)⟩
      refine go_iconst (v := -1) dX2_addBell_39 (by decide) ?_
      exact go_iret (S := []) dX2_addBell_40 rfl ⟨_, rfl, hF⟩
theorem vX2_addWord (G : GP) (d : Nat) (a0 : Int32) (a1 : Int32) (a2 : Int32) (a3 : Int32) (a4 : Int32) (a5 : Int32) (m : Mem) (K : Int32 → Mem → Prop) (hF : ((10 ≤ (m.1 2 4)) → K (-1) m) ∧ ((¬ 10 ≤ (m.1 2 4)) → ((0 ≤ a4 ∧ a4 ≤ 3) → ((0 ≤ a5 ∧ a5 ≤ 99) → ∀ x1 : Int32, x1 = (m.1 2 4) * 4 → vp_in x1 40 ∧ ∀ m2 : Mem, m2 = wI m 6 x1.toNatClampNeg a0 → vp_in (x1 + 1) 40 ∧ ∀ m3 : Mem, m3 = wI m2 6 (x1 + 1).toNatClampNeg a1 → vp_in (x1 + 2) 40 ∧ ∀ m4 : Mem, m4 = wI m3 6 (x1 + 2).toNatClampNeg a2 → vp_in (x1 + 3) 40 ∧ ∀ m5 : Mem, m5 = wI m4 6 (x1 + 3).toNatClampNeg a3 → Gw G (d + 1) mX2_addWord 82 [.ref (ga G 2), .int a0, .int a1, .int a2, .int a3, .int a4, .int a5, .int x1, .int 0, uu] [] m5 (Qi K)) ∧ (¬ (0 ≤ a5 ∧ a5 ≤ 99) → K (-1) m)) ∧ (¬ (0 ≤ a4 ∧ a4 ≤ 3) → K (-1) m))) : Evi G (d + 1) mX2_addWord [.ref (ga G 2), .int a0, .int a1, .int a2, .int a3, .int a4, .int a5] m K := by
  refine Ev.go [.ref (ga G 2), .int a0, .int a1, .int a2, .int a3, .int a4, .int a5, uu, uu, uu] (by decide) (Nat.le_of_ble_eq_true rfl) rfl ?_
  refine go_aload_n dX2_addWord_0 rfl ?_
  refine go_getI (k := 4) dX2_addWord_1 sh_2 rfl inX2 (Nat.le_of_ble_eq_true rfl) lf_X2_43 rfl ?_
  refine go_bipush (v := 10) dX2_addWord_4 (by decide) ?_
  refine go_icmp_ge 30 dX2_addWord_6 rfl ⟨fun hc => ?_, fun hc => ?_⟩
  · have hF := hF.1 hc
    refine go_iconst (v := -1) dX2_addWord_30 (by decide) ?_
    exact go_iret (S := []) dX2_addWord_31 rfl ⟨_, rfl, hF⟩
  · have hF := hF.2 hc
    refine go_iload dX2_addWord_9 rfl ?_
    refine go_iconst (v := 0) dX2_addWord_11 (by decide) ?_
    refine go_iconst (v := 3) dX2_addWord_12 (by decide) ?_
    rcases Classical.em (0 ≤ a4 ∧ a4 ≤ 3) with hp | hp
    · have hF := hF.1 hp
      refine go_callN mX11_within "BellTongue" dX2_addWord_13 ln_X2_46 okX11_within isX11_within (As := [.int a4, .int 0, .int 3]) (S := []) rfl rfl (Nat.le_of_ble_eq_true rfl) (eX11_within G _ a4 0 3 m (fun r m' => r = 1 ∧ m = m') ⟨fun _ => ⟨rfl, rfl⟩, fun q => absurd hp q⟩) (k_i (fun r m' hr => ?_))
      obtain ⟨hr1, hr2⟩ := hr
      subst hr1
      subst hr2
      refine go_if_eq 30 dX2_addWord_16 rfl ⟨fun hc => absurd hc (by decide), fun _ => ?_⟩
      refine go_iload dX2_addWord_19 rfl ?_
      refine go_iconst (v := 0) dX2_addWord_21 (by decide) ?_
      refine go_bipush (v := 99) dX2_addWord_22 (by decide) ?_
      rcases Classical.em (0 ≤ a5 ∧ a5 ≤ 99) with hp | hp
      · have hF := hF.1 hp
        refine go_callN mX11_within "BellTongue" dX2_addWord_24 ln_X2_46 okX11_within isX11_within (As := [.int a5, .int 0, .int 99]) (S := []) rfl rfl (Nat.le_of_ble_eq_true rfl) (eX11_within G _ a5 0 99 m (fun r m' => r = 1 ∧ m = m') ⟨fun _ => ⟨rfl, rfl⟩, fun q => absurd hp q⟩) (k_i (fun r m' hr => ?_))
        obtain ⟨hr1, hr2⟩ := hr
        subst hr1
        subst hr2
        refine go_if_ne 32 dX2_addWord_27 rfl ⟨fun _ => ?_, fun hc => absurd hc (by decide)⟩
        refine go_aload_n dX2_addWord_32 rfl ?_
        refine go_getI (k := 4) dX2_addWord_33 sh_2 rfl inX2 (Nat.le_of_ble_eq_true rfl) lf_X2_43 rfl ?_
        refine go_iconst (v := 4) dX2_addWord_36 (by decide) ?_
        refine go_imul dX2_addWord_37 ?_
        refine Gw.namei (fun x1 ex1 => ?_)
        have hF := hF x1 ex1
        refine go_istore (L' := [.ref (ga G 2), .int a0, .int a1, .int a2, .int a3, .int a4, .int a5, .int x1, uu, uu]) dX2_addWord_38 (Nat.le_of_ble_eq_true rfl) rfl ?_
        refine go_aload_n dX2_addWord_40 rfl ?_
        refine go_getR (k := 5) (r := 6) dX2_addWord_41 sh_2 rfl inX2 (Nat.le_of_ble_eq_true rfl) lf_X2_21 rfl rfl ?_
        refine go_iload dX2_addWord_44 rfl ?_
        refine go_iload_n dX2_addWord_46 rfl ?_
        obtain ⟨hi, hF⟩ := hF
        refine go_iast dX2_addWord_47 sh_6 hi ?_
        obtain ⟨m2, em2⟩ : ∃ z : Mem, z = wI m 6 x1.toNatClampNeg a0 := ⟨_, rfl⟩
        rw [← em2]
        have hF := hF m2 em2
        refine go_aload_n dX2_addWord_48 rfl ?_
        refine go_getR (k := 5) (r := 6) dX2_addWord_49 sh_2 rfl inX2 (Nat.le_of_ble_eq_true rfl) lf_X2_21 rfl rfl ?_
        refine go_iload dX2_addWord_52 rfl ?_
        refine go_iconst (v := 1) dX2_addWord_54 (by decide) ?_
        refine go_iadd dX2_addWord_55 ?_
        refine go_iload_n dX2_addWord_56 rfl ?_
        obtain ⟨hi, hF⟩ := hF
        refine go_iast dX2_addWord_57 sh_6 hi ?_
        obtain ⟨m3, em3⟩ : ∃ z : Mem, z = wI m2 6 (x1 + 1).toNatClampNeg a1 := ⟨_, rfl⟩
        rw [← em3]
        have hF := hF m3 em3
        refine go_aload_n dX2_addWord_58 rfl ?_
        refine go_getR (k := 5) (r := 6) dX2_addWord_59 sh_2 rfl inX2 (Nat.le_of_ble_eq_true rfl) lf_X2_21 rfl rfl ?_
        refine go_iload dX2_addWord_62 rfl ?_
        refine go_iconst (v := 2) dX2_addWord_64 (by decide) ?_
        refine go_iadd dX2_addWord_65 ?_
        refine go_iload_n dX2_addWord_66 rfl ?_
        obtain ⟨hi, hF⟩ := hF
        refine go_iast dX2_addWord_67 sh_6 hi ?_
        obtain ⟨m4, em4⟩ : ∃ z : Mem, z = wI m3 6 (x1 + 2).toNatClampNeg a2 := ⟨_, rfl⟩
        rw [← em4]
        have hF := hF m4 em4
        refine go_aload_n dX2_addWord_68 rfl ?_
        refine go_getR (k := 5) (r := 6) dX2_addWord_69 sh_2 rfl inX2 (Nat.le_of_ble_eq_true rfl) lf_X2_21 rfl rfl ?_
        refine go_iload dX2_addWord_72 rfl ?_
        refine go_iconst (v := 3) dX2_addWord_74 (by decide) ?_
        refine go_iadd dX2_addWord_75 ?_
        refine go_iload dX2_addWord_76 rfl ?_
        obtain ⟨hi, hF⟩ := hF
        refine go_iast dX2_addWord_78 sh_6 hi ?_
        obtain ⟨m5, em5⟩ : ∃ z : Mem, z = wI m4 6 (x1 + 3).toNatClampNeg a3 := ⟨_, rfl⟩
        rw [← em5]
        have hF := hF m5 em5
        refine go_iconst (v := 0) dX2_addWord_79 (by decide) ?_
        refine go_istore (L' := [.ref (ga G 2), .int a0, .int a1, .int a2, .int a3, .int a4, .int a5, .int x1, .int 0, uu]) dX2_addWord_80 (Nat.le_of_ble_eq_true rfl) rfl ?_
        exact hF
      · have hF := hF.2 hp
        refine go_callN mX11_within "BellTongue" dX2_addWord_24 ln_X2_46 okX11_within isX11_within (As := [.int a5, .int 0, .int 99]) (S := []) rfl rfl (Nat.le_of_ble_eq_true rfl) (eX11_within G _ a5 0 99 m (fun r m' => r = 0 ∧ m = m') ⟨fun q => absurd q hp, fun _ => ⟨rfl, rfl⟩⟩) (k_i (fun r m' hr => ?_))
        obtain ⟨hr1, hr2⟩ := hr
        subst hr1
        subst hr2
        refine go_if_ne 32 dX2_addWord_27 rfl ⟨fun hc => absurd hc (by decide), fun _ => ?_⟩
        refine go_iconst (v := -1) dX2_addWord_30 (by decide) ?_
        exact go_iret (S := []) dX2_addWord_31 rfl ⟨_, rfl, hF⟩
    · have hF := hF.2 hp
      refine go_callN mX11_within "BellTongue" dX2_addWord_13 ln_X2_46 okX11_within isX11_within (As := [.int a4, .int 0, .int 3]) (S := []) rfl rfl (Nat.le_of_ble_eq_true rfl) (eX11_within G _ a4 0 3 m (fun r m' => r = 0 ∧ m = m') ⟨fun q => absurd q hp, fun _ => ⟨rfl, rfl⟩⟩) (k_i (fun r m' hr => ?_))
      obtain ⟨hr1, hr2⟩ := hr
      subst hr1
      subst hr2
      refine go_if_eq 30 dX2_addWord_16 rfl ⟨fun _ => ?_, fun hc => absurd hc (by decide)⟩
      refine go_iconst (v := -1) dX2_addWord_30 (by decide) ?_
      exact go_iret (S := []) dX2_addWord_31 rfl ⟨_, rfl, hF⟩
theorem vX2_addWord_82 (G : GP) (d : Nat) (u1 : Value) (u2 : Value) (u3 : Value) (u4 : Value) (l5 : Int32) (l6 : Int32) (l7 : Int32) (l8 : Int32) (u9 : Value) (m : Mem) (K : Int32 → Mem → Prop) (hF : ((4 ≤ l8) → Gw G (d + 1) mX2_addWord 115 [.ref (ga G 2), uu, uu, uu, uu, .int l5, .int l6, .int l7, .int l8, .int l8] [] m (Qi K)) ∧ ((¬ 4 ≤ l8) → vp_in (l7 + l8) 40 ∧ ((0 ≤ (m.1 6 (l7 + l8).toNatClampNeg) ∧ (m.1 6 (l7 + l8).toNatClampNeg) < m.1 2 0) → ∀ x6 : Int32, x6 = l8 + 1 → Gw G (d + 1) mX2_addWord 82 [.ref (ga G 2), uu, uu, uu, uu, .int l5, .int l6, .int l7, .int x6, uu] [] m (Qi K)) ∧ (¬ (0 ≤ (m.1 6 (l7 + l8).toNatClampNeg) ∧ (m.1 6 (l7 + l8).toNatClampNeg) < m.1 2 0) → Gw G (d + 1) mX2_addWord 115 [.ref (ga G 2), uu, uu, uu, uu, .int l5, .int l6, .int l7, .int l8, .int l8] [] m (Qi K)))) : Gw G (d + 1) mX2_addWord 82 [.ref (ga G 2), u1, u2, u3, u4, .int l5, .int l6, .int l7, .int l8, u9] [] m (Qi K) := by
  refine Gw.weak (L' := [.ref (ga G 2), uu, uu, uu, uu, .int l5, .int l6, .int l7, .int l8, uu]) ⟨Or.inl rfl, Or.inr rfl, Or.inr rfl, Or.inr rfl, Or.inr rfl, Or.inl rfl, Or.inl rfl, Or.inl rfl, Or.inl rfl, Or.inr rfl, trivial⟩ ?_
  refine go_iload dX2_addWord_82 rfl ?_
  refine go_iconst (v := 4) dX2_addWord_84 (by decide) ?_
  refine go_icmp_ge 111 dX2_addWord_85 rfl ⟨fun hc => ?_, fun hc => ?_⟩
  · have hF := hF.1 hc
    refine go_iload dX2_addWord_111 rfl ?_
    refine go_istore (L' := [.ref (ga G 2), uu, uu, uu, uu, .int l5, .int l6, .int l7, .int l8, .int l8]) dX2_addWord_113 (Nat.le_of_ble_eq_true rfl) rfl ?_
    exact hF
  · have hF := hF.2 hc
    refine go_aload_n dX2_addWord_88 rfl ?_
    refine go_aload_n dX2_addWord_89 rfl ?_
    refine go_getR (k := 5) (r := 6) dX2_addWord_90 sh_2 rfl inX2 (Nat.le_of_ble_eq_true rfl) lf_X2_21 rfl rfl ?_
    refine go_iload dX2_addWord_93 rfl ?_
    refine go_iload dX2_addWord_95 rfl ?_
    refine go_iadd dX2_addWord_97 ?_
    obtain ⟨hi, hF⟩ := hF
    refine go_iald dX2_addWord_98 sh_6 hi ?_
    rcases Classical.em (0 ≤ (m.1 6 (l7 + l8).toNatClampNeg) ∧ (m.1 6 (l7 + l8).toNatClampNeg) < m.1 2 0) with hp | hp
    · have hF := hF.1 hp
      refine go_callV mX2_hasBell dX2_addWord_99 lm_X2_50 okX2_hasBell isX2_hasBell sh_2 rfl (As := [.int (m.1 6 (l7 + l8).toNatClampNeg)]) (S := []) rfl rfl (Nat.le_of_ble_eq_true rfl) (eX2_hasBell G _ (m.1 6 (l7 + l8).toNatClampNeg) m (fun r m' => r = 1 ∧ m = m') ⟨fun _ => ⟨rfl, rfl⟩, fun q => absurd hp q⟩) (k_i (fun r m' hr => ?_))
      obtain ⟨hr1, hr2⟩ := hr
      subst hr1
      subst hr2
      refine go_if_eq 111 dX2_addWord_102 rfl ⟨fun hc => absurd hc (by decide), fun _ => ?_⟩
      obtain ⟨x6, ex6⟩ : ∃ z : Int32, z = l8 + 1 := ⟨_, rfl⟩
      have hF := hF x6 ex6
      refine go_iinc (v := x6) (L' := [.ref (ga G 2), uu, uu, uu, uu, .int l5, .int l6, .int l7, .int x6, uu]) dX2_addWord_105 rfl (by rw [ex6]; rfl) (Nat.le_of_ble_eq_true rfl) rfl ?_
      refine go_goto 82 dX2_addWord_108 rfl ?_
      exact hF
    · have hF := hF.2 hp
      refine go_callV mX2_hasBell dX2_addWord_99 lm_X2_50 okX2_hasBell isX2_hasBell sh_2 rfl (As := [.int (m.1 6 (l7 + l8).toNatClampNeg)]) (S := []) rfl rfl (Nat.le_of_ble_eq_true rfl) (eX2_hasBell G _ (m.1 6 (l7 + l8).toNatClampNeg) m (fun r m' => r = 0 ∧ m = m') ⟨fun q => absurd q hp, fun _ => ⟨rfl, rfl⟩⟩) (k_i (fun r m' hr => ?_))
      obtain ⟨hr1, hr2⟩ := hr
      subst hr1
      subst hr2
      refine go_if_eq 111 dX2_addWord_102 rfl ⟨fun _ => ?_, fun hc => absurd hc (by decide)⟩
      refine go_iload dX2_addWord_111 rfl ?_
      refine go_istore (L' := [.ref (ga G 2), uu, uu, uu, uu, .int l5, .int l6, .int l7, .int l8, .int l8]) dX2_addWord_113 (Nat.le_of_ble_eq_true rfl) rfl ?_
      exact hF
theorem vX2_addWord_115 (G : GP) (d : Nat) (u1 : Value) (u2 : Value) (u3 : Value) (u4 : Value) (l5 : Int32) (l6 : Int32) (l7 : Int32) (l8 : Int32) (l9 : Int32) (m : Mem) (K : Int32 → Mem → Prop) (hF : ((4 ≤ l9) → ((¬ l8 = 0) → vp_in (m.1 2 4) 10 ∧ ∀ m7 : Mem, m7 = wI m 7 (m.1 2 4).toNatClampNeg l8 → vp_in (m7.1 2 4) 10 ∧ ∀ m8 : Mem, m8 = wI m7 8 (m7.1 2 4).toNatClampNeg l5 → vp_in (m8.1 2 4) 10 ∧ ∀ m9 : Mem, m9 = wI m8 9 (m8.1 2 4).toNatClampNeg l6 → ∀ m10 : Mem, m10 = wI m9 2 4 ((m9.1 2 4) + 1) → K ((m10.1 2 4) - 1) m10) ∧ ((l8 = 0) → K (-1) m)) ∧ ((¬ 4 ≤ l9) → vp_in (l7 + l9) 40 ∧ (((m.1 6 (l7 + l9).toNatClampNeg) = (-1)) → ∀ x11 : Int32, x11 = l9 + 1 → Gw G (d + 1) mX2_addWord 115 [.ref (ga G 2), uu, uu, uu, uu, .int l5, .int l6, .int l7, .int l8, .int x11] [] m (Qi K)) ∧ ((¬ (m.1 6 (l7 + l9).toNatClampNeg) = (-1)) → K (-1) m))) : Gw G (d + 1) mX2_addWord 115 [.ref (ga G 2), u1, u2, u3, u4, .int l5, .int l6, .int l7, .int l8, .int l9] [] m (Qi K) := by
  refine Gw.weak (L' := [.ref (ga G 2), uu, uu, uu, uu, .int l5, .int l6, .int l7, .int l8, .int l9]) ⟨Or.inl rfl, Or.inr rfl, Or.inr rfl, Or.inr rfl, Or.inr rfl, Or.inl rfl, Or.inl rfl, Or.inl rfl, Or.inl rfl, Or.inl rfl, trivial⟩ ?_
  refine go_iload dX2_addWord_115 rfl ?_
  refine go_iconst (v := 4) dX2_addWord_117 (by decide) ?_
  refine go_icmp_ge 143 dX2_addWord_118 rfl ⟨fun hc => ?_, fun hc => ?_⟩
  · have hF := hF.1 hc
    refine go_iload dX2_addWord_143 rfl ?_
    refine go_if_ne 150 dX2_addWord_145 rfl ⟨fun hc => ?_, fun hc => ?_⟩
    · have hF := hF.1 hc
      refine go_aload_n dX2_addWord_150 rfl ?_
      refine go_getR (k := 6) (r := 7) dX2_addWord_151 sh_2 rfl inX2 (Nat.le_of_ble_eq_true rfl) lf_X2_24 rfl rfl ?_
      refine go_aload_n dX2_addWord_154 rfl ?_
      refine go_getI (k := 4) dX2_addWord_155 sh_2 rfl inX2 (Nat.le_of_ble_eq_true rfl) lf_X2_43 rfl ?_
      refine go_iload dX2_addWord_158 rfl ?_
      obtain ⟨hi, hF⟩ := hF
      refine go_iast dX2_addWord_160 sh_7 hi ?_
      obtain ⟨m7, em7⟩ : ∃ z : Mem, z = wI m 7 (m.1 2 4).toNatClampNeg l8 := ⟨_, rfl⟩
      rw [← em7]
      have hF := hF m7 em7
      refine go_aload_n dX2_addWord_161 rfl ?_
      refine go_getR (k := 7) (r := 8) dX2_addWord_162 sh_2 rfl inX2 (Nat.le_of_ble_eq_true rfl) lf_X2_27 rfl rfl ?_
      refine go_aload_n dX2_addWord_165 rfl ?_
      refine go_getI (k := 4) dX2_addWord_166 sh_2 rfl inX2 (Nat.le_of_ble_eq_true rfl) lf_X2_43 rfl ?_
      refine go_iload dX2_addWord_169 rfl ?_
      obtain ⟨hi, hF⟩ := hF
      refine go_iast dX2_addWord_171 sh_8 hi ?_
      obtain ⟨m8, em8⟩ : ∃ z : Mem, z = wI m7 8 (m7.1 2 4).toNatClampNeg l5 := ⟨_, rfl⟩
      rw [← em8]
      have hF := hF m8 em8
      refine go_aload_n dX2_addWord_172 rfl ?_
      refine go_getR (k := 8) (r := 9) dX2_addWord_173 sh_2 rfl inX2 (Nat.le_of_ble_eq_true rfl) lf_X2_30 rfl rfl ?_
      refine go_aload_n dX2_addWord_176 rfl ?_
      refine go_getI (k := 4) dX2_addWord_177 sh_2 rfl inX2 (Nat.le_of_ble_eq_true rfl) lf_X2_43 rfl ?_
      refine go_iload dX2_addWord_180 rfl ?_
      obtain ⟨hi, hF⟩ := hF
      refine go_iast dX2_addWord_182 sh_9 hi ?_
      obtain ⟨m9, em9⟩ : ∃ z : Mem, z = wI m8 9 (m8.1 2 4).toNatClampNeg l6 := ⟨_, rfl⟩
      rw [← em9]
      have hF := hF m9 em9
      refine go_aload_n dX2_addWord_183 rfl ?_
      refine go_dup dX2_addWord_184 rfl ?_
      refine go_getI (k := 4) dX2_addWord_185 sh_2 rfl inX2 (Nat.le_of_ble_eq_true rfl) lf_X2_43 rfl ?_
      refine go_iconst (v := 1) dX2_addWord_188 (by decide) ?_
      refine go_iadd dX2_addWord_189 ?_
      refine go_putI (k := 4) dX2_addWord_190 sh_2 rfl inX2 (Nat.le_of_ble_eq_true rfl) lf_X2_43 tyX2 tyX2_ok nmX2 rfl rfl (by decide +kernel) ?_
      obtain ⟨m10, em10⟩ : ∃ z : Mem, z = wI m9 2 4 ((m9.1 2 4) + 1) := ⟨_, rfl⟩
      rw [← em10]
      have hF := hF m10 em10
      refine go_aload_n dX2_addWord_193 rfl ?_
      refine go_getI (k := 4) dX2_addWord_194 sh_2 rfl inX2 (Nat.le_of_ble_eq_true rfl) lf_X2_43 rfl ?_
      refine go_iconst (v := 1) dX2_addWord_197 (by decide) ?_
      refine go_isub dX2_addWord_198 ?_
      exact go_iret (S := []) dX2_addWord_199 rfl ⟨_, rfl, hF⟩
    · have hF := hF.2 hc
      refine go_iconst (v := -1) dX2_addWord_148 (by decide) ?_
      exact go_iret (S := []) dX2_addWord_149 rfl ⟨_, rfl, hF⟩
  · have hF := hF.2 hc
    refine go_aload_n dX2_addWord_121 rfl ?_
    refine go_getR (k := 5) (r := 6) dX2_addWord_122 sh_2 rfl inX2 (Nat.le_of_ble_eq_true rfl) lf_X2_21 rfl rfl ?_
    refine go_iload dX2_addWord_125 rfl ?_
    refine go_iload dX2_addWord_127 rfl ?_
    refine go_iadd dX2_addWord_129 ?_
    obtain ⟨hi, hF⟩ := hF
    refine go_iald dX2_addWord_130 sh_6 hi ?_
    refine go_iconst (v := -1) dX2_addWord_131 (by decide) ?_
    refine go_icmp_eq 137 dX2_addWord_132 rfl ⟨fun hc => ?_, fun hc => ?_⟩
    · have hF := hF.1 hc
      obtain ⟨x11, ex11⟩ : ∃ z : Int32, z = l9 + 1 := ⟨_, rfl⟩
      have hF := hF x11 ex11
      refine go_iinc (v := x11) (L' := [.ref (ga G 2), uu, uu, uu, uu, .int l5, .int l6, .int l7, .int l8, .int x11]) dX2_addWord_137 rfl (by rw [ex11]; rfl) (Nat.le_of_ble_eq_true rfl) rfl ?_
      refine go_goto 115 dX2_addWord_140 rfl ?_
      exact hF
    · have hF := hF.2 hc
      refine go_iconst (v := -1) dX2_addWord_135 (by decide) ?_
      exact go_iret (S := []) dX2_addWord_136 rfl ⟨_, rfl, hF⟩
theorem vX2_menFor (G : GP) (d : Nat) (a0 : Int32) (m : Mem) (K : Int32 → Mem → Prop) (hF : Gw G (d + 1) mX2_menFor 4 [.ref (ga G 2), .int a0, .int 0, .int 0, uu] [] m (Qi K)) : Evi G (d + 1) mX2_menFor [.ref (ga G 2), .int a0] m K := by
  refine Ev.go [.ref (ga G 2), .int a0, uu, uu, uu] (by decide) (Nat.le_of_ble_eq_true rfl) rfl ?_
  refine go_iconst (v := 0) dX2_menFor_0 (by decide) ?_
  refine go_istore_n (L' := [.ref (ga G 2), .int a0, .int 0, uu, uu]) dX2_menFor_1 (Nat.le_of_ble_eq_true rfl) rfl ?_
  refine go_iconst (v := 0) dX2_menFor_2 (by decide) ?_
  refine go_istore_n (L' := [.ref (ga G 2), .int a0, .int 0, .int 0, uu]) dX2_menFor_3 (Nat.le_of_ble_eq_true rfl) rfl ?_
  exact hF
theorem vX2_menFor_4 (G : GP) (d : Nat) (l1 : Int32) (l2 : Int32) (l3 : Int32) (u4 : Value) (m : Mem) (K : Int32 → Mem → Prop) (hF : vp_in l1 10 ∧ (((m.1 7 l1.toNatClampNeg) ≤ l3) → K l2 m) ∧ ((¬ (m.1 7 l1.toNatClampNeg) ≤ l3) → vp_in ((l1 * 4) + l3) 40 ∧ ∀ x1 : Int32, x1 = m.1 6 ((l1 * 4) + l3).toNatClampNeg → ((0 ≤ x1 ∧ x1 < m.1 2 0) → vp_in x1 6 ∧ ∀ x2 : Int32, x2 = imax l2 (m.1 5 x1.toNatClampNeg) → ∀ x3 : Int32, x3 = l3 + 1 → Gw G (d + 1) mX2_menFor 4 [.ref (ga G 2), .int l1, .int x2, .int x3, .int x1] [] m (Qi K)) ∧ (¬ (0 ≤ x1 ∧ x1 < m.1 2 0) → ∀ x4 : Int32, x4 = imax l2 0 → ∀ x5 : Int32, x5 = l3 + 1 → Gw G (d + 1) mX2_menFor 4 [.ref (ga G 2), .int l1, .int x4, .int x5, .int x1] [] m (Qi K)))) : Gw G (d + 1) mX2_menFor 4 [.ref (ga G 2), .int l1, .int l2, .int l3, u4] [] m (Qi K) := by
  refine Gw.weak (L' := [.ref (ga G 2), .int l1, .int l2, .int l3, uu]) ⟨Or.inl rfl, Or.inl rfl, Or.inl rfl, Or.inl rfl, Or.inr rfl, trivial⟩ ?_
  refine go_iload_n dX2_menFor_4 rfl ?_
  refine go_aload_n dX2_menFor_5 rfl ?_
  refine go_getR (k := 6) (r := 7) dX2_menFor_6 sh_2 rfl inX2 (Nat.le_of_ble_eq_true rfl) lf_X2_24 rfl rfl ?_
  refine go_iload_n dX2_menFor_9 rfl ?_
  obtain ⟨hi, hF⟩ := hF
  refine go_iald dX2_menFor_10 sh_7 hi ?_
  refine go_icmp_ge 57 dX2_menFor_11 rfl ⟨fun hc => ?_, fun hc => ?_⟩
  · have hF := hF.1 hc
    refine go_iload_n dX2_menFor_57 rfl ?_
    exact go_iret (S := []) dX2_menFor_58 rfl ⟨_, rfl, hF⟩
  · have hF := hF.2 hc
    refine go_aload_n dX2_menFor_14 rfl ?_
    refine go_getR (k := 5) (r := 6) dX2_menFor_15 sh_2 rfl inX2 (Nat.le_of_ble_eq_true rfl) lf_X2_21 rfl rfl ?_
    refine go_iload_n dX2_menFor_18 rfl ?_
    refine go_iconst (v := 4) dX2_menFor_19 (by decide) ?_
    refine go_imul dX2_menFor_20 ?_
    refine go_iload_n dX2_menFor_21 rfl ?_
    refine go_iadd dX2_menFor_22 ?_
    obtain ⟨hi, hF⟩ := hF
    refine go_iald dX2_menFor_23 sh_6 hi ?_
    refine Gw.namei (fun x1 ex1 => ?_)
    have hF := hF x1 ex1
    refine go_istore (L' := [.ref (ga G 2), .int l1, .int l2, .int l3, .int x1]) dX2_menFor_24 (Nat.le_of_ble_eq_true rfl) rfl ?_
    refine go_iload_n dX2_menFor_26 rfl ?_
    refine go_aload_n dX2_menFor_27 rfl ?_
    refine go_iload dX2_menFor_28 rfl ?_
    rcases Classical.em (0 ≤ x1 ∧ x1 < m.1 2 0) with hp | hp
    · have hF := hF.1 hp
      refine go_callV mX2_hasBell dX2_menFor_30 lm_X2_50 okX2_hasBell isX2_hasBell sh_2 rfl (As := [.int x1]) (S := [.int l2]) rfl rfl (Nat.le_of_ble_eq_true rfl) (eX2_hasBell G _ x1 m (fun r m' => r = 1 ∧ m = m') ⟨fun _ => ⟨rfl, rfl⟩, fun q => absurd hp q⟩) (k_i (fun r m' hr => ?_))
      obtain ⟨hr1, hr2⟩ := hr
      subst hr1
      subst hr2
      refine go_if_eq 46 dX2_menFor_33 rfl ⟨fun hc => absurd hc (by decide), fun _ => ?_⟩
      refine go_aload_n dX2_menFor_36 rfl ?_
      refine go_getR (k := 3) (r := 5) dX2_menFor_37 sh_2 rfl inX2 (Nat.le_of_ble_eq_true rfl) lf_X2_18 rfl rfl ?_
      refine go_iload dX2_menFor_40 rfl ?_
      obtain ⟨hi, hF⟩ := hF
      refine go_iald dX2_menFor_42 sh_5 hi ?_
      refine go_goto 47 dX2_menFor_43 rfl ?_
      refine go_mmax dX2_menFor_47 lm_X2_57 (Nat.le_of_ble_eq_true rfl) ?_
      refine Gw.namei (fun x2 ex2 => ?_)
      have hF := hF x2 ex2
      refine go_istore_n (L' := [.ref (ga G 2), .int l1, .int x2, .int l3, .int x1]) dX2_menFor_50 (Nat.le_of_ble_eq_true rfl) rfl ?_
      obtain ⟨x3, ex3⟩ : ∃ z : Int32, z = l3 + 1 := ⟨_, rfl⟩
      have hF := hF x3 ex3
      refine go_iinc (v := x3) (L' := [.ref (ga G 2), .int l1, .int x2, .int x3, .int x1]) dX2_menFor_51 rfl (by rw [ex3]; rfl) (Nat.le_of_ble_eq_true rfl) rfl ?_
      refine go_goto 4 dX2_menFor_54 rfl ?_
      exact hF
    · have hF := hF.2 hp
      refine go_callV mX2_hasBell dX2_menFor_30 lm_X2_50 okX2_hasBell isX2_hasBell sh_2 rfl (As := [.int x1]) (S := [.int l2]) rfl rfl (Nat.le_of_ble_eq_true rfl) (eX2_hasBell G _ x1 m (fun r m' => r = 0 ∧ m = m') ⟨fun q => absurd q hp, fun _ => ⟨rfl, rfl⟩⟩) (k_i (fun r m' hr => ?_))
      obtain ⟨hr1, hr2⟩ := hr
      subst hr1
      subst hr2
      refine go_if_eq 46 dX2_menFor_33 rfl ⟨fun _ => ?_, fun hc => absurd hc (by decide)⟩
      refine go_iconst (v := 0) dX2_menFor_46 (by decide) ?_
      refine go_mmax dX2_menFor_47 lm_X2_57 (Nat.le_of_ble_eq_true rfl) ?_
      refine Gw.namei (fun x4 ex4 => ?_)
      have hF := hF x4 ex4
      refine go_istore_n (L' := [.ref (ga G 2), .int l1, .int x4, .int l3, .int x1]) dX2_menFor_50 (Nat.le_of_ble_eq_true rfl) rfl ?_
      obtain ⟨x5, ex5⟩ : ∃ z : Int32, z = l3 + 1 := ⟨_, rfl⟩
      have hF := hF x5 ex5
      refine go_iinc (v := x5) (L' := [.ref (ga G 2), .int l1, .int x4, .int x5, .int x1]) dX2_menFor_51 rfl (by rw [ex5]; rfl) (Nat.le_of_ble_eq_true rfl) rfl ?_
      refine go_goto 4 dX2_menFor_54 rfl ?_
      exact hF
theorem vX2_between (G : GP) (d : Nat) (a0 : Int32) (a1 : Int32) (m : Mem) (K : Int32 → Mem → Prop) (hF : vp_in a1 10 ∧ Evi G (d + 1) mX2_edits [.ref (ga G 2), .int a0, .ref (ga G 6), .int (a1 * 4), .int (m.1 7 a1.toNatClampNeg)] m (fun r2 m1 => K r2 m1)) : Evi G (d + 2) mX2_between [.ref (ga G 2), .int a0, .int a1] m K := by
  refine Ev.go [.ref (ga G 2), .int a0, .int a1] (by decide) (Nat.le_of_ble_eq_true rfl) rfl ?_
  refine go_aload_n dX2_between_0 rfl ?_
  refine go_iload_n dX2_between_1 rfl ?_
  refine go_aload_n dX2_between_2 rfl ?_
  refine go_getR (k := 5) (r := 6) dX2_between_3 sh_2 rfl inX2 (Nat.le_of_ble_eq_true rfl) lf_X2_21 rfl rfl ?_
  refine go_iload_n dX2_between_6 rfl ?_
  refine go_iconst (v := 4) dX2_between_7 (by decide) ?_
  refine go_imul dX2_between_8 ?_
  refine go_aload_n dX2_between_9 rfl ?_
  refine go_getR (k := 6) (r := 7) dX2_between_10 sh_2 rfl inX2 (Nat.le_of_ble_eq_true rfl) lf_X2_24 rfl rfl ?_
  refine go_iload_n dX2_between_13 rfl ?_
  obtain ⟨hi, hF⟩ := hF
  refine go_iald dX2_between_14 sh_7 hi ?_
  refine go_callV mX2_edits dX2_between_15 lm_X2_63 okX2_edits isX2_edits sh_2 rfl (As := [.int a0, .ref (ga G 6), .int (a1 * 4), .int (m.1 7 a1.toNatClampNeg)]) (S := []) rfl rfl (Nat.le_of_ble_eq_true rfl) hF (k_i (fun r2 m1 hF => ?_))
  exact go_iret (S := []) dX2_between_18 rfl ⟨_, rfl, hF⟩
theorem vX2_edits (G : GP) (d : Nat) (a0 : Int32) (p1 p1l : Nat) (hp1 : SH[p1]? = some (100, p1l, [])) (a2 : Int32) (a3 : Int32) (m : Mem) (K : Int32 → Mem → Prop) (hF : vp_in a0 10 ∧ ∀ x1 : Int32, x1 = m.1 7 a0.toNatClampNeg → Gw G (d + 1) mX2_edits 11 [.ref (ga G 2), .int a0, .ref (ga G p1), .int a2, .int a3, .int x1, .int 0, uu, uu, uu, uu] [] m (Qi K)) : Evi G (d + 1) mX2_edits [.ref (ga G 2), .int a0, .ref (ga G p1), .int a2, .int a3] m K := by
  refine Ev.go [.ref (ga G 2), .int a0, .ref (ga G p1), .int a2, .int a3, uu, uu, uu, uu, uu, uu] (by decide) (Nat.le_of_ble_eq_true rfl) rfl ?_
  refine go_aload_n dX2_edits_0 rfl ?_
  refine go_getR (k := 6) (r := 7) dX2_edits_1 sh_2 rfl inX2 (Nat.le_of_ble_eq_true rfl) lf_X2_24 rfl rfl ?_
  refine go_iload_n dX2_edits_4 rfl ?_
  obtain ⟨hi, hF⟩ := hF
  refine go_iald dX2_edits_5 sh_7 hi ?_
  refine Gw.namei (fun x1 ex1 => ?_)
  have hF := hF x1 ex1
  refine go_istore (L' := [.ref (ga G 2), .int a0, .ref (ga G p1), .int a2, .int a3, .int x1, uu, uu, uu, uu, uu]) dX2_edits_6 (Nat.le_of_ble_eq_true rfl) rfl ?_
  refine go_iconst (v := 0) dX2_edits_8 (by decide) ?_
  refine go_istore (L' := [.ref (ga G 2), .int a0, .ref (ga G p1), .int a2, .int a3, .int x1, .int 0, uu, uu, uu, uu]) dX2_edits_9 (Nat.le_of_ble_eq_true rfl) rfl ?_
  exact hF
theorem vX2_edits_11 (G : GP) (d : Nat) (l1 : Int32) (p1 p1l : Nat) (hp1 : SH[p1]? = some (100, p1l, [])) (l3 : Int32) (l4 : Int32) (l5 : Int32) (l6 : Int32) (u7 : Value) (u8 : Value) (u9 : Value) (u10 : Value) (m : Mem) (K : Int32 → Mem → Prop) (hF : ((l5 < l6) → Gw G (d + 1) mX2_edits 36 [.ref (ga G 2), .int l1, .ref (ga G p1), .int l3, .int l4, .int l5, .int 0, uu, uu, uu, uu] [] m (Qi K)) ∧ ((¬ l5 < l6) → vp_in l6 5 ∧ ∀ m2 : Mem, m2 = wI m 10 l6.toNatClampNeg l6 → ∀ x3 : Int32, x3 = l6 + 1 → Gw G (d + 1) mX2_edits 11 [.ref (ga G 2), .int l1, .ref (ga G p1), .int l3, .int l4, .int l5, .int x3, uu, uu, uu, uu] [] m2 (Qi K))) : Gw G (d + 1) mX2_edits 11 [.ref (ga G 2), .int l1, .ref (ga G p1), .int l3, .int l4, .int l5, .int l6, u7, u8, u9, u10] [] m (Qi K) := by
  refine Gw.weak (L' := [.ref (ga G 2), .int l1, .ref (ga G p1), .int l3, .int l4, .int l5, .int l6, uu, uu, uu, uu]) ⟨Or.inl rfl, Or.inl rfl, Or.inl rfl, Or.inl rfl, Or.inl rfl, Or.inl rfl, Or.inl rfl, Or.inr rfl, Or.inr rfl, Or.inr rfl, Or.inr rfl, trivial⟩ ?_
  refine go_iload dX2_edits_11 rfl ?_
  refine go_iload dX2_edits_13 rfl ?_
  refine go_icmp_gt 33 dX2_edits_15 rfl ⟨fun hc => ?_, fun hc => ?_⟩
  · have hF := hF.1 hc
    refine go_iconst (v := 0) dX2_edits_33 (by decide) ?_
    refine go_istore (L' := [.ref (ga G 2), .int l1, .ref (ga G p1), .int l3, .int l4, .int l5, .int 0, uu, uu, uu, uu]) dX2_edits_34 (Nat.le_of_ble_eq_true rfl) rfl ?_
    exact hF
  · have hF := hF.2 hc
    refine go_aload_n dX2_edits_18 rfl ?_
    refine go_getR (k := 9) (r := 10) dX2_edits_19 sh_2 rfl inX2 (Nat.le_of_ble_eq_true rfl) lf_X2_33 rfl rfl ?_
    refine go_iload dX2_edits_22 rfl ?_
    refine go_iload dX2_edits_24 rfl ?_
    obtain ⟨hi, hF⟩ := hF
    refine go_iast dX2_edits_26 sh_10 hi ?_
    obtain ⟨m2, em2⟩ : ∃ z : Mem, z = wI m 10 l6.toNatClampNeg l6 := ⟨_, rfl⟩
    rw [← em2]
    have hF := hF m2 em2
    obtain ⟨x3, ex3⟩ : ∃ z : Int32, z = l6 + 1 := ⟨_, rfl⟩
    have hF := hF x3 ex3
    refine go_iinc (v := x3) (L' := [.ref (ga G 2), .int l1, .ref (ga G p1), .int l3, .int l4, .int l5, .int x3, uu, uu, uu, uu]) dX2_edits_27 rfl (by rw [ex3]; rfl) (Nat.le_of_ble_eq_true rfl) rfl ?_
    refine go_goto 11 dX2_edits_30 rfl ?_
    exact hF
theorem vX2_edits_36 (G : GP) (d : Nat) (l1 : Int32) (p1 p1l : Nat) (hp1 : SH[p1]? = some (100, p1l, [])) (l3 : Int32) (l4 : Int32) (l5 : Int32) (l6 : Int32) (u7 : Value) (u8 : Value) (u9 : Value) (u10 : Value) (m : Mem) (K : Int32 → Mem → Prop) (hF : ((l4 ≤ l6) → vp_in l5 5 ∧ K (m.1 10 l5.toNatClampNeg) m) ∧ ((¬ l4 ≤ l6) → ∀ x4 : Int32, x4 = m.1 10 0 → ∀ m5 : Mem, m5 = wI m 10 0 (l6 + 1) → Gw G (d + 1) mX2_edits 64 [.ref (ga G 2), .int l1, .ref (ga G p1), .int l3, .int l4, .int l5, .int l6, .int x4, .int 1, uu, uu] [] m5 (Qi K))) : Gw G (d + 1) mX2_edits 36 [.ref (ga G 2), .int l1, .ref (ga G p1), .int l3, .int l4, .int l5, .int l6, u7, u8, u9, u10] [] m (Qi K) := by
  refine Gw.weak (L' := [.ref (ga G 2), .int l1, .ref (ga G p1), .int l3, .int l4, .int l5, .int l6, uu, uu, uu, uu]) ⟨Or.inl rfl, Or.inl rfl, Or.inl rfl, Or.inl rfl, Or.inl rfl, Or.inl rfl, Or.inl rfl, Or.inr rfl, Or.inr rfl, Or.inr rfl, Or.inr rfl, trivial⟩ ?_
  refine go_iload dX2_edits_36 rfl ?_
  refine go_iload dX2_edits_38 rfl ?_
  refine go_icmp_ge 165 dX2_edits_40 rfl ⟨fun hc => ?_, fun hc => ?_⟩
  · have hF := hF.1 hc
    refine go_aload_n dX2_edits_165 rfl ?_
    refine go_getR (k := 9) (r := 10) dX2_edits_166 sh_2 rfl inX2 (Nat.le_of_ble_eq_true rfl) lf_X2_33 rfl rfl ?_
    refine go_iload dX2_edits_169 rfl ?_
    obtain ⟨hi, hF⟩ := hF
    refine go_iald dX2_edits_171 sh_10 hi ?_
    exact go_iret (S := []) dX2_edits_172 rfl ⟨_, rfl, hF⟩
  · have hF := hF.2 hc
    refine go_aload_n dX2_edits_43 rfl ?_
    refine go_getR (k := 9) (r := 10) dX2_edits_44 sh_2 rfl inX2 (Nat.le_of_ble_eq_true rfl) lf_X2_33 rfl rfl ?_
    refine go_iconst (v := 0) dX2_edits_47 (by decide) ?_
    refine go_ialdK (k := 0) dX2_edits_48 sh_10 (vp_in_dec (by decide)) (by decide) ?_
    refine Gw.namei (fun x4 ex4 => ?_)
    have hF := hF x4 ex4
    refine go_istore (L' := [.ref (ga G 2), .int l1, .ref (ga G p1), .int l3, .int l4, .int l5, .int l6, .int x4, uu, uu, uu]) dX2_edits_49 (Nat.le_of_ble_eq_true rfl) rfl ?_
    refine go_aload_n dX2_edits_51 rfl ?_
    refine go_getR (k := 9) (r := 10) dX2_edits_52 sh_2 rfl inX2 (Nat.le_of_ble_eq_true rfl) lf_X2_33 rfl rfl ?_
    refine go_iconst (v := 0) dX2_edits_55 (by decide) ?_
    refine go_iload dX2_edits_56 rfl ?_
    refine go_iconst (v := 1) dX2_edits_58 (by decide) ?_
    refine go_iadd dX2_edits_59 ?_
    refine go_iastK (k := 0) dX2_edits_60 sh_10 (vp_in_dec (by decide)) (by decide) ?_
    obtain ⟨m5, em5⟩ : ∃ z : Mem, z = wI m 10 0 (l6 + 1) := ⟨_, rfl⟩
    rw [← em5]
    have hF := hF m5 em5
    refine go_iconst (v := 1) dX2_edits_61 (by decide) ?_
    refine go_istore (L' := [.ref (ga G 2), .int l1, .ref (ga G p1), .int l3, .int l4, .int l5, .int l6, .int x4, .int 1, uu, uu]) dX2_edits_62 (Nat.le_of_ble_eq_true rfl) rfl ?_
    exact hF
theorem vX2_edits_64 (G : GP) (d : Nat) (l1 : Int32) (p1 p1l : Nat) (hp1 : SH[p1]? = some (100, p1l, [])) (l3 : Int32) (l4 : Int32) (l5 : Int32) (l6 : Int32) (l7 : Int32) (l8 : Int32) (u9 : Value) (u10 : Value) (m : Mem) (K : Int32 → Mem → Prop) (hF : ((l5 < l8) → ∀ x6 : Int32, x6 = l6 + 1 → Gw G (d + 1) mX2_edits 36 [.ref (ga G 2), .int l1, .ref (ga G p1), .int l3, .int l4, .int l5, .int x6, .int l7, .int l8, uu, uu] [] m (Qi K)) ∧ ((¬ l5 < l8) → vp_in (l3 + l6) p1l ∧ vp_in (((l1 * 4) + l8) - 1) 40 ∧ ((¬ (m.1 p1 (l3 + l6).toNatClampNeg) = (m.1 6 (((l1 * 4) + l8) - 1).toNatClampNeg)) → ∀ x7 : Int32, x7 = l7 + 1 → vp_in l8 5 ∧ ∀ x8 : Int32, x8 = m.1 10 l8.toNatClampNeg → vp_in (l8 - 1) 5 ∧ vp_in l8 5 ∧ ∀ m9 : Mem, m9 = wI m 10 l8.toNatClampNeg (imin x7 ((imin x8 (m.1 10 (l8 - 1).toNatClampNeg)) + 1)) → ∀ x10 : Int32, x10 = l8 + 1 → Gw G (d + 1) mX2_edits 64 [.ref (ga G 2), .int l1, .ref (ga G p1), .int l3, .int l4, .int l5, .int l6, .int x8, .int x10, .int 0, .int x7] [] m9 (Qi K)) ∧ (((m.1 p1 (l3 + l6).toNatClampNeg) = (m.1 6 (((l1 * 4) + l8) - 1).toNatClampNeg)) → vp_in l8 5 ∧ ∀ x11 : Int32, x11 = m.1 10 l8.toNatClampNeg → vp_in (l8 - 1) 5 ∧ vp_in l8 5 ∧ ∀ m12 : Mem, m12 = wI m 10 l8.toNatClampNeg (imin l7 ((imin x11 (m.1 10 (l8 - 1).toNatClampNeg)) + 1)) → ∀ x13 : Int32, x13 = l8 + 1 → Gw G (d + 1) mX2_edits 64 [.ref (ga G 2), .int l1, .ref (ga G p1), .int l3, .int l4, .int l5, .int l6, .int x11, .int x13, .int 1, .int l7] [] m12 (Qi K)))) : Gw G (d + 1) mX2_edits 64 [.ref (ga G 2), .int l1, .ref (ga G p1), .int l3, .int l4, .int l5, .int l6, .int l7, .int l8, u9, u10] [] m (Qi K) := by
  refine Gw.weak (L' := [.ref (ga G 2), .int l1, .ref (ga G p1), .int l3, .int l4, .int l5, .int l6, .int l7, .int l8, uu, uu]) ⟨Or.inl rfl, Or.inl rfl, Or.inl rfl, Or.inl rfl, Or.inl rfl, Or.inl rfl, Or.inl rfl, Or.inl rfl, Or.inl rfl, Or.inr rfl, Or.inr rfl, trivial⟩ ?_
  refine go_iload dX2_edits_64 rfl ?_
  refine go_iload dX2_edits_66 rfl ?_
  refine go_icmp_gt 159 dX2_edits_68 rfl ⟨fun hc => ?_, fun hc => ?_⟩
  · have hF := hF.1 hc
    obtain ⟨x6, ex6⟩ : ∃ z : Int32, z = l6 + 1 := ⟨_, rfl⟩
    have hF := hF x6 ex6
    refine go_iinc (v := x6) (L' := [.ref (ga G 2), .int l1, .ref (ga G p1), .int l3, .int l4, .int l5, .int x6, .int l7, .int l8, uu, uu]) dX2_edits_159 rfl (by rw [ex6]; rfl) (Nat.le_of_ble_eq_true rfl) rfl ?_
    refine go_goto 36 dX2_edits_162 rfl ?_
    exact hF
  · have hF := hF.2 hc
    refine go_aload_n dX2_edits_71 rfl ?_
    refine go_iload_n dX2_edits_72 rfl ?_
    refine go_iload dX2_edits_73 rfl ?_
    refine go_iadd dX2_edits_75 ?_
    obtain ⟨hi, hF⟩ := hF
    refine go_iald dX2_edits_76 hp1 hi ?_
    refine go_aload_n dX2_edits_77 rfl ?_
    refine go_getR (k := 5) (r := 6) dX2_edits_78 sh_2 rfl inX2 (Nat.le_of_ble_eq_true rfl) lf_X2_21 rfl rfl ?_
    refine go_iload_n dX2_edits_81 rfl ?_
    refine go_iconst (v := 4) dX2_edits_82 (by decide) ?_
    refine go_imul dX2_edits_83 ?_
    refine go_iload dX2_edits_84 rfl ?_
    refine go_iadd dX2_edits_86 ?_
    refine go_iconst (v := 1) dX2_edits_87 (by decide) ?_
    refine go_isub dX2_edits_88 ?_
    obtain ⟨hi, hF⟩ := hF
    refine go_iald dX2_edits_89 sh_6 hi ?_
    refine go_icmp_ne 97 dX2_edits_90 rfl ⟨fun hc => ?_, fun hc => ?_⟩
    · have hF := hF.1 hc
      refine go_iconst (v := 0) dX2_edits_97 (by decide) ?_
      refine go_istore (L' := [.ref (ga G 2), .int l1, .ref (ga G p1), .int l3, .int l4, .int l5, .int l6, .int l7, .int l8, .int 0, uu]) dX2_edits_98 (Nat.le_of_ble_eq_true rfl) rfl ?_
      refine go_iload dX2_edits_100 rfl ?_
      refine go_if_eq 110 dX2_edits_102 rfl ⟨fun _ => ?_, fun hc => absurd hc (by decide)⟩
      refine go_iload dX2_edits_110 rfl ?_
      refine go_iconst (v := 1) dX2_edits_112 (by decide) ?_
      refine go_iadd dX2_edits_113 ?_
      refine Gw.namei (fun x7 ex7 => ?_)
      have hF := hF x7 ex7
      refine go_istore (L' := [.ref (ga G 2), .int l1, .ref (ga G p1), .int l3, .int l4, .int l5, .int l6, .int l7, .int l8, .int 0, .int x7]) dX2_edits_114 (Nat.le_of_ble_eq_true rfl) rfl ?_
      refine go_aload_n dX2_edits_116 rfl ?_
      refine go_getR (k := 9) (r := 10) dX2_edits_117 sh_2 rfl inX2 (Nat.le_of_ble_eq_true rfl) lf_X2_33 rfl rfl ?_
      refine go_iload dX2_edits_120 rfl ?_
      obtain ⟨hi, hF⟩ := hF
      refine go_iald dX2_edits_122 sh_10 hi ?_
      refine Gw.namei (fun x8 ex8 => ?_)
      have hF := hF x8 ex8
      refine go_istore (L' := [.ref (ga G 2), .int l1, .ref (ga G p1), .int l3, .int l4, .int l5, .int l6, .int x8, .int l8, .int 0, .int x7]) dX2_edits_123 (Nat.le_of_ble_eq_true rfl) rfl ?_
      refine go_aload_n dX2_edits_125 rfl ?_
      refine go_getR (k := 9) (r := 10) dX2_edits_126 sh_2 rfl inX2 (Nat.le_of_ble_eq_true rfl) lf_X2_33 rfl rfl ?_
      refine go_iload dX2_edits_129 rfl ?_
      refine go_iload dX2_edits_131 rfl ?_
      refine go_iload dX2_edits_133 rfl ?_
      refine go_aload_n dX2_edits_135 rfl ?_
      refine go_getR (k := 9) (r := 10) dX2_edits_136 sh_2 rfl inX2 (Nat.le_of_ble_eq_true rfl) lf_X2_33 rfl rfl ?_
      refine go_iload dX2_edits_139 rfl ?_
      refine go_iconst (v := 1) dX2_edits_141 (by decide) ?_
      refine go_isub dX2_edits_142 ?_
      obtain ⟨hi, hF⟩ := hF
      refine go_iald dX2_edits_143 sh_10 hi ?_
      refine go_mmin dX2_edits_144 lm_X2_67 (Nat.le_of_ble_eq_true rfl) ?_
      refine go_iconst (v := 1) dX2_edits_147 (by decide) ?_
      refine go_iadd dX2_edits_148 ?_
      refine go_mmin dX2_edits_149 lm_X2_67 (Nat.le_of_ble_eq_true rfl) ?_
      obtain ⟨hi, hF⟩ := hF
      refine go_iast dX2_edits_152 sh_10 hi ?_
      obtain ⟨m9, em9⟩ : ∃ z : Mem, z = wI m 10 l8.toNatClampNeg (imin x7 ((imin x8 (m.1 10 (l8 - 1).toNatClampNeg)) + 1)) := ⟨_, rfl⟩
      rw [← em9]
      have hF := hF m9 em9
      obtain ⟨x10, ex10⟩ : ∃ z : Int32, z = l8 + 1 := ⟨_, rfl⟩
      have hF := hF x10 ex10
      refine go_iinc (v := x10) (L' := [.ref (ga G 2), .int l1, .ref (ga G p1), .int l3, .int l4, .int l5, .int l6, .int x8, .int x10, .int 0, .int x7]) dX2_edits_153 rfl (by rw [ex10]; rfl) (Nat.le_of_ble_eq_true rfl) rfl ?_
      refine go_goto 64 dX2_edits_156 rfl ?_
      exact hF
    · have hF := hF.2 hc
      refine go_iconst (v := 1) dX2_edits_93 (by decide) ?_
      refine go_goto 98 dX2_edits_94 rfl ?_
      refine go_istore (L' := [.ref (ga G 2), .int l1, .ref (ga G p1), .int l3, .int l4, .int l5, .int l6, .int l7, .int l8, .int 1, uu]) dX2_edits_98 (Nat.le_of_ble_eq_true rfl) rfl ?_
      refine go_iload dX2_edits_100 rfl ?_
      refine go_if_eq 110 dX2_edits_102 rfl ⟨fun hc => absurd hc (by decide), fun _ => ?_⟩
      refine go_iload dX2_edits_105 rfl ?_
      refine go_goto 114 dX2_edits_107 rfl ?_
      refine go_istore (L' := [.ref (ga G 2), .int l1, .ref (ga G p1), .int l3, .int l4, .int l5, .int l6, .int l7, .int l8, .int 1, .int l7]) dX2_edits_114 (Nat.le_of_ble_eq_true rfl) rfl ?_
      refine go_aload_n dX2_edits_116 rfl ?_
      refine go_getR (k := 9) (r := 10) dX2_edits_117 sh_2 rfl inX2 (Nat.le_of_ble_eq_true rfl) lf_X2_33 rfl rfl ?_
      refine go_iload dX2_edits_120 rfl ?_
      obtain ⟨hi, hF⟩ := hF
      refine go_iald dX2_edits_122 sh_10 hi ?_
      refine Gw.namei (fun x11 ex11 => ?_)
      have hF := hF x11 ex11
      refine go_istore (L' := [.ref (ga G 2), .int l1, .ref (ga G p1), .int l3, .int l4, .int l5, .int l6, .int x11, .int l8, .int 1, .int l7]) dX2_edits_123 (Nat.le_of_ble_eq_true rfl) rfl ?_
      refine go_aload_n dX2_edits_125 rfl ?_
      refine go_getR (k := 9) (r := 10) dX2_edits_126 sh_2 rfl inX2 (Nat.le_of_ble_eq_true rfl) lf_X2_33 rfl rfl ?_
      refine go_iload dX2_edits_129 rfl ?_
      refine go_iload dX2_edits_131 rfl ?_
      refine go_iload dX2_edits_133 rfl ?_
      refine go_aload_n dX2_edits_135 rfl ?_
      refine go_getR (k := 9) (r := 10) dX2_edits_136 sh_2 rfl inX2 (Nat.le_of_ble_eq_true rfl) lf_X2_33 rfl rfl ?_
      refine go_iload dX2_edits_139 rfl ?_
      refine go_iconst (v := 1) dX2_edits_141 (by decide) ?_
      refine go_isub dX2_edits_142 ?_
      obtain ⟨hi, hF⟩ := hF
      refine go_iald dX2_edits_143 sh_10 hi ?_
      refine go_mmin dX2_edits_144 lm_X2_67 (Nat.le_of_ble_eq_true rfl) ?_
      refine go_iconst (v := 1) dX2_edits_147 (by decide) ?_
      refine go_iadd dX2_edits_148 ?_
      refine go_mmin dX2_edits_149 lm_X2_67 (Nat.le_of_ble_eq_true rfl) ?_
      obtain ⟨hi, hF⟩ := hF
      refine go_iast dX2_edits_152 sh_10 hi ?_
      obtain ⟨m12, em12⟩ : ∃ z : Mem, z = wI m 10 l8.toNatClampNeg (imin l7 ((imin x11 (m.1 10 (l8 - 1).toNatClampNeg)) + 1)) := ⟨_, rfl⟩
      rw [← em12]
      have hF := hF m12 em12
      obtain ⟨x13, ex13⟩ : ∃ z : Int32, z = l8 + 1 := ⟨_, rfl⟩
      have hF := hF x13 ex13
      refine go_iinc (v := x13) (L' := [.ref (ga G 2), .int l1, .ref (ga G p1), .int l3, .int l4, .int l5, .int l6, .int x11, .int x13, .int 1, .int l7]) dX2_edits_153 rfl (by rw [ex13]; rfl) (Nat.le_of_ble_eq_true rfl) rfl ?_
      refine go_goto 64 dX2_edits_156 rfl ?_
      exact hF
theorem vX2_toldApart (G : GP) (d : Nat) (a0 : Int32) (m : Mem) (K : Int32 → Mem → Prop) (hF : Evv G (d + 3) mX2_findTooNear [.ref (ga G 2), .int a0] m (fun m1 => Gw G (d + 4) mX2_toldApart 9 [.ref (ga G 2), .int a0, .int 0, .int 1] [] m1 (Qi K))) : Evi G (d + 4) mX2_toldApart [.ref (ga G 2), .int a0] m K := by
  refine Ev.go [.ref (ga G 2), .int a0, uu, uu] (by decide) (Nat.le_of_ble_eq_true rfl) rfl ?_
  refine go_aload_n dX2_toldApart_0 rfl ?_
  refine go_iload_n dX2_toldApart_1 rfl ?_
  refine go_callV mX2_findTooNear dX2_toldApart_2 lm_X2_70 okX2_findTooNear isX2_findTooNear sh_2 rfl (As := [.int a0]) (S := []) rfl rfl (Nat.le_of_ble_eq_true rfl) hF (k_v (fun m1 hF => ?_))
  refine go_iconst (v := 0) dX2_toldApart_5 (by decide) ?_
  refine go_istore_n (L' := [.ref (ga G 2), .int a0, .int 0, uu]) dX2_toldApart_6 (Nat.le_of_ble_eq_true rfl) rfl ?_
  refine go_iconst (v := 1) dX2_toldApart_7 (by decide) ?_
  refine go_istore_n (L' := [.ref (ga G 2), .int a0, .int 0, .int 1]) dX2_toldApart_8 (Nat.le_of_ble_eq_true rfl) rfl ?_
  exact hF
theorem vX2_toldApart_9 (G : GP) (d : Nat) (u1 : Value) (l2 : Int32) (l3 : Int32) (m : Mem) (K : Int32 → Mem → Prop) (hF : ((((1 : Int32) <<< ((m.1 2 4) &&& 31)) ≤ l3) → K l2 m) ∧ ((¬ ((1 : Int32) <<< ((m.1 2 4) &&& 31)) ≤ l3) → (((bitC l3) ≤ (bitC l2)) → ∀ x2 : Int32, x2 = l3 + 1 → Gw G (d + 4) mX2_toldApart 9 [.ref (ga G 2), uu, .int l2, .int x2] [] m (Qi K)) ∧ ((¬ (bitC l3) ≤ (bitC l2)) → Evi G (d + 3) mX2_allFar [.ref (ga G 2), .int l3] m (fun r4 m3 => ((r4 = 0) → ∀ x5 : Int32, x5 = l3 + 1 → Gw G (d + 4) mX2_toldApart 9 [.ref (ga G 2), uu, .int l2, .int x5] [] m3 (Qi K)) ∧ ((¬ r4 = 0) → ∀ x6 : Int32, x6 = l3 + 1 → Gw G (d + 4) mX2_toldApart 9 [.ref (ga G 2), uu, .int l3, .int x6] [] m3 (Qi K)))))) : Gw G (d + 4) mX2_toldApart 9 [.ref (ga G 2), u1, .int l2, .int l3] [] m (Qi K) := by
  refine Gw.weak (L' := [.ref (ga G 2), uu, .int l2, .int l3]) ⟨Or.inl rfl, Or.inr rfl, Or.inl rfl, Or.inl rfl, trivial⟩ ?_
  refine go_iload_n dX2_toldApart_9 rfl ?_
  refine go_iconst (v := 1) dX2_toldApart_10 (by decide) ?_
  refine go_aload_n dX2_toldApart_11 rfl ?_
  refine go_getI (k := 4) dX2_toldApart_12 sh_2 rfl inX2 (Nat.le_of_ble_eq_true rfl) lf_X2_43 rfl ?_
  refine go_ishl dX2_toldApart_15 ?_
  refine go_icmp_ge 46 dX2_toldApart_16 rfl ⟨fun hc => ?_, fun hc => ?_⟩
  · have hF := hF.1 hc
    refine go_iload_n dX2_toldApart_46 rfl ?_
    exact go_iret (S := []) dX2_toldApart_47 rfl ⟨_, rfl, hF⟩
  · have hF := hF.2 hc
    refine go_iload_n dX2_toldApart_19 rfl ?_
    refine go_callS mJ6_bitCount_0f7a4 dX2_toldApart_20 lm_X2_74 okJ6_bitCount_0f7a4 isJ6_bitCount_0f7a4 (As := [.int l3]) (S := []) rfl rfl (Nat.le_of_ble_eq_true rfl) (eJ6_bitCount_0f7a4 G _ l3 m (fun r m' => r = bitC l3 ∧ m = m') ⟨rfl, rfl⟩) (k_i (fun r m' hr => ?_))
    obtain ⟨hr1, hr2⟩ := hr
    subst hr1
    subst hr2
    refine go_iload_n dX2_toldApart_23 rfl ?_
    refine go_callS mJ6_bitCount_0f7a4 dX2_toldApart_24 lm_X2_74 okJ6_bitCount_0f7a4 isJ6_bitCount_0f7a4 (As := [.int l2]) (S := [.int (bitC l3)]) rfl rfl (Nat.le_of_ble_eq_true rfl) (eJ6_bitCount_0f7a4 G _ l2 m (fun r m' => r = bitC l2 ∧ m = m') ⟨rfl, rfl⟩) (k_i (fun r m' hr => ?_))
    obtain ⟨hr1, hr2⟩ := hr
    subst hr1
    subst hr2
    refine go_icmp_le 40 dX2_toldApart_27 rfl ⟨fun hc => ?_, fun hc => ?_⟩
    · have hF := hF.1 hc
      obtain ⟨x2, ex2⟩ : ∃ z : Int32, z = l3 + 1 := ⟨_, rfl⟩
      have hF := hF x2 ex2
      refine go_iinc (v := x2) (L' := [.ref (ga G 2), uu, .int l2, .int x2]) dX2_toldApart_40 rfl (by rw [ex2]; rfl) (Nat.le_of_ble_eq_true rfl) rfl ?_
      refine go_goto 9 dX2_toldApart_43 rfl ?_
      exact hF
    · have hF := hF.2 hc
      refine go_aload_n dX2_toldApart_30 rfl ?_
      refine go_iload_n dX2_toldApart_31 rfl ?_
      refine go_callV mX2_allFar dX2_toldApart_32 lm_X2_80 okX2_allFar isX2_allFar sh_2 rfl (As := [.int l3]) (S := []) rfl rfl (Nat.le_of_ble_eq_true rfl) hF (k_i (fun r4 m3 hF => ?_))
      refine go_if_eq 40 dX2_toldApart_35 rfl ⟨fun hc => ?_, fun hc => ?_⟩
      · have hF := hF.1 hc
        obtain ⟨x5, ex5⟩ : ∃ z : Int32, z = l3 + 1 := ⟨_, rfl⟩
        have hF := hF x5 ex5
        refine go_iinc (v := x5) (L' := [.ref (ga G 2), uu, .int l2, .int x5]) dX2_toldApart_40 rfl (by rw [ex5]; rfl) (Nat.le_of_ble_eq_true rfl) rfl ?_
        refine go_goto 9 dX2_toldApart_43 rfl ?_
        exact hF
      · have hF := hF.2 hc
        refine go_iload_n dX2_toldApart_38 rfl ?_
        refine go_istore_n (L' := [.ref (ga G 2), uu, .int l3, .int l3]) dX2_toldApart_39 (Nat.le_of_ble_eq_true rfl) rfl ?_
        obtain ⟨x6, ex6⟩ : ∃ z : Int32, z = l3 + 1 := ⟨_, rfl⟩
        have hF := hF x6 ex6
        refine go_iinc (v := x6) (L' := [.ref (ga G 2), uu, .int l3, .int x6]) dX2_toldApart_40 rfl (by rw [ex6]; rfl) (Nat.le_of_ble_eq_true rfl) rfl ?_
        refine go_goto 9 dX2_toldApart_43 rfl ?_
        exact hF
theorem vX2_findTooNear (G : GP) (d : Nat) (a0 : Int32) (m : Mem) (K : Mem → Prop) (hF : Gw G (d + 3) mX2_findTooNear 2 [.ref (ga G 2), .int a0, .int 0, uu] [] m (Qv K)) : Evv G (d + 3) mX2_findTooNear [.ref (ga G 2), .int a0] m K := by
  refine Ev.go [.ref (ga G 2), .int a0, uu, uu] (by decide) (Nat.le_of_ble_eq_true rfl) rfl ?_
  refine go_iconst (v := 0) dX2_findTooNear_0 (by decide) ?_
  refine go_istore_n (L' := [.ref (ga G 2), .int a0, .int 0, uu]) dX2_findTooNear_1 (Nat.le_of_ble_eq_true rfl) rfl ?_
  exact hF
theorem vX2_findTooNear_2 (G : GP) (d : Nat) (l1 : Int32) (l2 : Int32) (u3 : Value) (m : Mem) (K : Mem → Prop) (hF : (((m.1 2 4) ≤ l2) → K m) ∧ ((¬ (m.1 2 4) ≤ l2) → vp_in l2 10 ∧ ∀ m1 : Mem, m1 = wI m 11 l2.toNatClampNeg 0 → Gw G (d + 3) mX2_findTooNear 19 [.ref (ga G 2), .int l1, .int l2, .int 0] [] m1 (Qv K))) : Gw G (d + 3) mX2_findTooNear 2 [.ref (ga G 2), .int l1, .int l2, u3] [] m (Qv K) := by
  refine Gw.weak (L' := [.ref (ga G 2), .int l1, .int l2, uu]) ⟨Or.inl rfl, Or.inl rfl, Or.inl rfl, Or.inr rfl, trivial⟩ ?_
  refine go_iload_n dX2_findTooNear_2 rfl ?_
  refine go_aload_n dX2_findTooNear_3 rfl ?_
  refine go_getI (k := 4) dX2_findTooNear_4 sh_2 rfl inX2 (Nat.le_of_ble_eq_true rfl) lf_X2_43 rfl ?_
  refine go_icmp_ge 58 dX2_findTooNear_7 rfl ⟨fun hc => ?_, fun hc => ?_⟩
  · have hF := hF.1 hc
    exact go_vret (S := []) dX2_findTooNear_58 rfl ⟨rfl, hF⟩
  · have hF := hF.2 hc
    refine go_aload_n dX2_findTooNear_10 rfl ?_
    refine go_getR (k := 10) (r := 11) dX2_findTooNear_11 sh_2 rfl inX2 (Nat.le_of_ble_eq_true rfl) lf_X2_36 rfl rfl ?_
    refine go_iload_n dX2_findTooNear_14 rfl ?_
    refine go_iconst (v := 0) dX2_findTooNear_15 (by decide) ?_
    obtain ⟨hi, hF⟩ := hF
    refine go_iast dX2_findTooNear_16 sh_11 hi ?_
    obtain ⟨m1, em1⟩ : ∃ z : Mem, z = wI m 11 l2.toNatClampNeg 0 := ⟨_, rfl⟩
    rw [← em1]
    have hF := hF m1 em1
    refine go_iconst (v := 0) dX2_findTooNear_17 (by decide) ?_
    refine go_istore_n (L' := [.ref (ga G 2), .int l1, .int l2, .int 0]) dX2_findTooNear_18 (Nat.le_of_ble_eq_true rfl) rfl ?_
    exact hF
theorem vX2_findTooNear_19 (G : GP) (d : Nat) (l1 : Int32) (l2 : Int32) (l3 : Int32) (m : Mem) (K : Mem → Prop) (hF : ((l2 ≤ l3) → ∀ x2 : Int32, x2 = l2 + 1 → Gw G (d + 3) mX2_findTooNear 2 [.ref (ga G 2), .int l1, .int x2, .int l3] [] m (Qv K)) ∧ ((¬ l2 ≤ l3) → Evi G (d + 2) mX2_between [.ref (ga G 2), .int l2, .int l3] m (fun r4 m3 => ((l1 ≤ r4) → ∀ x5 : Int32, x5 = l3 + 1 → Gw G (d + 3) mX2_findTooNear 19 [.ref (ga G 2), .int l1, .int l2, .int x5] [] m3 (Qv K)) ∧ ((¬ l1 ≤ r4) → vp_in l2 10 ∧ vp_in l2 10 ∧ ∀ m6 : Mem, m6 = wI m3 11 l2.toNatClampNeg ((m3.1 11 l2.toNatClampNeg) ||| ((1 : Int32) <<< (l3 &&& 31))) → ∀ x7 : Int32, x7 = l3 + 1 → Gw G (d + 3) mX2_findTooNear 19 [.ref (ga G 2), .int l1, .int l2, .int x7] [] m6 (Qv K))))) : Gw G (d + 3) mX2_findTooNear 19 [.ref (ga G 2), .int l1, .int l2, .int l3] [] m (Qv K) := by
  refine go_iload_n dX2_findTooNear_19 rfl ?_
  refine go_iload_n dX2_findTooNear_20 rfl ?_
  refine go_icmp_ge 52 dX2_findTooNear_21 rfl ⟨fun hc => ?_, fun hc => ?_⟩
  · have hF := hF.1 hc
    obtain ⟨x2, ex2⟩ : ∃ z : Int32, z = l2 + 1 := ⟨_, rfl⟩
    have hF := hF x2 ex2
    refine go_iinc (v := x2) (L' := [.ref (ga G 2), .int l1, .int x2, .int l3]) dX2_findTooNear_52 rfl (by rw [ex2]; rfl) (Nat.le_of_ble_eq_true rfl) rfl ?_
    refine go_goto 2 dX2_findTooNear_55 rfl ?_
    exact hF
  · have hF := hF.2 hc
    refine go_aload_n dX2_findTooNear_24 rfl ?_
    refine go_iload_n dX2_findTooNear_25 rfl ?_
    refine go_iload_n dX2_findTooNear_26 rfl ?_
    refine go_callV mX2_between dX2_findTooNear_27 lm_X2_83 okX2_between isX2_between sh_2 rfl (As := [.int l2, .int l3]) (S := []) rfl rfl (Nat.le_of_ble_eq_true rfl) hF (k_i (fun r4 m3 hF => ?_))
    refine go_iload_n dX2_findTooNear_30 rfl ?_
    refine go_icmp_ge 46 dX2_findTooNear_31 rfl ⟨fun hc => ?_, fun hc => ?_⟩
    · have hF := hF.1 hc
      obtain ⟨x5, ex5⟩ : ∃ z : Int32, z = l3 + 1 := ⟨_, rfl⟩
      have hF := hF x5 ex5
      refine go_iinc (v := x5) (L' := [.ref (ga G 2), .int l1, .int l2, .int x5]) dX2_findTooNear_46 rfl (by rw [ex5]; rfl) (Nat.le_of_ble_eq_true rfl) rfl ?_
      refine go_goto 19 dX2_findTooNear_49 rfl ?_
      exact hF
    · have hF := hF.2 hc
      refine go_aload_n dX2_findTooNear_34 rfl ?_
      refine go_getR (k := 10) (r := 11) dX2_findTooNear_35 sh_2 rfl inX2 (Nat.le_of_ble_eq_true rfl) lf_X2_36 rfl rfl ?_
      refine go_iload_n dX2_findTooNear_38 rfl ?_
      refine go_dup2 dX2_findTooNear_39 rfl rfl ?_
      obtain ⟨hi, hF⟩ := hF
      refine go_iald dX2_findTooNear_40 sh_11 hi ?_
      refine go_iconst (v := 1) dX2_findTooNear_41 (by decide) ?_
      refine go_iload_n dX2_findTooNear_42 rfl ?_
      refine go_ishl dX2_findTooNear_43 ?_
      refine go_ior dX2_findTooNear_44 ?_
      obtain ⟨hi, hF⟩ := hF
      refine go_iast dX2_findTooNear_45 sh_11 hi ?_
      obtain ⟨m6, em6⟩ : ∃ z : Mem, z = wI m3 11 l2.toNatClampNeg ((m3.1 11 l2.toNatClampNeg) ||| ((1 : Int32) <<< (l3 &&& 31))) := ⟨_, rfl⟩
      rw [← em6]
      have hF := hF m6 em6
      obtain ⟨x7, ex7⟩ : ∃ z : Int32, z = l3 + 1 := ⟨_, rfl⟩
      have hF := hF x7 ex7
      refine go_iinc (v := x7) (L' := [.ref (ga G 2), .int l1, .int l2, .int x7]) dX2_findTooNear_46 rfl (by rw [ex7]; rfl) (Nat.le_of_ble_eq_true rfl) rfl ?_
      refine go_goto 19 dX2_findTooNear_49 rfl ?_
      exact hF
theorem vX2_allFar (G : GP) (d : Nat) (a0 : Int32) (m : Mem) (K : Int32 → Mem → Prop) (hF : Gw G (d) mX2_allFar 2 [.ref (ga G 2), .int a0, .int 0] [] m (Qi K)) : Evi G (d) mX2_allFar [.ref (ga G 2), .int a0] m K := by
  refine Ev.go [.ref (ga G 2), .int a0, uu] (by decide) (Nat.le_of_ble_eq_true rfl) rfl ?_
  refine go_iconst (v := 0) dX2_allFar_0 (by decide) ?_
  refine go_istore_n (L' := [.ref (ga G 2), .int a0, .int 0]) dX2_allFar_1 (Nat.le_of_ble_eq_true rfl) rfl ?_
  exact hF
theorem vX2_allFar_2 (G : GP) (d : Nat) (l1 : Int32) (l2 : Int32) (m : Mem) (K : Int32 → Mem → Prop) (hF : (((m.1 2 4) ≤ l2) → K 1 m) ∧ ((¬ (m.1 2 4) ≤ l2) → ((((l1 >>> (l2 &&& 31)) &&& 1) = 0) → ∀ x1 : Int32, x1 = l2 + 1 → Gw G (d) mX2_allFar 2 [.ref (ga G 2), .int l1, .int x1] [] m (Qi K)) ∧ ((¬ ((l1 >>> (l2 &&& 31)) &&& 1) = 0) → vp_in l2 10 ∧ ((((m.1 11 l2.toNatClampNeg) &&& l1) = 0) → ∀ x2 : Int32, x2 = l2 + 1 → Gw G (d) mX2_allFar 2 [.ref (ga G 2), .int l1, .int x2] [] m (Qi K)) ∧ ((¬ ((m.1 11 l2.toNatClampNeg) &&& l1) = 0) → K 0 m)))) : Gw G (d) mX2_allFar 2 [.ref (ga G 2), .int l1, .int l2] [] m (Qi K) := by
  refine go_iload_n dX2_allFar_2 rfl ?_
  refine go_aload_n dX2_allFar_3 rfl ?_
  refine go_getI (k := 4) dX2_allFar_4 sh_2 rfl inX2 (Nat.le_of_ble_eq_true rfl) lf_X2_43 rfl ?_
  refine go_icmp_ge 37 dX2_allFar_7 rfl ⟨fun hc => ?_, fun hc => ?_⟩
  · have hF := hF.1 hc
    refine go_iconst (v := 1) dX2_allFar_37 (by decide) ?_
    exact go_zret (S := []) dX2_allFar_38 rfl (by decide) ⟨_, rfl, hF⟩
  · have hF := hF.2 hc
    refine go_iload_n dX2_allFar_10 rfl ?_
    refine go_iload_n dX2_allFar_11 rfl ?_
    refine go_ishr dX2_allFar_12 ?_
    refine go_iconst (v := 1) dX2_allFar_13 (by decide) ?_
    refine go_iand dX2_allFar_14 ?_
    refine go_if_eq 31 dX2_allFar_15 rfl ⟨fun hc => ?_, fun hc => ?_⟩
    · have hF := hF.1 hc
      obtain ⟨x1, ex1⟩ : ∃ z : Int32, z = l2 + 1 := ⟨_, rfl⟩
      have hF := hF x1 ex1
      refine go_iinc (v := x1) (L' := [.ref (ga G 2), .int l1, .int x1]) dX2_allFar_31 rfl (by rw [ex1]; rfl) (Nat.le_of_ble_eq_true rfl) rfl ?_
      refine go_goto 2 dX2_allFar_34 rfl ?_
      exact hF
    · have hF := hF.2 hc
      refine go_aload_n dX2_allFar_18 rfl ?_
      refine go_getR (k := 10) (r := 11) dX2_allFar_19 sh_2 rfl inX2 (Nat.le_of_ble_eq_true rfl) lf_X2_36 rfl rfl ?_
      refine go_iload_n dX2_allFar_22 rfl ?_
      obtain ⟨hi, hF⟩ := hF
      refine go_iald dX2_allFar_23 sh_11 hi ?_
      refine go_iload_n dX2_allFar_24 rfl ?_
      refine go_iand dX2_allFar_25 ?_
      refine go_if_eq 31 dX2_allFar_26 rfl ⟨fun hc => ?_, fun hc => ?_⟩
      · have hF := hF.1 hc
        obtain ⟨x2, ex2⟩ : ∃ z : Int32, z = l2 + 1 := ⟨_, rfl⟩
        have hF := hF x2 ex2
        refine go_iinc (v := x2) (L' := [.ref (ga G 2), .int l1, .int x2]) dX2_allFar_31 rfl (by rw [ex2]; rfl) (Nat.le_of_ble_eq_true rfl) rfl ?_
        refine go_goto 2 dX2_allFar_34 rfl ?_
        exact hF
      · have hF := hF.2 hc
        refine go_iconst (v := 0) dX2_allFar_29 (by decide) ?_
        exact go_zret (S := []) dX2_allFar_30 rfl (by decide) ⟨_, rfl, hF⟩
theorem vX2_roomAround (G : GP) (d : Nat) (a0 : Int32) (m : Mem) (K : Int32 → Mem → Prop) (hF : Gw G (d + 1) mX2_roomAround 5 [.ref (ga G 2), .int a0, .int 10, .int 0] [] m (Qi K)) : Evi G (d + 1) mX2_roomAround [.ref (ga G 2), .int a0] m K := by
  refine Ev.go [.ref (ga G 2), .int a0, uu, uu] (by decide) (Nat.le_of_ble_eq_true rfl) rfl ?_
  refine go_bipush (v := 10) dX2_roomAround_0 (by decide) ?_
  refine go_istore_n (L' := [.ref (ga G 2), .int a0, .int 10, uu]) dX2_roomAround_2 (Nat.le_of_ble_eq_true rfl) rfl ?_
  refine go_iconst (v := 0) dX2_roomAround_3 (by decide) ?_
  refine go_istore_n (L' := [.ref (ga G 2), .int a0, .int 10, .int 0]) dX2_roomAround_4 (Nat.le_of_ble_eq_true rfl) rfl ?_
  exact hF
theorem vX2_roomAround_5 (G : GP) (d : Nat) (l1 : Int32) (l2 : Int32) (l3 : Int32) (m : Mem) (K : Int32 → Mem → Prop) (hF : (((m.1 2 0) ≤ l3) → K l2 m) ∧ ((¬ (m.1 2 0) ≤ l3) → vp_in l3 6 ∧ ∀ x1 : Int32, x1 = imin l2 (iabs ((m.1 4 l3.toNatClampNeg) - l1)) → ∀ x2 : Int32, x2 = l3 + 1 → Gw G (d + 1) mX2_roomAround 5 [.ref (ga G 2), .int l1, .int x1, .int x2] [] m (Qi K))) : Gw G (d + 1) mX2_roomAround 5 [.ref (ga G 2), .int l1, .int l2, .int l3] [] m (Qi K) := by
  refine go_iload_n dX2_roomAround_5 rfl ?_
  refine go_aload_n dX2_roomAround_6 rfl ?_
  refine go_getI (k := 0) dX2_roomAround_7 sh_2 rfl inX2 (Nat.le_of_ble_eq_true rfl) lf_X2_39 rfl ?_
  refine go_icmp_ge 35 dX2_roomAround_10 rfl ⟨fun hc => ?_, fun hc => ?_⟩
  · have hF := hF.1 hc
    refine go_iload_n dX2_roomAround_35 rfl ?_
    exact go_iret (S := []) dX2_roomAround_36 rfl ⟨_, rfl, hF⟩
  · have hF := hF.2 hc
    refine go_iload_n dX2_roomAround_13 rfl ?_
    refine go_aload_n dX2_roomAround_14 rfl ?_
    refine go_getR (k := 2) (r := 4) dX2_roomAround_15 sh_2 rfl inX2 (Nat.le_of_ble_eq_true rfl) lf_X2_15 rfl rfl ?_
    refine go_iload_n dX2_roomAround_18 rfl ?_
    obtain ⟨hi, hF⟩ := hF
    refine go_iald dX2_roomAround_19 sh_4 hi ?_
    refine go_iload_n dX2_roomAround_20 rfl ?_
    refine go_isub dX2_roomAround_21 ?_
    refine go_mabs dX2_roomAround_22 lm_X2_86 (Nat.le_of_ble_eq_true rfl) ?_
    refine go_mmin dX2_roomAround_25 lm_X2_67 (Nat.le_of_ble_eq_true rfl) ?_
    refine Gw.namei (fun x1 ex1 => ?_)
    have hF := hF x1 ex1
    refine go_istore_n (L' := [.ref (ga G 2), .int l1, .int x1, .int l3]) dX2_roomAround_28 (Nat.le_of_ble_eq_true rfl) rfl ?_
    obtain ⟨x2, ex2⟩ : ∃ z : Int32, z = l3 + 1 := ⟨_, rfl⟩
    have hF := hF x2 ex2
    refine go_iinc (v := x2) (L' := [.ref (ga G 2), .int l1, .int x1, .int x2]) dX2_roomAround_29 rfl (by rw [ex2]; rfl) (Nat.le_of_ble_eq_true rfl) rfl ?_
    refine go_goto 5 dX2_roomAround_32 rfl ?_
    exact hF
theorem vX2_copyFrom_w (G : GP) (d : Nat)  (m : Mem) (K : Mem → Prop) (hF : ∀ m1 : Mem, m1 = wI m 2 0 (m.1 115 0) → ∀ m2 : Mem, m2 = wI m1 2 4 (m1.1 115 4) → (¬ (0 : Int32) < 0 ∧ ¬ (0 : Int32) < 0 ∧ ¬ (6 : Int32) < 0 ∧ (0 : Int32).toNatClampNeg + (6 : Int32).toNatClampNeg ≤ 6 ∧ (0 : Int32).toNatClampNeg + (6 : Int32).toNatClampNeg ≤ 6) ∧ ∀ m3 : Mem, m3 = wA m2 3 (va_cpy (m2.1 116) (m2.1 3) (0 : Int32).toNatClampNeg (0 : Int32).toNatClampNeg (6 : Int32).toNatClampNeg) → (¬ (0 : Int32) < 0 ∧ ¬ (0 : Int32) < 0 ∧ ¬ (6 : Int32) < 0 ∧ (0 : Int32).toNatClampNeg + (6 : Int32).toNatClampNeg ≤ 6 ∧ (0 : Int32).toNatClampNeg + (6 : Int32).toNatClampNeg ≤ 6) ∧ ∀ m4 : Mem, m4 = wA m3 4 (va_cpy (m3.1 117) (m3.1 4) (0 : Int32).toNatClampNeg (0 : Int32).toNatClampNeg (6 : Int32).toNatClampNeg) → (¬ (0 : Int32) < 0 ∧ ¬ (0 : Int32) < 0 ∧ ¬ (6 : Int32) < 0 ∧ (0 : Int32).toNatClampNeg + (6 : Int32).toNatClampNeg ≤ 6 ∧ (0 : Int32).toNatClampNeg + (6 : Int32).toNatClampNeg ≤ 6) ∧ ∀ m5 : Mem, m5 = wA m4 5 (va_cpy (m4.1 118) (m4.1 5) (0 : Int32).toNatClampNeg (0 : Int32).toNatClampNeg (6 : Int32).toNatClampNeg) → (¬ (0 : Int32) < 0 ∧ ¬ (0 : Int32) < 0 ∧ ¬ (40 : Int32) < 0 ∧ (0 : Int32).toNatClampNeg + (40 : Int32).toNatClampNeg ≤ 40 ∧ (0 : Int32).toNatClampNeg + (40 : Int32).toNatClampNeg ≤ 40) ∧ ∀ m6 : Mem, m6 = wA m5 6 (va_cpy (m5.1 119) (m5.1 6) (0 : Int32).toNatClampNeg (0 : Int32).toNatClampNeg (40 : Int32).toNatClampNeg) → (¬ (0 : Int32) < 0 ∧ ¬ (0 : Int32) < 0 ∧ ¬ (10 : Int32) < 0 ∧ (0 : Int32).toNatClampNeg + (10 : Int32).toNatClampNeg ≤ 10 ∧ (0 : Int32).toNatClampNeg + (10 : Int32).toNatClampNeg ≤ 10) ∧ ∀ m7 : Mem, m7 = wA m6 7 (va_cpy (m6.1 120) (m6.1 7) (0 : Int32).toNatClampNeg (0 : Int32).toNatClampNeg (10 : Int32).toNatClampNeg) → (¬ (0 : Int32) < 0 ∧ ¬ (0 : Int32) < 0 ∧ ¬ (10 : Int32) < 0 ∧ (0 : Int32).toNatClampNeg + (10 : Int32).toNatClampNeg ≤ 10 ∧ (0 : Int32).toNatClampNeg + (10 : Int32).toNatClampNeg ≤ 10) ∧ ∀ m8 : Mem, m8 = wA m7 8 (va_cpy (m7.1 121) (m7.1 8) (0 : Int32).toNatClampNeg (0 : Int32).toNatClampNeg (10 : Int32).toNatClampNeg) → (¬ (0 : Int32) < 0 ∧ ¬ (0 : Int32) < 0 ∧ ¬ (10 : Int32) < 0 ∧ (0 : Int32).toNatClampNeg + (10 : Int32).toNatClampNeg ≤ 10 ∧ (0 : Int32).toNatClampNeg + (10 : Int32).toNatClampNeg ≤ 10) ∧ ∀ m9 : Mem, m9 = wA m8 9 (va_cpy (m8.1 122) (m8.1 9) (0 : Int32).toNatClampNeg (0 : Int32).toNatClampNeg (10 : Int32).toNatClampNeg) → K m9) : Evv G (d + 1) mX2_copyFrom [.ref (ga G 2), .ref (ga G 115)] m K := by
  refine Ev.go [.ref (ga G 2), .ref (ga G 115)] (by decide) (Nat.le_of_ble_eq_true rfl) rfl ?_
  refine go_aload_n dX2_copyFrom_0 rfl ?_
  refine go_aload_n dX2_copyFrom_1 rfl ?_
  refine go_getI (k := 0) dX2_copyFrom_2 sh_115 rfl inX2 (Nat.le_of_ble_eq_true rfl) lf_X2_39 rfl ?_
  refine go_putI (k := 0) dX2_copyFrom_5 sh_2 rfl inX2 (Nat.le_of_ble_eq_true rfl) lf_X2_39 tyX2 tyX2_ok nmX2 rfl rfl (by decide +kernel) ?_
  obtain ⟨m1, em1⟩ : ∃ z : Mem, z = wI m 2 0 (m.1 115 0) := ⟨_, rfl⟩
  rw [← em1]
  have hF := hF m1 em1
  refine go_aload_n dX2_copyFrom_8 rfl ?_
  refine go_aload_n dX2_copyFrom_9 rfl ?_
  refine go_getI (k := 4) dX2_copyFrom_10 sh_115 rfl inX2 (Nat.le_of_ble_eq_true rfl) lf_X2_43 rfl ?_
  refine go_putI (k := 4) dX2_copyFrom_13 sh_2 rfl inX2 (Nat.le_of_ble_eq_true rfl) lf_X2_43 tyX2 tyX2_ok nmX2 rfl rfl (by decide +kernel) ?_
  obtain ⟨m2, em2⟩ : ∃ z : Mem, z = wI m1 2 4 (m1.1 115 4) := ⟨_, rfl⟩
  rw [← em2]
  have hF := hF m2 em2
  refine go_aload_n dX2_copyFrom_16 rfl ?_
  refine go_getR (k := 1) (r := 116) dX2_copyFrom_17 sh_115 rfl inX2 (Nat.le_of_ble_eq_true rfl) lf_X2_9 rfl rfl ?_
  refine go_iconst (v := 0) dX2_copyFrom_20 (by decide) ?_
  refine go_aload_n dX2_copyFrom_21 rfl ?_
  refine go_getR (k := 1) (r := 3) dX2_copyFrom_22 sh_2 rfl inX2 (Nat.le_of_ble_eq_true rfl) lf_X2_9 rfl rfl ?_
  refine go_iconst (v := 0) dX2_copyFrom_25 (by decide) ?_
  refine go_bipush (v := 6) dX2_copyFrom_26 (by decide) ?_
  obtain ⟨hi, hF⟩ := hF
  refine go_acopy dX2_copyFrom_28 lm_X2_89 wcopy sh_116 sh_3 (Nat.le_of_ble_eq_true rfl) hi ?_
  obtain ⟨m3, em3⟩ : ∃ z : Mem, z = wA m2 3 (va_cpy (m2.1 116) (m2.1 3) (0 : Int32).toNatClampNeg (0 : Int32).toNatClampNeg (6 : Int32).toNatClampNeg) := ⟨_, rfl⟩
  rw [← em3]
  have hF := hF m3 em3
  refine go_aload_n dX2_copyFrom_31 rfl ?_
  refine go_getR (k := 2) (r := 117) dX2_copyFrom_32 sh_115 rfl inX2 (Nat.le_of_ble_eq_true rfl) lf_X2_15 rfl rfl ?_
  refine go_iconst (v := 0) dX2_copyFrom_35 (by decide) ?_
  refine go_aload_n dX2_copyFrom_36 rfl ?_
  refine go_getR (k := 2) (r := 4) dX2_copyFrom_37 sh_2 rfl inX2 (Nat.le_of_ble_eq_true rfl) lf_X2_15 rfl rfl ?_
  refine go_iconst (v := 0) dX2_copyFrom_40 (by decide) ?_
  refine go_bipush (v := 6) dX2_copyFrom_41 (by decide) ?_
  obtain ⟨hi, hF⟩ := hF
  refine go_acopy dX2_copyFrom_43 lm_X2_89 wcopy sh_117 sh_4 (Nat.le_of_ble_eq_true rfl) hi ?_
  obtain ⟨m4, em4⟩ : ∃ z : Mem, z = wA m3 4 (va_cpy (m3.1 117) (m3.1 4) (0 : Int32).toNatClampNeg (0 : Int32).toNatClampNeg (6 : Int32).toNatClampNeg) := ⟨_, rfl⟩
  rw [← em4]
  have hF := hF m4 em4
  refine go_aload_n dX2_copyFrom_46 rfl ?_
  refine go_getR (k := 3) (r := 118) dX2_copyFrom_47 sh_115 rfl inX2 (Nat.le_of_ble_eq_true rfl) lf_X2_18 rfl rfl ?_
  refine go_iconst (v := 0) dX2_copyFrom_50 (by decide) ?_
  refine go_aload_n dX2_copyFrom_51 rfl ?_
  refine go_getR (k := 3) (r := 5) dX2_copyFrom_52 sh_2 rfl inX2 (Nat.le_of_ble_eq_true rfl) lf_X2_18 rfl rfl ?_
  refine go_iconst (v := 0) dX2_copyFrom_55 (by decide) ?_
  refine go_bipush (v := 6) dX2_copyFrom_56 (by decide) ?_
  obtain ⟨hi, hF⟩ := hF
  refine go_acopy dX2_copyFrom_58 lm_X2_89 wcopy sh_118 sh_5 (Nat.le_of_ble_eq_true rfl) hi ?_
  obtain ⟨m5, em5⟩ : ∃ z : Mem, z = wA m4 5 (va_cpy (m4.1 118) (m4.1 5) (0 : Int32).toNatClampNeg (0 : Int32).toNatClampNeg (6 : Int32).toNatClampNeg) := ⟨_, rfl⟩
  rw [← em5]
  have hF := hF m5 em5
  refine go_aload_n dX2_copyFrom_61 rfl ?_
  refine go_getR (k := 5) (r := 119) dX2_copyFrom_62 sh_115 rfl inX2 (Nat.le_of_ble_eq_true rfl) lf_X2_21 rfl rfl ?_
  refine go_iconst (v := 0) dX2_copyFrom_65 (by decide) ?_
  refine go_aload_n dX2_copyFrom_66 rfl ?_
  refine go_getR (k := 5) (r := 6) dX2_copyFrom_67 sh_2 rfl inX2 (Nat.le_of_ble_eq_true rfl) lf_X2_21 rfl rfl ?_
  refine go_iconst (v := 0) dX2_copyFrom_70 (by decide) ?_
  refine go_bipush (v := 40) dX2_copyFrom_71 (by decide) ?_
  obtain ⟨hi, hF⟩ := hF
  refine go_acopy dX2_copyFrom_73 lm_X2_89 wcopy sh_119 sh_6 (Nat.le_of_ble_eq_true rfl) hi ?_
  obtain ⟨m6, em6⟩ : ∃ z : Mem, z = wA m5 6 (va_cpy (m5.1 119) (m5.1 6) (0 : Int32).toNatClampNeg (0 : Int32).toNatClampNeg (40 : Int32).toNatClampNeg) := ⟨_, rfl⟩
  rw [← em6]
  have hF := hF m6 em6
  refine go_aload_n dX2_copyFrom_76 rfl ?_
  refine go_getR (k := 6) (r := 120) dX2_copyFrom_77 sh_115 rfl inX2 (Nat.le_of_ble_eq_true rfl) lf_X2_24 rfl rfl ?_
  refine go_iconst (v := 0) dX2_copyFrom_80 (by decide) ?_
  refine go_aload_n dX2_copyFrom_81 rfl ?_
  refine go_getR (k := 6) (r := 7) dX2_copyFrom_82 sh_2 rfl inX2 (Nat.le_of_ble_eq_true rfl) lf_X2_24 rfl rfl ?_
  refine go_iconst (v := 0) dX2_copyFrom_85 (by decide) ?_
  refine go_bipush (v := 10) dX2_copyFrom_86 (by decide) ?_
  obtain ⟨hi, hF⟩ := hF
  refine go_acopy dX2_copyFrom_88 lm_X2_89 wcopy sh_120 sh_7 (Nat.le_of_ble_eq_true rfl) hi ?_
  obtain ⟨m7, em7⟩ : ∃ z : Mem, z = wA m6 7 (va_cpy (m6.1 120) (m6.1 7) (0 : Int32).toNatClampNeg (0 : Int32).toNatClampNeg (10 : Int32).toNatClampNeg) := ⟨_, rfl⟩
  rw [← em7]
  have hF := hF m7 em7
  refine go_aload_n dX2_copyFrom_91 rfl ?_
  refine go_getR (k := 7) (r := 121) dX2_copyFrom_92 sh_115 rfl inX2 (Nat.le_of_ble_eq_true rfl) lf_X2_27 rfl rfl ?_
  refine go_iconst (v := 0) dX2_copyFrom_95 (by decide) ?_
  refine go_aload_n dX2_copyFrom_96 rfl ?_
  refine go_getR (k := 7) (r := 8) dX2_copyFrom_97 sh_2 rfl inX2 (Nat.le_of_ble_eq_true rfl) lf_X2_27 rfl rfl ?_
  refine go_iconst (v := 0) dX2_copyFrom_100 (by decide) ?_
  refine go_bipush (v := 10) dX2_copyFrom_101 (by decide) ?_
  obtain ⟨hi, hF⟩ := hF
  refine go_acopy dX2_copyFrom_103 lm_X2_89 wcopy sh_121 sh_8 (Nat.le_of_ble_eq_true rfl) hi ?_
  obtain ⟨m8, em8⟩ : ∃ z : Mem, z = wA m7 8 (va_cpy (m7.1 121) (m7.1 8) (0 : Int32).toNatClampNeg (0 : Int32).toNatClampNeg (10 : Int32).toNatClampNeg) := ⟨_, rfl⟩
  rw [← em8]
  have hF := hF m8 em8
  refine go_aload_n dX2_copyFrom_106 rfl ?_
  refine go_getR (k := 8) (r := 122) dX2_copyFrom_107 sh_115 rfl inX2 (Nat.le_of_ble_eq_true rfl) lf_X2_30 rfl rfl ?_
  refine go_iconst (v := 0) dX2_copyFrom_110 (by decide) ?_
  refine go_aload_n dX2_copyFrom_111 rfl ?_
  refine go_getR (k := 8) (r := 9) dX2_copyFrom_112 sh_2 rfl inX2 (Nat.le_of_ble_eq_true rfl) lf_X2_30 rfl rfl ?_
  refine go_iconst (v := 0) dX2_copyFrom_115 (by decide) ?_
  refine go_bipush (v := 10) dX2_copyFrom_116 (by decide) ?_
  obtain ⟨hi, hF⟩ := hF
  refine go_acopy dX2_copyFrom_118 lm_X2_89 wcopy sh_122 sh_9 (Nat.le_of_ble_eq_true rfl) hi ?_
  obtain ⟨m9, em9⟩ : ∃ z : Mem, z = wA m8 9 (va_cpy (m8.1 122) (m8.1 9) (0 : Int32).toNatClampNeg (0 : Int32).toNatClampNeg (10 : Int32).toNatClampNeg) := ⟨_, rfl⟩
  rw [← em9]
  have hF := hF m9 em9
  exact go_vret (S := []) dX2_copyFrom_121 rfl ⟨rfl, hF⟩
theorem vX2_copyFrom_k (G : GP) (d : Nat)  (m : Mem) (K : Mem → Prop) (hF : ∀ m1 : Mem, m1 = wI m 115 0 (m.1 2 0) → ∀ m2 : Mem, m2 = wI m1 115 4 (m1.1 2 4) → (¬ (0 : Int32) < 0 ∧ ¬ (0 : Int32) < 0 ∧ ¬ (6 : Int32) < 0 ∧ (0 : Int32).toNatClampNeg + (6 : Int32).toNatClampNeg ≤ 6 ∧ (0 : Int32).toNatClampNeg + (6 : Int32).toNatClampNeg ≤ 6) ∧ ∀ m3 : Mem, m3 = wA m2 116 (va_cpy (m2.1 3) (m2.1 116) (0 : Int32).toNatClampNeg (0 : Int32).toNatClampNeg (6 : Int32).toNatClampNeg) → (¬ (0 : Int32) < 0 ∧ ¬ (0 : Int32) < 0 ∧ ¬ (6 : Int32) < 0 ∧ (0 : Int32).toNatClampNeg + (6 : Int32).toNatClampNeg ≤ 6 ∧ (0 : Int32).toNatClampNeg + (6 : Int32).toNatClampNeg ≤ 6) ∧ ∀ m4 : Mem, m4 = wA m3 117 (va_cpy (m3.1 4) (m3.1 117) (0 : Int32).toNatClampNeg (0 : Int32).toNatClampNeg (6 : Int32).toNatClampNeg) → (¬ (0 : Int32) < 0 ∧ ¬ (0 : Int32) < 0 ∧ ¬ (6 : Int32) < 0 ∧ (0 : Int32).toNatClampNeg + (6 : Int32).toNatClampNeg ≤ 6 ∧ (0 : Int32).toNatClampNeg + (6 : Int32).toNatClampNeg ≤ 6) ∧ ∀ m5 : Mem, m5 = wA m4 118 (va_cpy (m4.1 5) (m4.1 118) (0 : Int32).toNatClampNeg (0 : Int32).toNatClampNeg (6 : Int32).toNatClampNeg) → (¬ (0 : Int32) < 0 ∧ ¬ (0 : Int32) < 0 ∧ ¬ (40 : Int32) < 0 ∧ (0 : Int32).toNatClampNeg + (40 : Int32).toNatClampNeg ≤ 40 ∧ (0 : Int32).toNatClampNeg + (40 : Int32).toNatClampNeg ≤ 40) ∧ ∀ m6 : Mem, m6 = wA m5 119 (va_cpy (m5.1 6) (m5.1 119) (0 : Int32).toNatClampNeg (0 : Int32).toNatClampNeg (40 : Int32).toNatClampNeg) → (¬ (0 : Int32) < 0 ∧ ¬ (0 : Int32) < 0 ∧ ¬ (10 : Int32) < 0 ∧ (0 : Int32).toNatClampNeg + (10 : Int32).toNatClampNeg ≤ 10 ∧ (0 : Int32).toNatClampNeg + (10 : Int32).toNatClampNeg ≤ 10) ∧ ∀ m7 : Mem, m7 = wA m6 120 (va_cpy (m6.1 7) (m6.1 120) (0 : Int32).toNatClampNeg (0 : Int32).toNatClampNeg (10 : Int32).toNatClampNeg) → (¬ (0 : Int32) < 0 ∧ ¬ (0 : Int32) < 0 ∧ ¬ (10 : Int32) < 0 ∧ (0 : Int32).toNatClampNeg + (10 : Int32).toNatClampNeg ≤ 10 ∧ (0 : Int32).toNatClampNeg + (10 : Int32).toNatClampNeg ≤ 10) ∧ ∀ m8 : Mem, m8 = wA m7 121 (va_cpy (m7.1 8) (m7.1 121) (0 : Int32).toNatClampNeg (0 : Int32).toNatClampNeg (10 : Int32).toNatClampNeg) → (¬ (0 : Int32) < 0 ∧ ¬ (0 : Int32) < 0 ∧ ¬ (10 : Int32) < 0 ∧ (0 : Int32).toNatClampNeg + (10 : Int32).toNatClampNeg ≤ 10 ∧ (0 : Int32).toNatClampNeg + (10 : Int32).toNatClampNeg ≤ 10) ∧ ∀ m9 : Mem, m9 = wA m8 122 (va_cpy (m8.1 9) (m8.1 122) (0 : Int32).toNatClampNeg (0 : Int32).toNatClampNeg (10 : Int32).toNatClampNeg) → K m9) : Evv G (d + 1) mX2_copyFrom [.ref (ga G 115), .ref (ga G 2)] m K := by
  refine Ev.go [.ref (ga G 115), .ref (ga G 2)] (by decide) (Nat.le_of_ble_eq_true rfl) rfl ?_
  refine go_aload_n dX2_copyFrom_0 rfl ?_
  refine go_aload_n dX2_copyFrom_1 rfl ?_
  refine go_getI (k := 0) dX2_copyFrom_2 sh_2 rfl inX2 (Nat.le_of_ble_eq_true rfl) lf_X2_39 rfl ?_
  refine go_putI (k := 0) dX2_copyFrom_5 sh_115 rfl inX2 (Nat.le_of_ble_eq_true rfl) lf_X2_39 tyX2 tyX2_ok nmX2 rfl rfl (by decide +kernel) ?_
  obtain ⟨m1, em1⟩ : ∃ z : Mem, z = wI m 115 0 (m.1 2 0) := ⟨_, rfl⟩
  rw [← em1]
  have hF := hF m1 em1
  refine go_aload_n dX2_copyFrom_8 rfl ?_
  refine go_aload_n dX2_copyFrom_9 rfl ?_
  refine go_getI (k := 4) dX2_copyFrom_10 sh_2 rfl inX2 (Nat.le_of_ble_eq_true rfl) lf_X2_43 rfl ?_
  refine go_putI (k := 4) dX2_copyFrom_13 sh_115 rfl inX2 (Nat.le_of_ble_eq_true rfl) lf_X2_43 tyX2 tyX2_ok nmX2 rfl rfl (by decide +kernel) ?_
  obtain ⟨m2, em2⟩ : ∃ z : Mem, z = wI m1 115 4 (m1.1 2 4) := ⟨_, rfl⟩
  rw [← em2]
  have hF := hF m2 em2
  refine go_aload_n dX2_copyFrom_16 rfl ?_
  refine go_getR (k := 1) (r := 3) dX2_copyFrom_17 sh_2 rfl inX2 (Nat.le_of_ble_eq_true rfl) lf_X2_9 rfl rfl ?_
  refine go_iconst (v := 0) dX2_copyFrom_20 (by decide) ?_
  refine go_aload_n dX2_copyFrom_21 rfl ?_
  refine go_getR (k := 1) (r := 116) dX2_copyFrom_22 sh_115 rfl inX2 (Nat.le_of_ble_eq_true rfl) lf_X2_9 rfl rfl ?_
  refine go_iconst (v := 0) dX2_copyFrom_25 (by decide) ?_
  refine go_bipush (v := 6) dX2_copyFrom_26 (by decide) ?_
  obtain ⟨hi, hF⟩ := hF
  refine go_acopy dX2_copyFrom_28 lm_X2_89 wcopy sh_3 sh_116 (Nat.le_of_ble_eq_true rfl) hi ?_
  obtain ⟨m3, em3⟩ : ∃ z : Mem, z = wA m2 116 (va_cpy (m2.1 3) (m2.1 116) (0 : Int32).toNatClampNeg (0 : Int32).toNatClampNeg (6 : Int32).toNatClampNeg) := ⟨_, rfl⟩
  rw [← em3]
  have hF := hF m3 em3
  refine go_aload_n dX2_copyFrom_31 rfl ?_
  refine go_getR (k := 2) (r := 4) dX2_copyFrom_32 sh_2 rfl inX2 (Nat.le_of_ble_eq_true rfl) lf_X2_15 rfl rfl ?_
  refine go_iconst (v := 0) dX2_copyFrom_35 (by decide) ?_
  refine go_aload_n dX2_copyFrom_36 rfl ?_
  refine go_getR (k := 2) (r := 117) dX2_copyFrom_37 sh_115 rfl inX2 (Nat.le_of_ble_eq_true rfl) lf_X2_15 rfl rfl ?_
  refine go_iconst (v := 0) dX2_copyFrom_40 (by decide) ?_
  refine go_bipush (v := 6) dX2_copyFrom_41 (by decide) ?_
  obtain ⟨hi, hF⟩ := hF
  refine go_acopy dX2_copyFrom_43 lm_X2_89 wcopy sh_4 sh_117 (Nat.le_of_ble_eq_true rfl) hi ?_
  obtain ⟨m4, em4⟩ : ∃ z : Mem, z = wA m3 117 (va_cpy (m3.1 4) (m3.1 117) (0 : Int32).toNatClampNeg (0 : Int32).toNatClampNeg (6 : Int32).toNatClampNeg) := ⟨_, rfl⟩
  rw [← em4]
  have hF := hF m4 em4
  refine go_aload_n dX2_copyFrom_46 rfl ?_
  refine go_getR (k := 3) (r := 5) dX2_copyFrom_47 sh_2 rfl inX2 (Nat.le_of_ble_eq_true rfl) lf_X2_18 rfl rfl ?_
  refine go_iconst (v := 0) dX2_copyFrom_50 (by decide) ?_
  refine go_aload_n dX2_copyFrom_51 rfl ?_
  refine go_getR (k := 3) (r := 118) dX2_copyFrom_52 sh_115 rfl inX2 (Nat.le_of_ble_eq_true rfl) lf_X2_18 rfl rfl ?_
  refine go_iconst (v := 0) dX2_copyFrom_55 (by decide) ?_
  refine go_bipush (v := 6) dX2_copyFrom_56 (by decide) ?_
  obtain ⟨hi, hF⟩ := hF
  refine go_acopy dX2_copyFrom_58 lm_X2_89 wcopy sh_5 sh_118 (Nat.le_of_ble_eq_true rfl) hi ?_
  obtain ⟨m5, em5⟩ : ∃ z : Mem, z = wA m4 118 (va_cpy (m4.1 5) (m4.1 118) (0 : Int32).toNatClampNeg (0 : Int32).toNatClampNeg (6 : Int32).toNatClampNeg) := ⟨_, rfl⟩
  rw [← em5]
  have hF := hF m5 em5
  refine go_aload_n dX2_copyFrom_61 rfl ?_
  refine go_getR (k := 5) (r := 6) dX2_copyFrom_62 sh_2 rfl inX2 (Nat.le_of_ble_eq_true rfl) lf_X2_21 rfl rfl ?_
  refine go_iconst (v := 0) dX2_copyFrom_65 (by decide) ?_
  refine go_aload_n dX2_copyFrom_66 rfl ?_
  refine go_getR (k := 5) (r := 119) dX2_copyFrom_67 sh_115 rfl inX2 (Nat.le_of_ble_eq_true rfl) lf_X2_21 rfl rfl ?_
  refine go_iconst (v := 0) dX2_copyFrom_70 (by decide) ?_
  refine go_bipush (v := 40) dX2_copyFrom_71 (by decide) ?_
  obtain ⟨hi, hF⟩ := hF
  refine go_acopy dX2_copyFrom_73 lm_X2_89 wcopy sh_6 sh_119 (Nat.le_of_ble_eq_true rfl) hi ?_
  obtain ⟨m6, em6⟩ : ∃ z : Mem, z = wA m5 119 (va_cpy (m5.1 6) (m5.1 119) (0 : Int32).toNatClampNeg (0 : Int32).toNatClampNeg (40 : Int32).toNatClampNeg) := ⟨_, rfl⟩
  rw [← em6]
  have hF := hF m6 em6
  refine go_aload_n dX2_copyFrom_76 rfl ?_
  refine go_getR (k := 6) (r := 7) dX2_copyFrom_77 sh_2 rfl inX2 (Nat.le_of_ble_eq_true rfl) lf_X2_24 rfl rfl ?_
  refine go_iconst (v := 0) dX2_copyFrom_80 (by decide) ?_
  refine go_aload_n dX2_copyFrom_81 rfl ?_
  refine go_getR (k := 6) (r := 120) dX2_copyFrom_82 sh_115 rfl inX2 (Nat.le_of_ble_eq_true rfl) lf_X2_24 rfl rfl ?_
  refine go_iconst (v := 0) dX2_copyFrom_85 (by decide) ?_
  refine go_bipush (v := 10) dX2_copyFrom_86 (by decide) ?_
  obtain ⟨hi, hF⟩ := hF
  refine go_acopy dX2_copyFrom_88 lm_X2_89 wcopy sh_7 sh_120 (Nat.le_of_ble_eq_true rfl) hi ?_
  obtain ⟨m7, em7⟩ : ∃ z : Mem, z = wA m6 120 (va_cpy (m6.1 7) (m6.1 120) (0 : Int32).toNatClampNeg (0 : Int32).toNatClampNeg (10 : Int32).toNatClampNeg) := ⟨_, rfl⟩
  rw [← em7]
  have hF := hF m7 em7
  refine go_aload_n dX2_copyFrom_91 rfl ?_
  refine go_getR (k := 7) (r := 8) dX2_copyFrom_92 sh_2 rfl inX2 (Nat.le_of_ble_eq_true rfl) lf_X2_27 rfl rfl ?_
  refine go_iconst (v := 0) dX2_copyFrom_95 (by decide) ?_
  refine go_aload_n dX2_copyFrom_96 rfl ?_
  refine go_getR (k := 7) (r := 121) dX2_copyFrom_97 sh_115 rfl inX2 (Nat.le_of_ble_eq_true rfl) lf_X2_27 rfl rfl ?_
  refine go_iconst (v := 0) dX2_copyFrom_100 (by decide) ?_
  refine go_bipush (v := 10) dX2_copyFrom_101 (by decide) ?_
  obtain ⟨hi, hF⟩ := hF
  refine go_acopy dX2_copyFrom_103 lm_X2_89 wcopy sh_8 sh_121 (Nat.le_of_ble_eq_true rfl) hi ?_
  obtain ⟨m8, em8⟩ : ∃ z : Mem, z = wA m7 121 (va_cpy (m7.1 8) (m7.1 121) (0 : Int32).toNatClampNeg (0 : Int32).toNatClampNeg (10 : Int32).toNatClampNeg) := ⟨_, rfl⟩
  rw [← em8]
  have hF := hF m8 em8
  refine go_aload_n dX2_copyFrom_106 rfl ?_
  refine go_getR (k := 8) (r := 9) dX2_copyFrom_107 sh_2 rfl inX2 (Nat.le_of_ble_eq_true rfl) lf_X2_30 rfl rfl ?_
  refine go_iconst (v := 0) dX2_copyFrom_110 (by decide) ?_
  refine go_aload_n dX2_copyFrom_111 rfl ?_
  refine go_getR (k := 8) (r := 122) dX2_copyFrom_112 sh_115 rfl inX2 (Nat.le_of_ble_eq_true rfl) lf_X2_30 rfl rfl ?_
  refine go_iconst (v := 0) dX2_copyFrom_115 (by decide) ?_
  refine go_bipush (v := 10) dX2_copyFrom_116 (by decide) ?_
  obtain ⟨hi, hF⟩ := hF
  refine go_acopy dX2_copyFrom_118 lm_X2_89 wcopy sh_9 sh_122 (Nat.le_of_ble_eq_true rfl) hi ?_
  obtain ⟨m9, em9⟩ : ∃ z : Mem, z = wA m8 122 (va_cpy (m8.1 9) (m8.1 122) (0 : Int32).toNatClampNeg (0 : Int32).toNatClampNeg (10 : Int32).toNatClampNeg) := ⟨_, rfl⟩
  rw [← em9]
  have hF := hF m9 em9
  exact go_vret (S := []) dX2_copyFrom_121 rfl ⟨rfl, hF⟩
