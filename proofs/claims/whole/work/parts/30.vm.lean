theorem vX12_copy (G : GP) (d : Nat) (p0 p0l : Nat) (hp0 : SH[p0]? = some (100, p0l, [])) (p1 p1l : Nat) (hp1 : SH[p1]? = some (100, p1l, [])) (m : Mem) (K : Mem → Prop) (hF : Gw G (d) mX12_copy 2 [.ref (ga G p0), .ref (ga G p1), .int 0] [] m (Qv K)) : Evv G (d) mX12_copy [.ref (ga G p0), .ref (ga G p1)] m K := by
  refine Ev.go [.ref (ga G p0), .ref (ga G p1), uu] (by decide) (Nat.le_of_ble_eq_true rfl) rfl ?_
  refine go_iconst (v := 0) dX12_copy_0 (by decide) ?_
  refine go_istore_n (L' := [.ref (ga G p0), .ref (ga G p1), .int 0]) dX12_copy_1 (Nat.le_of_ble_eq_true rfl) rfl ?_
  exact hF
theorem vX12_copy_2 (G : GP) (d : Nat) (p0 p0l : Nat) (hp0 : SH[p0]? = some (100, p0l, [])) (p1 p1l : Nat) (hp1 : SH[p1]? = some (100, p1l, [])) (l2 : Int32) (m : Mem) (K : Mem → Prop) (hF : ((5968 ≤ l2) → K m) ∧ ((¬ 5968 ≤ l2) → vp_in l2 p0l ∧ vp_in l2 p1l ∧ ∀ m1 : Mem, m1 = wI m p1 l2.toNatClampNeg (m.1 p0 l2.toNatClampNeg) → ∀ x2 : Int32, x2 = l2 + 1 → Gw G (d) mX12_copy 2 [.ref (ga G p0), .ref (ga G p1), .int x2] [] m1 (Qv K))) : Gw G (d) mX12_copy 2 [.ref (ga G p0), .ref (ga G p1), .int l2] [] m (Qv K) := by
  refine go_iload_n dX12_copy_2 rfl ?_
  refine go_sipush (v := 5968) dX12_copy_3 (by decide) ?_
  refine go_icmp_ge 21 dX12_copy_6 rfl ⟨fun hc => ?_, fun hc => ?_⟩
  · have hF := hF.1 hc
    exact go_vret (S := []) dX12_copy_21 rfl ⟨rfl, hF⟩
  · have hF := hF.2 hc
    refine go_aload_n dX12_copy_9 rfl ?_
    refine go_iload_n dX12_copy_10 rfl ?_
    refine go_aload_n dX12_copy_11 rfl ?_
    refine go_iload_n dX12_copy_12 rfl ?_
    obtain ⟨hi, hF⟩ := hF
    refine go_iald dX12_copy_13 hp0 hi ?_
    obtain ⟨hi, hF⟩ := hF
    refine go_iast dX12_copy_14 hp1 hi ?_
    obtain ⟨m1, em1⟩ : ∃ z : Mem, z = wI m p1 l2.toNatClampNeg (m.1 p0 l2.toNatClampNeg) := ⟨_, rfl⟩
    rw [← em1]
    have hF := hF m1 em1
    obtain ⟨x2, ex2⟩ : ∃ z : Int32, z = l2 + 1 := ⟨_, rfl⟩
    have hF := hF x2 ex2
    refine go_iinc (v := x2) (L' := [.ref (ga G p0), .ref (ga G p1), .int x2]) dX12_copy_15 rfl (by rw [ex2]; rfl) (Nat.le_of_ble_eq_true rfl) rfl ?_
    refine go_goto 2 dX12_copy_18 rfl ?_
    exact hF
theorem vX12_bits (G : GP) (d : Nat) (a0 : Int32) (m : Mem) (K : Int32 → Mem → Prop) (hF : Gw G (d) mX12_bits 4 [.int a0, .int 0, .int 0] [] m (Qi K)) : Evi G (d) mX12_bits [.int a0] m K := by
  refine Ev.go [.int a0, uu, uu] (by decide) (Nat.le_of_ble_eq_true rfl) rfl ?_
  refine go_iconst (v := 0) dX12_bits_0 (by decide) ?_
  refine go_istore_n (L' := [.int a0, .int 0, uu]) dX12_bits_1 (Nat.le_of_ble_eq_true rfl) rfl ?_
  refine go_iconst (v := 0) dX12_bits_2 (by decide) ?_
  refine go_istore_n (L' := [.int a0, .int 0, .int 0]) dX12_bits_3 (Nat.le_of_ble_eq_true rfl) rfl ?_
  exact hF
theorem vX12_bits_4 (G : GP) (d : Nat) (l0 : Int32) (l1 : Int32) (l2 : Int32) (m : Mem) (K : Int32 → Mem → Prop) (hF : ((10 ≤ l2) → K l1 m) ∧ ((¬ 10 ≤ l2) → ∀ x1 : Int32, x1 = l1 + ((l0 >>> (l2 &&& 31)) &&& 1) → ∀ x2 : Int32, x2 = l2 + 1 → Gw G (d) mX12_bits 4 [.int l0, .int x1, .int x2] [] m (Qi K))) : Gw G (d) mX12_bits 4 [.int l0, .int l1, .int l2] [] m (Qi K) := by
  refine go_iload_n dX12_bits_4 rfl ?_
  refine go_bipush (v := 10) dX12_bits_5 (by decide) ?_
  refine go_icmp_ge 24 dX12_bits_7 rfl ⟨fun hc => ?_, fun hc => ?_⟩
  · have hF := hF.1 hc
    refine go_iload_n dX12_bits_24 rfl ?_
    exact go_iret (S := []) dX12_bits_25 rfl ⟨_, rfl, hF⟩
  · have hF := hF.2 hc
    refine go_iload_n dX12_bits_10 rfl ?_
    refine go_iload_n dX12_bits_11 rfl ?_
    refine go_iload_n dX12_bits_12 rfl ?_
    refine go_ishr dX12_bits_13 ?_
    refine go_iconst (v := 1) dX12_bits_14 (by decide) ?_
    refine go_iand dX12_bits_15 ?_
    refine go_iadd dX12_bits_16 ?_
    refine Gw.namei (fun x1 ex1 => ?_)
    have hF := hF x1 ex1
    refine go_istore_n (L' := [.int l0, .int x1, .int l2]) dX12_bits_17 (Nat.le_of_ble_eq_true rfl) rfl ?_
    obtain ⟨x2, ex2⟩ : ∃ z : Int32, z = l2 + 1 := ⟨_, rfl⟩
    have hF := hF x2 ex2
    refine go_iinc (v := x2) (L' := [.int l0, .int x1, .int x2]) dX12_bits_18 rfl (by rw [ex2]; rfl) (Nat.le_of_ble_eq_true rfl) rfl ?_
    refine go_goto 4 dX12_bits_21 rfl ?_
    exact hF
theorem vX12_bell (G : GP) (d : Nat) (a0 : Int32) (a1 : Int32) (a2 : Int32) (m : Mem) (K : Int32 → Mem → Prop) (hF : ((1 ≤ a0 ∧ a0 ≤ 9) → ((0 ≤ a1 ∧ a1 ≤ 9) → ((1 ≤ a2 ∧ a2 ≤ 9) → ((¬ (m.1 274 0) = 6) → ∀ x1 : Int32, x1 = (16 : Int32) + ((3 : Int32) * (m.1 274 0)) → vp_in x1 5968 ∧ ∀ m2 : Mem, m2 = wI m 274 x1.toNatClampNeg a0 → vp_in (x1 + 1) 5968 ∧ ∀ m3 : Mem, m3 = wI m2 274 (x1 + 1).toNatClampNeg a1 → vp_in (x1 + 2) 5968 ∧ ∀ m4 : Mem, m4 = wI m3 274 (x1 + 2).toNatClampNeg a2 → ∀ m5 : Mem, m5 = wI m4 274 0 ((m4.1 274 0) + 1) → K ((m5.1 274 0) - 1) m5) ∧ (((m.1 274 0) = 6) → K (-1) m)) ∧ (¬ (1 ≤ a2 ∧ a2 ≤ 9) → K (-1) m)) ∧ (¬ (0 ≤ a1 ∧ a1 ≤ 9) → K (-1) m)) ∧ (¬ (1 ≤ a0 ∧ a0 ≤ 9) → K (-1) m)) : Evi G (d + 1) mX12_bell [.ref (ga G 273), .int a0, .int a1, .int a2] m K := by
  refine Ev.go [.ref (ga G 273), .int a0, .int a1, .int a2, uu] (by decide) (Nat.le_of_ble_eq_true rfl) rfl ?_
  refine go_iload_n dX12_bell_0 rfl ?_
  refine go_iconst (v := 1) dX12_bell_1 (by decide) ?_
  refine go_bipush (v := 9) dX12_bell_2 (by decide) ?_
  rcases Classical.em (1 ≤ a0 ∧ a0 ≤ 9) with hp | hp
  · have hF := hF.1 hp
    refine go_callS mX12_isIn dX12_bell_4 lm_X12_80 okX12_isIn isX12_isIn (As := [.int a0, .int 1, .int 9]) (S := []) rfl rfl (Nat.le_of_ble_eq_true rfl) (eX12_isIn G _ a0 1 9 m (fun r m' => r = 1 ∧ m = m') ⟨fun _ => ⟨rfl, rfl⟩, fun q => absurd hp q⟩) (k_i (fun r m' hr => ?_))
    obtain ⟨hr1, hr2⟩ := hr
    subst hr1
    subst hr2
    refine go_if_eq 41 dX12_bell_7 rfl ⟨fun hc => absurd hc (by decide), fun _ => ?_⟩
    refine go_iload_n dX12_bell_10 rfl ?_
    refine go_iconst (v := 0) dX12_bell_11 (by decide) ?_
    refine go_bipush (v := 9) dX12_bell_12 (by decide) ?_
    rcases Classical.em (0 ≤ a1 ∧ a1 ≤ 9) with hp | hp
    · have hF := hF.1 hp
      refine go_callS mX12_isIn dX12_bell_14 lm_X12_80 okX12_isIn isX12_isIn (As := [.int a1, .int 0, .int 9]) (S := []) rfl rfl (Nat.le_of_ble_eq_true rfl) (eX12_isIn G _ a1 0 9 m (fun r m' => r = 1 ∧ m = m') ⟨fun _ => ⟨rfl, rfl⟩, fun q => absurd hp q⟩) (k_i (fun r m' hr => ?_))
      obtain ⟨hr1, hr2⟩ := hr
      subst hr1
      subst hr2
      refine go_if_eq 41 dX12_bell_17 rfl ⟨fun hc => absurd hc (by decide), fun _ => ?_⟩
      refine go_iload_n dX12_bell_20 rfl ?_
      refine go_iconst (v := 1) dX12_bell_21 (by decide) ?_
      refine go_bipush (v := 9) dX12_bell_22 (by decide) ?_
      rcases Classical.em (1 ≤ a2 ∧ a2 ≤ 9) with hp | hp
      · have hF := hF.1 hp
        refine go_callS mX12_isIn dX12_bell_24 lm_X12_80 okX12_isIn isX12_isIn (As := [.int a2, .int 1, .int 9]) (S := []) rfl rfl (Nat.le_of_ble_eq_true rfl) (eX12_isIn G _ a2 1 9 m (fun r m' => r = 1 ∧ m = m') ⟨fun _ => ⟨rfl, rfl⟩, fun q => absurd hp q⟩) (k_i (fun r m' hr => ?_))
        obtain ⟨hr1, hr2⟩ := hr
        subst hr1
        subst hr2
        refine go_if_eq 41 dX12_bell_27 rfl ⟨fun hc => absurd hc (by decide), fun _ => ?_⟩
        refine go_aload_n dX12_bell_30 rfl ?_
        refine go_getR (k := 0) (r := 274) dX12_bell_31 sh_273 rfl inX12 (Nat.le_of_ble_eq_true rfl) lf_X12_7 rfl rfl ?_
        refine go_iconst (v := 0) dX12_bell_34 (by decide) ?_
        refine go_ialdK (k := 0) dX12_bell_35 sh_274 (vp_in_dec (by decide)) (by decide) ?_
        refine go_bipush (v := 6) dX12_bell_36 (by decide) ?_
        refine go_icmp_ne 43 dX12_bell_38 rfl ⟨fun hc => ?_, fun hc => ?_⟩
        · have hF := hF.1 hc
          refine go_bipush (v := 16) dX12_bell_43 (by decide) ?_
          refine go_iconst (v := 3) dX12_bell_45 (by decide) ?_
          refine go_aload_n dX12_bell_46 rfl ?_
          refine go_getR (k := 0) (r := 274) dX12_bell_47 sh_273 rfl inX12 (Nat.le_of_ble_eq_true rfl) lf_X12_7 rfl rfl ?_
          refine go_iconst (v := 0) dX12_bell_50 (by decide) ?_
          refine go_ialdK (k := 0) dX12_bell_51 sh_274 (vp_in_dec (by decide)) (by decide) ?_
          refine go_imul dX12_bell_52 ?_
          refine go_iadd dX12_bell_53 ?_
          refine Gw.namei (fun x1 ex1 => ?_)
          have hF := hF x1 ex1
          refine go_istore (L' := [.ref (ga G 273), .int a0, .int a1, .int a2, .int x1]) dX12_bell_54 (Nat.le_of_ble_eq_true rfl) rfl ?_
          refine go_aload_n dX12_bell_56 rfl ?_
          refine go_getR (k := 0) (r := 274) dX12_bell_57 sh_273 rfl inX12 (Nat.le_of_ble_eq_true rfl) lf_X12_7 rfl rfl ?_
          refine go_iload dX12_bell_60 rfl ?_
          refine go_iload_n dX12_bell_62 rfl ?_
          obtain ⟨hi, hF⟩ := hF
          refine go_iast dX12_bell_63 sh_274 hi ?_
          obtain ⟨m2, em2⟩ : ∃ z : Mem, z = wI m 274 x1.toNatClampNeg a0 := ⟨_, rfl⟩
          rw [← em2]
          have hF := hF m2 em2
          refine go_aload_n dX12_bell_64 rfl ?_
          refine go_getR (k := 0) (r := 274) dX12_bell_65 sh_273 rfl inX12 (Nat.le_of_ble_eq_true rfl) lf_X12_7 rfl rfl ?_
          refine go_iload dX12_bell_68 rfl ?_
          refine go_iconst (v := 1) dX12_bell_70 (by decide) ?_
          refine go_iadd dX12_bell_71 ?_
          refine go_iload_n dX12_bell_72 rfl ?_
          obtain ⟨hi, hF⟩ := hF
          refine go_iast dX12_bell_73 sh_274 hi ?_
          obtain ⟨m3, em3⟩ : ∃ z : Mem, z = wI m2 274 (x1 + 1).toNatClampNeg a1 := ⟨_, rfl⟩
          rw [← em3]
          have hF := hF m3 em3
          refine go_aload_n dX12_bell_74 rfl ?_
          refine go_getR (k := 0) (r := 274) dX12_bell_75 sh_273 rfl inX12 (Nat.le_of_ble_eq_true rfl) lf_X12_7 rfl rfl ?_
          refine go_iload dX12_bell_78 rfl ?_
          refine go_iconst (v := 2) dX12_bell_80 (by decide) ?_
          refine go_iadd dX12_bell_81 ?_
          refine go_iload_n dX12_bell_82 rfl ?_
          obtain ⟨hi, hF⟩ := hF
          refine go_iast dX12_bell_83 sh_274 hi ?_
          obtain ⟨m4, em4⟩ : ∃ z : Mem, z = wI m3 274 (x1 + 2).toNatClampNeg a2 := ⟨_, rfl⟩
          rw [← em4]
          have hF := hF m4 em4
          refine go_aload_n dX12_bell_84 rfl ?_
          refine go_getR (k := 0) (r := 274) dX12_bell_85 sh_273 rfl inX12 (Nat.le_of_ble_eq_true rfl) lf_X12_7 rfl rfl ?_
          refine go_iconst (v := 0) dX12_bell_88 (by decide) ?_
          refine go_dup2 dX12_bell_89 rfl rfl ?_
          refine go_ialdK (k := 0) dX12_bell_90 sh_274 (vp_in_dec (by decide)) (by decide) ?_
          refine go_iconst (v := 1) dX12_bell_91 (by decide) ?_
          refine go_iadd dX12_bell_92 ?_
          refine go_iastK (k := 0) dX12_bell_93 sh_274 (vp_in_dec (by decide)) (by decide) ?_
          obtain ⟨m5, em5⟩ : ∃ z : Mem, z = wI m4 274 0 ((m4.1 274 0) + 1) := ⟨_, rfl⟩
          rw [← em5]
          have hF := hF m5 em5
          refine go_aload_n dX12_bell_94 rfl ?_
          refine go_getR (k := 0) (r := 274) dX12_bell_95 sh_273 rfl inX12 (Nat.le_of_ble_eq_true rfl) lf_X12_7 rfl rfl ?_
          refine go_iconst (v := 0) dX12_bell_98 (by decide) ?_
          refine go_ialdK (k := 0) dX12_bell_99 sh_274 (vp_in_dec (by decide)) (by decide) ?_
          refine go_iconst (v := 1) dX12_bell_100 (by decide) ?_
          refine go_isub dX12_bell_101 ?_
          exact go_iret (S := []) dX12_bell_102 rfl ⟨_, rfl, hF⟩
        · have hF := hF.2 hc
          refine go_iconst (v := -1) dX12_bell_41 (by decide) ?_
          exact go_iret (S := []) dX12_bell_42 rfl ⟨_, rfl, hF⟩
      · have hF := hF.2 hp
        refine go_callS mX12_isIn dX12_bell_24 lm_X12_80 okX12_isIn isX12_isIn (As := [.int a2, .int 1, .int 9]) (S := []) rfl rfl (Nat.le_of_ble_eq_true rfl) (eX12_isIn G _ a2 1 9 m (fun r m' => r = 0 ∧ m = m') ⟨fun q => absurd q hp, fun _ => ⟨rfl, rfl⟩⟩) (k_i (fun r m' hr => ?_))
        obtain ⟨hr1, hr2⟩ := hr
        subst hr1
        subst hr2
        refine go_if_eq 41 dX12_bell_27 rfl ⟨fun _ => ?_, fun hc => absurd hc (by decide)⟩
        refine go_iconst (v := -1) dX12_bell_41 (by decide) ?_
        exact go_iret (S := []) dX12_bell_42 rfl ⟨_, rfl, hF⟩
    · have hF := hF.2 hp
      refine go_callS mX12_isIn dX12_bell_14 lm_X12_80 okX12_isIn isX12_isIn (As := [.int a1, .int 0, .int 9]) (S := []) rfl rfl (Nat.le_of_ble_eq_true rfl) (eX12_isIn G _ a1 0 9 m (fun r m' => r = 0 ∧ m = m') ⟨fun q => absurd q hp, fun _ => ⟨rfl, rfl⟩⟩) (k_i (fun r m' hr => ?_))
      obtain ⟨hr1, hr2⟩ := hr
      subst hr1
      subst hr2
      refine go_if_eq 41 dX12_bell_17 rfl ⟨fun _ => ?_, fun hc => absurd hc (by decide)⟩
      refine go_iconst (v := -1) dX12_bell_41 (by decide) ?_
      exact go_iret (S := []) dX12_bell_42 rfl ⟨_, rfl, hF⟩
  · have hF := hF.2 hp
    refine go_callS mX12_isIn dX12_bell_4 lm_X12_80 okX12_isIn isX12_isIn (As := [.int a0, .int 1, .int 9]) (S := []) rfl rfl (Nat.le_of_ble_eq_true rfl) (eX12_isIn G _ a0 1 9 m (fun r m' => r = 0 ∧ m = m') ⟨fun q => absurd q hp, fun _ => ⟨rfl, rfl⟩⟩) (k_i (fun r m' hr => ?_))
    obtain ⟨hr1, hr2⟩ := hr
    subst hr1
    subst hr2
    refine go_if_eq 41 dX12_bell_7 rfl ⟨fun _ => ?_, fun hc => absurd hc (by decide)⟩
    refine go_iconst (v := -1) dX12_bell_41 (by decide) ?_
    exact go_iret (S := []) dX12_bell_42 rfl ⟨_, rfl, hF⟩
theorem vX12_lengthTold (G : GP) (d : Nat)  (m : Mem) (K : Int32 → Mem → Prop) (hF : Gw G (d + 2) mX12_lengthTold 4 [.ref (ga G 273), .int 0, .int 0] [] m (Qi K)) : Evi G (d + 2) mX12_lengthTold [.ref (ga G 273)] m K := by
  refine Ev.go [.ref (ga G 273), uu, uu] (by decide) (Nat.le_of_ble_eq_true rfl) rfl ?_
  refine go_iconst (v := 0) dX12_lengthTold_0 (by decide) ?_
  refine go_istore_n (L' := [.ref (ga G 273), .int 0, uu]) dX12_lengthTold_1 (Nat.le_of_ble_eq_true rfl) rfl ?_
  refine go_iconst (v := 0) dX12_lengthTold_2 (by decide) ?_
  refine go_istore_n (L' := [.ref (ga G 273), .int 0, .int 0]) dX12_lengthTold_3 (Nat.le_of_ble_eq_true rfl) rfl ?_
  exact hF
theorem vX12_lengthTold_4 (G : GP) (d : Nat) (l1 : Int32) (l2 : Int32) (m : Mem) (K : Int32 → Mem → Prop) (hF : ((4 ≤ l2) → K l1 m) ∧ ((¬ 4 ≤ l2) → vp_in l2 4 ∧ ((¬ (m.1 277 l2.toNatClampNeg) = (-1)) → vp_in l2 4 ∧ ((0 ≤ (m.1 277 l2.toNatClampNeg) ∧ (m.1 277 l2.toNatClampNeg) ≤ m.1 274 0 - 1) → ((l2 ≤ l1) → ∀ x1 : Int32, x1 = l1 + 1 → ∀ x2 : Int32, x2 = l2 + 1 → Gw G (d + 2) mX12_lengthTold 4 [.ref (ga G 273), .int x1, .int x2] [] m (Qi K)) ∧ ((¬ l2 ≤ l1) → K (-1) m)) ∧ (¬ (0 ≤ (m.1 277 l2.toNatClampNeg) ∧ (m.1 277 l2.toNatClampNeg) ≤ m.1 274 0 - 1) → K (-1) m)) ∧ (((m.1 277 l2.toNatClampNeg) = (-1)) → ∀ x3 : Int32, x3 = l2 + 1 → Gw G (d + 2) mX12_lengthTold 4 [.ref (ga G 273), .int l1, .int x3] [] m (Qi K)))) : Gw G (d + 2) mX12_lengthTold 4 [.ref (ga G 273), .int l1, .int l2] [] m (Qi K) := by
  refine go_iload_n dX12_lengthTold_4 rfl ?_
  refine go_iconst (v := 4) dX12_lengthTold_5 (by decide) ?_
  refine go_icmp_ge 51 dX12_lengthTold_6 rfl ⟨fun hc => ?_, fun hc => ?_⟩
  · have hF := hF.1 hc
    refine go_iload_n dX12_lengthTold_51 rfl ?_
    exact go_iret (S := []) dX12_lengthTold_52 rfl ⟨_, rfl, hF⟩
  · have hF := hF.2 hc
    refine go_aload_n dX12_lengthTold_9 rfl ?_
    refine go_getR (k := 3) (r := 277) dX12_lengthTold_10 sh_273 rfl inX12 (Nat.le_of_ble_eq_true rfl) lf_X12_19 rfl rfl ?_
    refine go_iload_n dX12_lengthTold_13 rfl ?_
    obtain ⟨hi, hF⟩ := hF
    refine go_iald dX12_lengthTold_14 sh_277 hi ?_
    refine go_iconst (v := -1) dX12_lengthTold_15 (by decide) ?_
    refine go_icmp_ne 22 dX12_lengthTold_16 rfl ⟨fun hc => ?_, fun hc => ?_⟩
    · have hF := hF.1 hc
      refine go_aload_n dX12_lengthTold_22 rfl ?_
      refine go_aload_n dX12_lengthTold_23 rfl ?_
      refine go_getR (k := 3) (r := 277) dX12_lengthTold_24 sh_273 rfl inX12 (Nat.le_of_ble_eq_true rfl) lf_X12_19 rfl rfl ?_
      refine go_iload_n dX12_lengthTold_27 rfl ?_
      obtain ⟨hi, hF⟩ := hF
      refine go_iald dX12_lengthTold_28 sh_277 hi ?_
      rcases Classical.em (0 ≤ (m.1 277 l2.toNatClampNeg) ∧ (m.1 277 l2.toNatClampNeg) ≤ m.1 274 0 - 1) with hp | hp
      · have hF := hF.1 hp
        refine go_callV mX12_isBell dX12_lengthTold_29 lm_X12_88 okX12_isBell isX12_isBell sh_273 rfl (As := [.int (m.1 277 l2.toNatClampNeg)]) (S := []) rfl rfl (Nat.le_of_ble_eq_true rfl) (eX12_isBell G _ (m.1 277 l2.toNatClampNeg) m (fun r m' => r = 1 ∧ m = m') ⟨fun _ => ⟨rfl, rfl⟩, fun q => absurd hp q⟩) (k_i (fun r m' hr => ?_))
        obtain ⟨hr1, hr2⟩ := hr
        subst hr1
        subst hr2
        refine go_if_eq 40 dX12_lengthTold_32 rfl ⟨fun hc => absurd hc (by decide), fun _ => ?_⟩
        refine go_iload_n dX12_lengthTold_35 rfl ?_
        refine go_iload_n dX12_lengthTold_36 rfl ?_
        refine go_icmp_ge 42 dX12_lengthTold_37 rfl ⟨fun hc => ?_, fun hc => ?_⟩
        · have hF := hF.1 hc
          obtain ⟨x1, ex1⟩ : ∃ z : Int32, z = l1 + 1 := ⟨_, rfl⟩
          have hF := hF x1 ex1
          refine go_iinc (v := x1) (L' := [.ref (ga G 273), .int x1, .int l2]) dX12_lengthTold_42 rfl (by rw [ex1]; rfl) (Nat.le_of_ble_eq_true rfl) rfl ?_
          obtain ⟨x2, ex2⟩ : ∃ z : Int32, z = l2 + 1 := ⟨_, rfl⟩
          have hF := hF x2 ex2
          refine go_iinc (v := x2) (L' := [.ref (ga G 273), .int x1, .int x2]) dX12_lengthTold_45 rfl (by rw [ex2]; rfl) (Nat.le_of_ble_eq_true rfl) rfl ?_
          refine go_goto 4 dX12_lengthTold_48 rfl ?_
          exact hF
        · have hF := hF.2 hc
          refine go_iconst (v := -1) dX12_lengthTold_40 (by decide) ?_
          exact go_iret (S := []) dX12_lengthTold_41 rfl ⟨_, rfl, hF⟩
      · have hF := hF.2 hp
        refine go_callV mX12_isBell dX12_lengthTold_29 lm_X12_88 okX12_isBell isX12_isBell sh_273 rfl (As := [.int (m.1 277 l2.toNatClampNeg)]) (S := []) rfl rfl (Nat.le_of_ble_eq_true rfl) (eX12_isBell G _ (m.1 277 l2.toNatClampNeg) m (fun r m' => r = 0 ∧ m = m') ⟨fun q => absurd q hp, fun _ => ⟨rfl, rfl⟩⟩) (k_i (fun r m' hr => ?_))
        obtain ⟨hr1, hr2⟩ := hr
        subst hr1
        subst hr2
        refine go_if_eq 40 dX12_lengthTold_32 rfl ⟨fun _ => ?_, fun hc => absurd hc (by decide)⟩
        refine go_iconst (v := -1) dX12_lengthTold_40 (by decide) ?_
        exact go_iret (S := []) dX12_lengthTold_41 rfl ⟨_, rfl, hF⟩
    · have hF := hF.2 hc
      refine go_goto 45 dX12_lengthTold_19 rfl ?_
      obtain ⟨x3, ex3⟩ : ∃ z : Int32, z = l2 + 1 := ⟨_, rfl⟩
      have hF := hF x3 ex3
      refine go_iinc (v := x3) (L' := [.ref (ga G 273), .int l1, .int x3]) dX12_lengthTold_45 rfl (by rw [ex3]; rfl) (Nat.le_of_ble_eq_true rfl) rfl ?_
      refine go_goto 4 dX12_lengthTold_48 rfl ?_
      exact hF
theorem vX12_word (G : GP) (d : Nat) (a0 : Int32) (a1 : Int32) (a2 : Int32) (a3 : Int32) (a4 : Int32) (a5 : Int32) (m : Mem) (K : Int32 → Mem → Prop) (hF : ∀ m1 : Mem, m1 = wI m 277 0 a0 → ∀ m2 : Mem, m2 = wI m1 277 1 a1 → ∀ m3 : Mem, m3 = wI m2 277 2 a2 → ∀ m4 : Mem, m4 = wI m3 277 3 a3 → Evi G (d + 2) mX12_lengthTold [.ref (ga G 273)] m4 (fun r6 m5 => ((r6 < 1) → K (-1) m5) ∧ ((¬ r6 < 1) → ((0 ≤ a4 ∧ a4 ≤ 3) → ((0 ≤ a5 ∧ a5 ≤ 99) → ((¬ (m5.1 274 1) = 10) → ∀ x7 : Int32, x7 = m5.1 274 1 → ∀ x8 : Int32, x8 = (34 : Int32) + ((9 : Int32) * x7) → vp_in x8 5968 ∧ ∀ m9 : Mem, m9 = wI m5 274 x8.toNatClampNeg a4 → vp_in (x8 + 1) 5968 ∧ ∀ m10 : Mem, m10 = wI m9 274 (x8 + 1).toNatClampNeg a5 → vp_in (x8 + 2) 5968 ∧ ∀ m11 : Mem, m11 = wI m10 274 (x8 + 2).toNatClampNeg r6 → Gw G (d + 3) mX12_word 127 [.ref (ga G 273), .int a0, .int a1, .int a2, .int a3, .int a4, .int a5, .int r6, .int x7, .int x8, .int 0] [] m11 (Qi K)) ∧ (((m5.1 274 1) = 10) → K (-1) m5)) ∧ (¬ (0 ≤ a5 ∧ a5 ≤ 99) → K (-1) m5)) ∧ (¬ (0 ≤ a4 ∧ a4 ≤ 3) → K (-1) m5)))) : Evi G (d + 3) mX12_word [.ref (ga G 273), .int a0, .int a1, .int a2, .int a3, .int a4, .int a5] m K := by
  refine Ev.go [.ref (ga G 273), .int a0, .int a1, .int a2, .int a3, .int a4, .int a5, uu, uu, uu, uu] (by decide) (Nat.le_of_ble_eq_true rfl) rfl ?_
  refine go_aload_n dX12_word_0 rfl ?_
  refine go_getR (k := 3) (r := 277) dX12_word_1 sh_273 rfl inX12 (Nat.le_of_ble_eq_true rfl) lf_X12_19 rfl rfl ?_
  refine go_iconst (v := 0) dX12_word_4 (by decide) ?_
  refine go_iload_n dX12_word_5 rfl ?_
  refine go_iastK (k := 0) dX12_word_6 sh_277 (vp_in_dec (by decide)) (by decide) ?_
  obtain ⟨m1, em1⟩ : ∃ z : Mem, z = wI m 277 0 a0 := ⟨_, rfl⟩
  rw [← em1]
  have hF := hF m1 em1
  refine go_aload_n dX12_word_7 rfl ?_
  refine go_getR (k := 3) (r := 277) dX12_word_8 sh_273 rfl inX12 (Nat.le_of_ble_eq_true rfl) lf_X12_19 rfl rfl ?_
  refine go_iconst (v := 1) dX12_word_11 (by decide) ?_
  refine go_iload_n dX12_word_12 rfl ?_
  refine go_iastK (k := 1) dX12_word_13 sh_277 (vp_in_dec (by decide)) (by decide) ?_
  obtain ⟨m2, em2⟩ : ∃ z : Mem, z = wI m1 277 1 a1 := ⟨_, rfl⟩
  rw [← em2]
  have hF := hF m2 em2
  refine go_aload_n dX12_word_14 rfl ?_
  refine go_getR (k := 3) (r := 277) dX12_word_15 sh_273 rfl inX12 (Nat.le_of_ble_eq_true rfl) lf_X12_19 rfl rfl ?_
  refine go_iconst (v := 2) dX12_word_18 (by decide) ?_
  refine go_iload_n dX12_word_19 rfl ?_
  refine go_iastK (k := 2) dX12_word_20 sh_277 (vp_in_dec (by decide)) (by decide) ?_
  obtain ⟨m3, em3⟩ : ∃ z : Mem, z = wI m2 277 2 a2 := ⟨_, rfl⟩
  rw [← em3]
  have hF := hF m3 em3
  refine go_aload_n dX12_word_21 rfl ?_
  refine go_getR (k := 3) (r := 277) dX12_word_22 sh_273 rfl inX12 (Nat.le_of_ble_eq_true rfl) lf_X12_19 rfl rfl ?_
  refine go_iconst (v := 3) dX12_word_25 (by decide) ?_
  refine go_iload dX12_word_26 rfl ?_
  refine go_iastK (k := 3) dX12_word_28 sh_277 (vp_in_dec (by decide)) (by decide) ?_
  obtain ⟨m4, em4⟩ : ∃ z : Mem, z = wI m3 277 3 a3 := ⟨_, rfl⟩
  rw [← em4]
  have hF := hF m4 em4
  refine go_aload_n dX12_word_29 rfl ?_
  refine go_callV mX12_lengthTold dX12_word_30 lm_X12_92 okX12_lengthTold isX12_lengthTold sh_273 rfl (As := []) (S := []) rfl rfl (Nat.le_of_ble_eq_true rfl) hF (k_i (fun r6 m5 hF => ?_))
  refine go_istore (L' := [.ref (ga G 273), .int a0, .int a1, .int a2, .int a3, .int a4, .int a5, .int r6, uu, uu, uu]) dX12_word_33 (Nat.le_of_ble_eq_true rfl) rfl ?_
  refine go_iload dX12_word_35 rfl ?_
  refine go_iconst (v := 1) dX12_word_37 (by decide) ?_
  refine go_icmp_lt 73 dX12_word_38 rfl ⟨fun hc => ?_, fun hc => ?_⟩
  · have hF := hF.1 hc
    refine go_iconst (v := -1) dX12_word_73 (by decide) ?_
    exact go_iret (S := []) dX12_word_74 rfl ⟨_, rfl, hF⟩
  · have hF := hF.2 hc
    refine go_iload dX12_word_41 rfl ?_
    refine go_iconst (v := 0) dX12_word_43 (by decide) ?_
    refine go_iconst (v := 3) dX12_word_44 (by decide) ?_
    rcases Classical.em (0 ≤ a4 ∧ a4 ≤ 3) with hp | hp
    · have hF := hF.1 hp
      refine go_callS mX12_isIn dX12_word_45 lm_X12_80 okX12_isIn isX12_isIn (As := [.int a4, .int 0, .int 3]) (S := []) rfl rfl (Nat.le_of_ble_eq_true rfl) (eX12_isIn G _ a4 0 3 m5 (fun r m' => r = 1 ∧ m5 = m') ⟨fun _ => ⟨rfl, rfl⟩, fun q => absurd hp q⟩) (k_i (fun r m' hr => ?_))
      obtain ⟨hr1, hr2⟩ := hr
      subst hr1
      subst hr2
      refine go_if_eq 73 dX12_word_48 rfl ⟨fun hc => absurd hc (by decide), fun _ => ?_⟩
      refine go_iload dX12_word_51 rfl ?_
      refine go_iconst (v := 0) dX12_word_53 (by decide) ?_
      refine go_bipush (v := 99) dX12_word_54 (by decide) ?_
      rcases Classical.em (0 ≤ a5 ∧ a5 ≤ 99) with hp | hp
      · have hF := hF.1 hp
        refine go_callS mX12_isIn dX12_word_56 lm_X12_80 okX12_isIn isX12_isIn (As := [.int a5, .int 0, .int 99]) (S := []) rfl rfl (Nat.le_of_ble_eq_true rfl) (eX12_isIn G _ a5 0 99 m5 (fun r m' => r = 1 ∧ m5 = m') ⟨fun _ => ⟨rfl, rfl⟩, fun q => absurd hp q⟩) (k_i (fun r m' hr => ?_))
        obtain ⟨hr1, hr2⟩ := hr
        subst hr1
        subst hr2
        refine go_if_eq 73 dX12_word_59 rfl ⟨fun hc => absurd hc (by decide), fun _ => ?_⟩
        refine go_aload_n dX12_word_62 rfl ?_
        refine go_getR (k := 0) (r := 274) dX12_word_63 sh_273 rfl inX12 (Nat.le_of_ble_eq_true rfl) lf_X12_7 rfl rfl ?_
        refine go_iconst (v := 1) dX12_word_66 (by decide) ?_
        refine go_ialdK (k := 1) dX12_word_67 sh_274 (vp_in_dec (by decide)) (by decide) ?_
        refine go_bipush (v := 10) dX12_word_68 (by decide) ?_
        refine go_icmp_ne 75 dX12_word_70 rfl ⟨fun hc => ?_, fun hc => ?_⟩
        · have hF := hF.1 hc
          refine go_aload_n dX12_word_75 rfl ?_
          refine go_getR (k := 0) (r := 274) dX12_word_76 sh_273 rfl inX12 (Nat.le_of_ble_eq_true rfl) lf_X12_7 rfl rfl ?_
          refine go_iconst (v := 1) dX12_word_79 (by decide) ?_
          refine go_ialdK (k := 1) dX12_word_80 sh_274 (vp_in_dec (by decide)) (by decide) ?_
          refine Gw.namei (fun x7 ex7 => ?_)
          have hF := hF x7 ex7
          refine go_istore (L' := [.ref (ga G 273), .int a0, .int a1, .int a2, .int a3, .int a4, .int a5, .int r6, .int x7, uu, uu]) dX12_word_81 (Nat.le_of_ble_eq_true rfl) rfl ?_
          refine go_bipush (v := 34) dX12_word_83 (by decide) ?_
          refine go_bipush (v := 9) dX12_word_85 (by decide) ?_
          refine go_iload dX12_word_87 rfl ?_
          refine go_imul dX12_word_89 ?_
          refine go_iadd dX12_word_90 ?_
          refine Gw.namei (fun x8 ex8 => ?_)
          have hF := hF x8 ex8
          refine go_istore (L' := [.ref (ga G 273), .int a0, .int a1, .int a2, .int a3, .int a4, .int a5, .int r6, .int x7, .int x8, uu]) dX12_word_91 (Nat.le_of_ble_eq_true rfl) rfl ?_
          refine go_aload_n dX12_word_93 rfl ?_
          refine go_getR (k := 0) (r := 274) dX12_word_94 sh_273 rfl inX12 (Nat.le_of_ble_eq_true rfl) lf_X12_7 rfl rfl ?_
          refine go_iload dX12_word_97 rfl ?_
          refine go_iload dX12_word_99 rfl ?_
          obtain ⟨hi, hF⟩ := hF
          refine go_iast dX12_word_101 sh_274 hi ?_
          obtain ⟨m9, em9⟩ : ∃ z : Mem, z = wI m5 274 x8.toNatClampNeg a4 := ⟨_, rfl⟩
          rw [← em9]
          have hF := hF m9 em9
          refine go_aload_n dX12_word_102 rfl ?_
          refine go_getR (k := 0) (r := 274) dX12_word_103 sh_273 rfl inX12 (Nat.le_of_ble_eq_true rfl) lf_X12_7 rfl rfl ?_
          refine go_iload dX12_word_106 rfl ?_
          refine go_iconst (v := 1) dX12_word_108 (by decide) ?_
          refine go_iadd dX12_word_109 ?_
          refine go_iload dX12_word_110 rfl ?_
          obtain ⟨hi, hF⟩ := hF
          refine go_iast dX12_word_112 sh_274 hi ?_
          obtain ⟨m10, em10⟩ : ∃ z : Mem, z = wI m9 274 (x8 + 1).toNatClampNeg a5 := ⟨_, rfl⟩
          rw [← em10]
          have hF := hF m10 em10
          refine go_aload_n dX12_word_113 rfl ?_
          refine go_getR (k := 0) (r := 274) dX12_word_114 sh_273 rfl inX12 (Nat.le_of_ble_eq_true rfl) lf_X12_7 rfl rfl ?_
          refine go_iload dX12_word_117 rfl ?_
          refine go_iconst (v := 2) dX12_word_119 (by decide) ?_
          refine go_iadd dX12_word_120 ?_
          refine go_iload dX12_word_121 rfl ?_
          obtain ⟨hi, hF⟩ := hF
          refine go_iast dX12_word_123 sh_274 hi ?_
          obtain ⟨m11, em11⟩ : ∃ z : Mem, z = wI m10 274 (x8 + 2).toNatClampNeg r6 := ⟨_, rfl⟩
          rw [← em11]
          have hF := hF m11 em11
          refine go_iconst (v := 0) dX12_word_124 (by decide) ?_
          refine go_istore (L' := [.ref (ga G 273), .int a0, .int a1, .int a2, .int a3, .int a4, .int a5, .int r6, .int x7, .int x8, .int 0]) dX12_word_125 (Nat.le_of_ble_eq_true rfl) rfl ?_
          exact hF
        · have hF := hF.2 hc
          refine go_iconst (v := -1) dX12_word_73 (by decide) ?_
          exact go_iret (S := []) dX12_word_74 rfl ⟨_, rfl, hF⟩
      · have hF := hF.2 hp
        refine go_callS mX12_isIn dX12_word_56 lm_X12_80 okX12_isIn isX12_isIn (As := [.int a5, .int 0, .int 99]) (S := []) rfl rfl (Nat.le_of_ble_eq_true rfl) (eX12_isIn G _ a5 0 99 m5 (fun r m' => r = 0 ∧ m5 = m') ⟨fun q => absurd q hp, fun _ => ⟨rfl, rfl⟩⟩) (k_i (fun r m' hr => ?_))
        obtain ⟨hr1, hr2⟩ := hr
        subst hr1
        subst hr2
        refine go_if_eq 73 dX12_word_59 rfl ⟨fun _ => ?_, fun hc => absurd hc (by decide)⟩
        refine go_iconst (v := -1) dX12_word_73 (by decide) ?_
        exact go_iret (S := []) dX12_word_74 rfl ⟨_, rfl, hF⟩
    · have hF := hF.2 hp
      refine go_callS mX12_isIn dX12_word_45 lm_X12_80 okX12_isIn isX12_isIn (As := [.int a4, .int 0, .int 3]) (S := []) rfl rfl (Nat.le_of_ble_eq_true rfl) (eX12_isIn G _ a4 0 3 m5 (fun r m' => r = 0 ∧ m5 = m') ⟨fun q => absurd q hp, fun _ => ⟨rfl, rfl⟩⟩) (k_i (fun r m' hr => ?_))
      obtain ⟨hr1, hr2⟩ := hr
      subst hr1
      subst hr2
      refine go_if_eq 73 dX12_word_48 rfl ⟨fun _ => ?_, fun hc => absurd hc (by decide)⟩
      refine go_iconst (v := -1) dX12_word_73 (by decide) ?_
      exact go_iret (S := []) dX12_word_74 rfl ⟨_, rfl, hF⟩
theorem vX12_word_127 (G : GP) (d : Nat) (u1 : Value) (u2 : Value) (u3 : Value) (u4 : Value) (u5 : Value) (u6 : Value) (u7 : Value) (l8 : Int32) (l9 : Int32) (l10 : Int32) (m : Mem) (K : Int32 → Mem → Prop) (hF : ((4 ≤ l10) → vp_in (l9 + 7) 5968 ∧ ∀ m12 : Mem, m12 = wI m 274 (l9 + 7).toNatClampNeg 1 → vp_in (l9 + 8) 5968 ∧ ∀ m13 : Mem, m13 = wI m12 274 (l9 + 8).toNatClampNeg l8 → ∀ m14 : Mem, m14 = wI m13 274 1 ((m13.1 274 1) + 1) → K l8 m14) ∧ ((¬ 4 ≤ l10) → vp_in l10 4 ∧ vp_in ((l9 + 3) + l10) 5968 ∧ ∀ m15 : Mem, m15 = wI m 274 ((l9 + 3) + l10).toNatClampNeg (m.1 277 l10.toNatClampNeg) → ∀ x16 : Int32, x16 = l10 + 1 → Gw G (d + 3) mX12_word 127 [.ref (ga G 273), uu, uu, uu, uu, uu, uu, uu, .int l8, .int l9, .int x16] [] m15 (Qi K))) : Gw G (d + 3) mX12_word 127 [.ref (ga G 273), u1, u2, u3, u4, u5, u6, u7, .int l8, .int l9, .int l10] [] m (Qi K) := by
  refine Gw.weak (L' := [.ref (ga G 273), uu, uu, uu, uu, uu, uu, uu, .int l8, .int l9, .int l10]) ⟨Or.inl rfl, Or.inr rfl, Or.inr rfl, Or.inr rfl, Or.inr rfl, Or.inr rfl, Or.inr rfl, Or.inr rfl, Or.inl rfl, Or.inl rfl, Or.inl rfl, trivial⟩ ?_
  refine go_iload dX12_word_127 rfl ?_
  refine go_iconst (v := 4) dX12_word_129 (by decide) ?_
  refine go_icmp_ge 158 dX12_word_130 rfl ⟨fun hc => ?_, fun hc => ?_⟩
  · have hF := hF.1 hc
    refine go_aload_n dX12_word_158 rfl ?_
    refine go_getR (k := 0) (r := 274) dX12_word_159 sh_273 rfl inX12 (Nat.le_of_ble_eq_true rfl) lf_X12_7 rfl rfl ?_
    refine go_iload dX12_word_162 rfl ?_
    refine go_bipush (v := 7) dX12_word_164 (by decide) ?_
    refine go_iadd dX12_word_166 ?_
    refine go_iconst (v := 1) dX12_word_167 (by decide) ?_
    obtain ⟨hi, hF⟩ := hF
    refine go_iast dX12_word_168 sh_274 hi ?_
    obtain ⟨m12, em12⟩ : ∃ z : Mem, z = wI m 274 (l9 + 7).toNatClampNeg 1 := ⟨_, rfl⟩
    rw [← em12]
    have hF := hF m12 em12
    refine go_aload_n dX12_word_169 rfl ?_
    refine go_getR (k := 0) (r := 274) dX12_word_170 sh_273 rfl inX12 (Nat.le_of_ble_eq_true rfl) lf_X12_7 rfl rfl ?_
    refine go_iload dX12_word_173 rfl ?_
    refine go_bipush (v := 8) dX12_word_175 (by decide) ?_
    refine go_iadd dX12_word_177 ?_
    refine go_iload dX12_word_178 rfl ?_
    obtain ⟨hi, hF⟩ := hF
    refine go_iast dX12_word_180 sh_274 hi ?_
    obtain ⟨m13, em13⟩ : ∃ z : Mem, z = wI m12 274 (l9 + 8).toNatClampNeg l8 := ⟨_, rfl⟩
    rw [← em13]
    have hF := hF m13 em13
    refine go_aload_n dX12_word_181 rfl ?_
    refine go_getR (k := 0) (r := 274) dX12_word_182 sh_273 rfl inX12 (Nat.le_of_ble_eq_true rfl) lf_X12_7 rfl rfl ?_
    refine go_iconst (v := 1) dX12_word_185 (by decide) ?_
    refine go_dup2 dX12_word_186 rfl rfl ?_
    refine go_ialdK (k := 1) dX12_word_187 sh_274 (vp_in_dec (by decide)) (by decide) ?_
    refine go_iconst (v := 1) dX12_word_188 (by decide) ?_
    refine go_iadd dX12_word_189 ?_
    refine go_iastK (k := 1) dX12_word_190 sh_274 (vp_in_dec (by decide)) (by decide) ?_
    obtain ⟨m14, em14⟩ : ∃ z : Mem, z = wI m13 274 1 ((m13.1 274 1) + 1) := ⟨_, rfl⟩
    rw [← em14]
    have hF := hF m14 em14
    refine go_iload dX12_word_191 rfl ?_
    exact go_iret (S := []) dX12_word_193 rfl ⟨_, rfl, hF⟩
  · have hF := hF.2 hc
    refine go_aload_n dX12_word_133 rfl ?_
    refine go_getR (k := 0) (r := 274) dX12_word_134 sh_273 rfl inX12 (Nat.le_of_ble_eq_true rfl) lf_X12_7 rfl rfl ?_
    refine go_iload dX12_word_137 rfl ?_
    refine go_iconst (v := 3) dX12_word_139 (by decide) ?_
    refine go_iadd dX12_word_140 ?_
    refine go_iload dX12_word_141 rfl ?_
    refine go_iadd dX12_word_143 ?_
    refine go_aload_n dX12_word_144 rfl ?_
    refine go_getR (k := 3) (r := 277) dX12_word_145 sh_273 rfl inX12 (Nat.le_of_ble_eq_true rfl) lf_X12_19 rfl rfl ?_
    refine go_iload dX12_word_148 rfl ?_
    obtain ⟨hi, hF⟩ := hF
    refine go_iald dX12_word_150 sh_277 hi ?_
    obtain ⟨hi, hF⟩ := hF
    refine go_iast dX12_word_151 sh_274 hi ?_
    obtain ⟨m15, em15⟩ : ∃ z : Mem, z = wI m 274 ((l9 + 3) + l10).toNatClampNeg (m.1 277 l10.toNatClampNeg) := ⟨_, rfl⟩
    rw [← em15]
    have hF := hF m15 em15
    obtain ⟨x16, ex16⟩ : ∃ z : Int32, z = l10 + 1 := ⟨_, rfl⟩
    have hF := hF x16 ex16
    refine go_iinc (v := x16) (L' := [.ref (ga G 273), uu, uu, uu, uu, uu, uu, uu, .int l8, .int l9, .int x16]) dX12_word_152 rfl (by rw [ex16]; rfl) (Nat.le_of_ble_eq_true rfl) rfl ?_
    refine go_goto 127 dX12_word_155 rfl ?_
    exact hF
theorem vX12_hands (G : GP) (d : Nat) (a0 : Int32) (m : Mem) (K : Int32 → Mem → Prop) (hF : ((0 ≤ a0 ∧ a0 ≤ 99) → ∀ m1 : Mem, m1 = wI m 274 11 a0 → K 1 m1) ∧ (¬ (0 ≤ a0 ∧ a0 ≤ 99) → K 0 m)) : Evi G (d + 1) mX12_hands [.ref (ga G 273), .int a0] m K := by
  refine Ev.go [.ref (ga G 273), .int a0] (by decide) (Nat.le_of_ble_eq_true rfl) rfl ?_
  refine go_iload_n dX12_hands_0 rfl ?_
  refine go_iconst (v := 0) dX12_hands_1 (by decide) ?_
  refine go_bipush (v := 99) dX12_hands_2 (by decide) ?_
  rcases Classical.em (0 ≤ a0 ∧ a0 ≤ 99) with hp | hp
  · have hF := hF.1 hp
    refine go_callS mX12_isIn dX12_hands_4 lm_X12_80 okX12_isIn isX12_isIn (As := [.int a0, .int 0, .int 99]) (S := []) rfl rfl (Nat.le_of_ble_eq_true rfl) (eX12_isIn G _ a0 0 99 m (fun r m' => r = 1 ∧ m = m') ⟨fun _ => ⟨rfl, rfl⟩, fun q => absurd hp q⟩) (k_i (fun r m' hr => ?_))
    obtain ⟨hr1, hr2⟩ := hr
    subst hr1
    subst hr2
    refine go_if_ne 12 dX12_hands_7 rfl ⟨fun _ => ?_, fun hc => absurd hc (by decide)⟩
    refine go_aload_n dX12_hands_12 rfl ?_
    refine go_getR (k := 0) (r := 274) dX12_hands_13 sh_273 rfl inX12 (Nat.le_of_ble_eq_true rfl) lf_X12_7 rfl rfl ?_
    refine go_bipush (v := 11) dX12_hands_16 (by decide) ?_
    refine go_iload_n dX12_hands_18 rfl ?_
    refine go_iastK (k := 11) dX12_hands_19 sh_274 (vp_in_dec (by decide)) (by decide) ?_
    obtain ⟨m1, em1⟩ : ∃ z : Mem, z = wI m 274 11 a0 := ⟨_, rfl⟩
    rw [← em1]
    have hF := hF m1 em1
    refine go_iconst (v := 1) dX12_hands_20 (by decide) ?_
    exact go_zret (S := []) dX12_hands_21 rfl (by decide) ⟨_, rfl, hF⟩
  · have hF := hF.2 hp
    refine go_callS mX12_isIn dX12_hands_4 lm_X12_80 okX12_isIn isX12_isIn (As := [.int a0, .int 0, .int 99]) (S := []) rfl rfl (Nat.le_of_ble_eq_true rfl) (eX12_isIn G _ a0 0 99 m (fun r m' => r = 0 ∧ m = m') ⟨fun q => absurd q hp, fun _ => ⟨rfl, rfl⟩⟩) (k_i (fun r m' hr => ?_))
    obtain ⟨hr1, hr2⟩ := hr
    subst hr1
    subst hr2
    refine go_if_ne 12 dX12_hands_7 rfl ⟨fun hc => absurd hc (by decide), fun _ => ?_⟩
    refine go_iconst (v := 0) dX12_hands_10 (by decide) ?_
    exact go_zret (S := []) dX12_hands_11 rfl (by decide) ⟨_, rfl, hF⟩
theorem vX12_four (G : GP) (d : Nat) (a0 : Int32) (m : Mem) (K : Mem → Prop) (hF : Gw G (d) mX12_four 3 [.ref (ga G 273), .int a0, .int 24] [] m (Qv K)) : Evv G (d) mX12_four [.ref (ga G 273), .int a0] m K := by
  refine Ev.go [.ref (ga G 273), .int a0, uu] (by decide) (Nat.le_of_ble_eq_true rfl) rfl ?_
  refine go_bipush (v := 24) dX12_four_0 (by decide) ?_
  refine go_istore_n (L' := [.ref (ga G 273), .int a0, .int 24]) dX12_four_2 (Nat.le_of_ble_eq_true rfl) rfl ?_
  exact hF
theorem vX12_four_3 (G : GP) (d : Nat) (l1 : Int32) (l2 : Int32) (m : Mem) (K : Mem → Prop) (hF : ((l2 < 0) → K m) ∧ ((¬ l2 < 0) → vp_in (m.1 273 5) 300 ∧ ∀ m1 : Mem, m1 = wI m 278 (m.1 273 5).toNatClampNeg ((l1 >>> (l2 &&& 31)) &&& 255) → ∀ m2 : Mem, m2 = wI m1 273 5 ((m1.1 273 5) + 1) → ∀ x3 : Int32, x3 = l2 + (-8) → Gw G (d) mX12_four 3 [.ref (ga G 273), .int l1, .int x3] [] m2 (Qv K))) : Gw G (d) mX12_four 3 [.ref (ga G 273), .int l1, .int l2] [] m (Qv K) := by
  refine go_iload_n dX12_four_3 rfl ?_
  refine go_if_lt 39 dX12_four_4 rfl ⟨fun hc => ?_, fun hc => ?_⟩
  · have hF := hF.1 hc
    exact go_vret (S := []) dX12_four_39 rfl ⟨rfl, hF⟩
  · have hF := hF.2 hc
    refine go_aload_n dX12_four_7 rfl ?_
    refine go_getR (k := 4) (r := 278) dX12_four_8 sh_273 rfl inX12 (Nat.le_of_ble_eq_true rfl) lf_X12_22 rfl rfl ?_
    refine go_aload_n dX12_four_11 rfl ?_
    refine go_getI (k := 5) dX12_four_12 sh_273 rfl inX12 (Nat.le_of_ble_eq_true rfl) lf_X12_96 rfl ?_
    refine go_iload_n dX12_four_15 rfl ?_
    refine go_iload_n dX12_four_16 rfl ?_
    refine go_ishr dX12_four_17 ?_
    refine go_sipush (v := 255) dX12_four_18 (by decide) ?_
    refine go_iand dX12_four_21 ?_
    obtain ⟨hi, hF⟩ := hF
    refine go_iast dX12_four_22 sh_278 hi ?_
    obtain ⟨m1, em1⟩ : ∃ z : Mem, z = wI m 278 (m.1 273 5).toNatClampNeg ((l1 >>> (l2 &&& 31)) &&& 255) := ⟨_, rfl⟩
    rw [← em1]
    have hF := hF m1 em1
    refine go_aload_n dX12_four_23 rfl ?_
    refine go_dup dX12_four_24 rfl ?_
    refine go_getI (k := 5) dX12_four_25 sh_273 rfl inX12 (Nat.le_of_ble_eq_true rfl) lf_X12_96 rfl ?_
    refine go_iconst (v := 1) dX12_four_28 (by decide) ?_
    refine go_iadd dX12_four_29 ?_
    refine go_putI (k := 5) dX12_four_30 sh_273 rfl inX12 (Nat.le_of_ble_eq_true rfl) lf_X12_96 tyX12 tyX12_ok nmX12 rfl rfl (by decide +kernel) ?_
    obtain ⟨m2, em2⟩ : ∃ z : Mem, z = wI m1 273 5 ((m1.1 273 5) + 1) := ⟨_, rfl⟩
    rw [← em2]
    have hF := hF m2 em2
    obtain ⟨x3, ex3⟩ : ∃ z : Int32, z = l2 + (-8) := ⟨_, rfl⟩
    have hF := hF x3 ex3
    refine go_iinc (v := x3) (L' := [.ref (ga G 273), .int l1, .int x3]) dX12_four_33 rfl (by rw [ex3]; rfl) (Nat.le_of_ble_eq_true rfl) rfl ?_
    refine go_goto 3 dX12_four_36 rfl ?_
    exact hF
theorem vX12_feed (G : GP) (d : Nat) (a0 : Int32) (a1 : Int32) (a2 : Int32) (a3 : Int32) (a4 : Int32) (m : Mem) (K : Int32 → Mem → Prop) (hF : ((((m.1 273 5) + 20) ≤ 300) → Evv G (d) mX12_four [.ref (ga G 273), .int a0] m (fun m1 => Evv G (d) mX12_four [.ref (ga G 273), .int a1] m1 (fun m2 => Evv G (d) mX12_four [.ref (ga G 273), .int a2] m2 (fun m3 => Evv G (d) mX12_four [.ref (ga G 273), .int a3] m3 (fun m4 => Evv G (d) mX12_four [.ref (ga G 273), .int a4] m4 (fun m5 => K (m5.1 273 5) m5)))))) ∧ ((¬ ((m.1 273 5) + 20) ≤ 300) → K (-1) m)) : Evi G (d + 1) mX12_feed [.ref (ga G 273), .int a0, .int a1, .int a2, .int a3, .int a4] m K := by
  refine Ev.go [.ref (ga G 273), .int a0, .int a1, .int a2, .int a3, .int a4] (by decide) (Nat.le_of_ble_eq_true rfl) rfl ?_
  refine go_aload_n dX12_feed_0 rfl ?_
  refine go_getI (k := 5) dX12_feed_1 sh_273 rfl inX12 (Nat.le_of_ble_eq_true rfl) lf_X12_96 rfl ?_
  refine go_bipush (v := 20) dX12_feed_4 (by decide) ?_
  refine go_iadd dX12_feed_6 ?_
  refine go_sipush (v := 300) dX12_feed_7 (by decide) ?_
  refine go_icmp_le 15 dX12_feed_10 rfl ⟨fun hc => ?_, fun hc => ?_⟩
  · have hF := hF.1 hc
    refine go_aload_n dX12_feed_15 rfl ?_
    refine go_iload_n dX12_feed_16 rfl ?_
    refine go_callV mX12_four dX12_feed_17 lm_X12_99 okX12_four isX12_four sh_273 rfl (As := [.int a0]) (S := []) rfl rfl (Nat.le_of_ble_eq_true rfl) hF (k_v (fun m1 hF => ?_))
    refine go_aload_n dX12_feed_20 rfl ?_
    refine go_iload_n dX12_feed_21 rfl ?_
    refine go_callV mX12_four dX12_feed_22 lm_X12_99 okX12_four isX12_four sh_273 rfl (As := [.int a1]) (S := []) rfl rfl (Nat.le_of_ble_eq_true rfl) hF (k_v (fun m2 hF => ?_))
    refine go_aload_n dX12_feed_25 rfl ?_
    refine go_iload_n dX12_feed_26 rfl ?_
    refine go_callV mX12_four dX12_feed_27 lm_X12_99 okX12_four isX12_four sh_273 rfl (As := [.int a2]) (S := []) rfl rfl (Nat.le_of_ble_eq_true rfl) hF (k_v (fun m3 hF => ?_))
    refine go_aload_n dX12_feed_30 rfl ?_
    refine go_iload dX12_feed_31 rfl ?_
    refine go_callV mX12_four dX12_feed_33 lm_X12_99 okX12_four isX12_four sh_273 rfl (As := [.int a3]) (S := []) rfl rfl (Nat.le_of_ble_eq_true rfl) hF (k_v (fun m4 hF => ?_))
    refine go_aload_n dX12_feed_36 rfl ?_
    refine go_iload dX12_feed_37 rfl ?_
    refine go_callV mX12_four dX12_feed_39 lm_X12_99 okX12_four isX12_four sh_273 rfl (As := [.int a4]) (S := []) rfl rfl (Nat.le_of_ble_eq_true rfl) hF (k_v (fun m5 hF => ?_))
    refine go_aload_n dX12_feed_42 rfl ?_
    refine go_getI (k := 5) dX12_feed_43 sh_273 rfl inX12 (Nat.le_of_ble_eq_true rfl) lf_X12_96 rfl ?_
    exact go_iret (S := []) dX12_feed_46 rfl ⟨_, rfl, hF⟩
  · have hF := hF.2 hc
    refine go_iconst (v := -1) dX12_feed_13 (by decide) ?_
    exact go_iret (S := []) dX12_feed_14 rfl ⟨_, rfl, hF⟩
theorem vX12_end (G : GP) (d : Nat) (a0 : Int32) (m : Mem) (K : Int32 → Mem → Prop) (hF : ((0 ≤ a0 ∧ a0 ≤ (m.1 273 5)) → ∀ m1 : Mem, m1 = wI m 273 5 a0 → K a0 m1) ∧ (¬ (0 ≤ a0 ∧ a0 ≤ (m.1 273 5)) → K (-1) m)) : Evi G (d + 1) mX12_end [.ref (ga G 273), .int a0] m K := by
  refine Ev.go [.ref (ga G 273), .int a0] (by decide) (Nat.le_of_ble_eq_true rfl) rfl ?_
  refine go_iload_n dX12_end_0 rfl ?_
  refine go_iconst (v := 0) dX12_end_1 (by decide) ?_
  refine go_aload_n dX12_end_2 rfl ?_
  refine go_getI (k := 5) dX12_end_3 sh_273 rfl inX12 (Nat.le_of_ble_eq_true rfl) lf_X12_96 rfl ?_
  rcases Classical.em (0 ≤ a0 ∧ a0 ≤ (m.1 273 5)) with hp | hp
  · have hF := hF.1 hp
    refine go_callS mX12_isIn dX12_end_6 lm_X12_80 okX12_isIn isX12_isIn (As := [.int a0, .int 0, .int (m.1 273 5)]) (S := []) rfl rfl (Nat.le_of_ble_eq_true rfl) (eX12_isIn G _ a0 0 (m.1 273 5) m (fun r m' => r = 1 ∧ m = m') ⟨fun _ => ⟨rfl, rfl⟩, fun q => absurd hp q⟩) (k_i (fun r m' hr => ?_))
    obtain ⟨hr1, hr2⟩ := hr
    subst hr1
    subst hr2
    refine go_if_ne 14 dX12_end_9 rfl ⟨fun _ => ?_, fun hc => absurd hc (by decide)⟩
    refine go_aload_n dX12_end_14 rfl ?_
    refine go_iload_n dX12_end_15 rfl ?_
    refine go_putI (k := 5) dX12_end_16 sh_273 rfl inX12 (Nat.le_of_ble_eq_true rfl) lf_X12_96 tyX12 tyX12_ok nmX12 rfl rfl (by decide +kernel) ?_
    obtain ⟨m1, em1⟩ : ∃ z : Mem, z = wI m 273 5 a0 := ⟨_, rfl⟩
    rw [← em1]
    have hF := hF m1 em1
    refine go_iload_n dX12_end_19 rfl ?_
    exact go_iret (S := []) dX12_end_20 rfl ⟨_, rfl, hF⟩
  · have hF := hF.2 hp
    refine go_callS mX12_isIn dX12_end_6 lm_X12_80 okX12_isIn isX12_isIn (As := [.int a0, .int 0, .int (m.1 273 5)]) (S := []) rfl rfl (Nat.le_of_ble_eq_true rfl) (eX12_isIn G _ a0 0 (m.1 273 5) m (fun r m' => r = 0 ∧ m = m') ⟨fun q => absurd q hp, fun _ => ⟨rfl, rfl⟩⟩) (k_i (fun r m' hr => ?_))
    obtain ⟨hr1, hr2⟩ := hr
    subst hr1
    subst hr2
    refine go_if_ne 14 dX12_end_9 rfl ⟨fun hc => absurd hc (by decide), fun _ => ?_⟩
    refine go_iconst (v := -1) dX12_end_12 (by decide) ?_
    exact go_iret (S := []) dX12_end_13 rfl ⟨_, rfl, hF⟩
theorem vX12_isSign (G : GP) (d : Nat) (a0 : Int32) (m : Mem) (K : Int32 → Mem → Prop) (hF : (a0 = 35 → K 1 m) ∧ (a0 = 40 → K 1 m) ∧ (a0 = 41 → K 1 m) ∧ (a0 = 42 → K 1 m) ∧ (a0 = 43 → K 1 m) ∧ (a0 = 45 → K 1 m) ∧ (a0 = 47 → K 1 m) ∧ (a0 = 58 → K 1 m) ∧ (a0 = 59 → K 1 m) ∧ (a0 = 60 → K 1 m) ∧ (a0 = 61 → K 1 m) ∧ (a0 = 62 → K 1 m) ∧ (a0 = 94 → K 1 m) ∧ (¬ a0 = 35 ∧ ¬ a0 = 40 ∧ ¬ a0 = 41 ∧ ¬ a0 = 42 ∧ ¬ a0 = 43 ∧ ¬ a0 = 45 ∧ ¬ a0 = 47 ∧ ¬ a0 = 58 ∧ ¬ a0 = 59 ∧ ¬ a0 = 60 ∧ ¬ a0 = 61 ∧ ¬ a0 = 62 ∧ ¬ a0 = 94 → K 0 m)) : Evi G (d) mX12_isSign [.int a0] m K := by
  refine Ev.go [.int a0] (by decide) (Nat.le_of_ble_eq_true rfl) rfl ?_
  refine go_iload_n dX12_isSign_0 rfl ?_
  rcases Decidable.em (a0 = 35) with hc0 | hc0
  · have hF := hF.1 hc0
    refine go_lookup (off := 115) 116 dX12_isSign_1 (by decide) (by rw [hc0]; rfl) rfl ?_
    refine go_iconst (v := 1) dX12_isSign_116 (by decide) ?_
    exact go_zret (S := []) dX12_isSign_117 rfl (by decide) ⟨_, rfl, hF⟩
  rcases Decidable.em (a0 = 40) with hc1 | hc1
  · have hF := hF.2.1 hc1
    refine go_lookup (off := 115) 116 dX12_isSign_1 (by decide) (by rw [hc1]; rfl) rfl ?_
    refine go_iconst (v := 1) dX12_isSign_116 (by decide) ?_
    exact go_zret (S := []) dX12_isSign_117 rfl (by decide) ⟨_, rfl, hF⟩
  rcases Decidable.em (a0 = 41) with hc2 | hc2
  · have hF := hF.2.2.1 hc2
    refine go_lookup (off := 115) 116 dX12_isSign_1 (by decide) (by rw [hc2]; rfl) rfl ?_
    refine go_iconst (v := 1) dX12_isSign_116 (by decide) ?_
    exact go_zret (S := []) dX12_isSign_117 rfl (by decide) ⟨_, rfl, hF⟩
  rcases Decidable.em (a0 = 42) with hc3 | hc3
  · have hF := hF.2.2.2.1 hc3
    refine go_lookup (off := 115) 116 dX12_isSign_1 (by decide) (by rw [hc3]; rfl) rfl ?_
    refine go_iconst (v := 1) dX12_isSign_116 (by decide) ?_
    exact go_zret (S := []) dX12_isSign_117 rfl (by decide) ⟨_, rfl, hF⟩
  rcases Decidable.em (a0 = 43) with hc4 | hc4
  · have hF := hF.2.2.2.2.1 hc4
    refine go_lookup (off := 115) 116 dX12_isSign_1 (by decide) (by rw [hc4]; rfl) rfl ?_
    refine go_iconst (v := 1) dX12_isSign_116 (by decide) ?_
    exact go_zret (S := []) dX12_isSign_117 rfl (by decide) ⟨_, rfl, hF⟩
  rcases Decidable.em (a0 = 45) with hc5 | hc5
  · have hF := hF.2.2.2.2.2.1 hc5
    refine go_lookup (off := 115) 116 dX12_isSign_1 (by decide) (by rw [hc5]; rfl) rfl ?_
    refine go_iconst (v := 1) dX12_isSign_116 (by decide) ?_
    exact go_zret (S := []) dX12_isSign_117 rfl (by decide) ⟨_, rfl, hF⟩
  rcases Decidable.em (a0 = 47) with hc6 | hc6
  · have hF := hF.2.2.2.2.2.2.1 hc6
    refine go_lookup (off := 115) 116 dX12_isSign_1 (by decide) (by rw [hc6]; rfl) rfl ?_
    refine go_iconst (v := 1) dX12_isSign_116 (by decide) ?_
    exact go_zret (S := []) dX12_isSign_117 rfl (by decide) ⟨_, rfl, hF⟩
  rcases Decidable.em (a0 = 58) with hc7 | hc7
  · have hF := hF.2.2.2.2.2.2.2.1 hc7
    refine go_lookup (off := 115) 116 dX12_isSign_1 (by decide) (by rw [hc7]; rfl) rfl ?_
    refine go_iconst (v := 1) dX12_isSign_116 (by decide) ?_
    exact go_zret (S := []) dX12_isSign_117 rfl (by decide) ⟨_, rfl, hF⟩
  rcases Decidable.em (a0 = 59) with hc8 | hc8
  · have hF := hF.2.2.2.2.2.2.2.2.1 hc8
    refine go_lookup (off := 115) 116 dX12_isSign_1 (by decide) (by rw [hc8]; rfl) rfl ?_
    refine go_iconst (v := 1) dX12_isSign_116 (by decide) ?_
    exact go_zret (S := []) dX12_isSign_117 rfl (by decide) ⟨_, rfl, hF⟩
  rcases Decidable.em (a0 = 60) with hc9 | hc9
  · have hF := hF.2.2.2.2.2.2.2.2.2.1 hc9
    refine go_lookup (off := 115) 116 dX12_isSign_1 (by decide) (by rw [hc9]; rfl) rfl ?_
    refine go_iconst (v := 1) dX12_isSign_116 (by decide) ?_
    exact go_zret (S := []) dX12_isSign_117 rfl (by decide) ⟨_, rfl, hF⟩
  rcases Decidable.em (a0 = 61) with hc10 | hc10
  · have hF := hF.2.2.2.2.2.2.2.2.2.2.1 hc10
    refine go_lookup (off := 115) 116 dX12_isSign_1 (by decide) (by rw [hc10]; rfl) rfl ?_
    refine go_iconst (v := 1) dX12_isSign_116 (by decide) ?_
    exact go_zret (S := []) dX12_isSign_117 rfl (by decide) ⟨_, rfl, hF⟩
  rcases Decidable.em (a0 = 62) with hc11 | hc11
  · have hF := hF.2.2.2.2.2.2.2.2.2.2.2.1 hc11
    refine go_lookup (off := 115) 116 dX12_isSign_1 (by decide) (by rw [hc11]; rfl) rfl ?_
    refine go_iconst (v := 1) dX12_isSign_116 (by decide) ?_
    exact go_zret (S := []) dX12_isSign_117 rfl (by decide) ⟨_, rfl, hF⟩
  rcases Decidable.em (a0 = 94) with hc12 | hc12
  · have hF := hF.2.2.2.2.2.2.2.2.2.2.2.2.1 hc12
    refine go_lookup (off := 115) 116 dX12_isSign_1 (by decide) (by rw [hc12]; rfl) rfl ?_
    refine go_iconst (v := 1) dX12_isSign_116 (by decide) ?_
    exact go_zret (S := []) dX12_isSign_117 rfl (by decide) ⟨_, rfl, hF⟩
  have hF := hF.2.2.2.2.2.2.2.2.2.2.2.2.2 ⟨hc0, hc1, hc2, hc3, hc4, hc5, hc6, hc7, hc8, hc9, hc10, hc11, hc12⟩
  refine go_lookup 118 dX12_isSign_1 (by decide) (look_out a0 _ _ (by simp only [List.forall_mem_cons, List.not_mem_nil, false_implies, implies_true, and_true]; exact ⟨ne_toInt (by decide) hc0, ne_toInt (by decide) hc1, ne_toInt (by decide) hc2, ne_toInt (by decide) hc3, ne_toInt (by decide) hc4, ne_toInt (by decide) hc5, ne_toInt (by decide) hc6, ne_toInt (by decide) hc7, ne_toInt (by decide) hc8, ne_toInt (by decide) hc9, ne_toInt (by decide) hc10, ne_toInt (by decide) hc11, ne_toInt (by decide) hc12⟩)) rfl ?_
  refine go_iconst (v := 0) dX12_isSign_118 (by decide) ?_
  exact go_zret (S := []) dX12_isSign_119 rfl (by decide) ⟨_, rfl, hF⟩
theorem vX12_nextToken (G : GP) (d : Nat)  (m : Mem) (K : Mem → Prop) (hF : Gw G (d + 1) mX12_nextToken 0 [.ref (ga G 273), uu] [] m (Qv K)) : Evv G (d + 1) mX12_nextToken [.ref (ga G 273)] m K := by
  refine Ev.go [.ref (ga G 273), uu] (by decide) (Nat.le_of_ble_eq_true rfl) rfl ?_
  exact hF
theorem vX12_nextToken_0 (G : GP) (d : Nat) (u1 : Value) (m : Mem) (K : Mem → Prop) (hF : (¬ m.1 273 5 ≤ (m.1 273 8) → vp_in (m.1 273 8) 300) ∧ (((bytM m (m.1 273 8)) = 32) → ∀ m1 : Mem, m1 = wI m 273 8 ((m.1 273 8) + 1) → Gw G (d + 1) mX12_nextToken 0 [.ref (ga G 273), uu] [] m1 (Qv K)) ∧ ((¬ (bytM m (m.1 273 8)) = 32) → (¬ m.1 273 5 ≤ (m.1 273 8) → vp_in (m.1 273 8) 300) ∧ ((¬ (bytM m (m.1 273 8)) = 10) → ∀ m2 : Mem, m2 = wI m 273 9 (m.1 273 8) → (¬ m2.1 273 5 ≤ (m2.1 273 8) → vp_in (m2.1 273 8) 300) ∧ ∀ x3 : Int32, x3 = bytM m2 (m2.1 273 8) → ((0 ≤ x3) → ((48 ≤ x3 ∧ x3 ≤ 57) → ∀ m4 : Mem, m4 = wI m2 273 10 1 → ∀ m5 : Mem, m5 = wI m4 273 11 0 → Gw G (d + 1) mX12_nextToken 85 [.ref (ga G 273), .int x3] [] m5 (Qv K)) ∧ (¬ (48 ≤ x3 ∧ x3 ≤ 57) → (((97 ≤ x3 ∧ x3 ≤ 122) ∨ (65 ≤ x3 ∧ x3 ≤ 90)) → ∀ m6 : Mem, m6 = wI m2 273 10 2 → ∀ m7 : Mem, m7 = wL m6 273 12 0 → Gw G (d + 1) mX12_nextToken 168 [.ref (ga G 273), .int x3] [] m7 (Qv K)) ∧ (¬ ((97 ≤ x3 ∧ x3 ≤ 122) ∨ (65 ≤ x3 ∧ x3 ≤ 90)) → Evi G (d) mX12_isSign [.int x3] m2 (fun r9 m8 => ((r9 = 0) → ∀ m10 : Mem, m10 = wI m8 273 10 3 → ∀ m11 : Mem, m11 = wI m10 273 8 ((m10.1 273 8) + 1) → ((x3 = 60) → (¬ m11.1 273 5 ≤ (m11.1 273 8) → vp_in (m11.1 273 8) 300) ∧ ((¬ (bytM m11 (m11.1 273 8)) = 61) → K m11) ∧ (((bytM m11 (m11.1 273 8)) = 61) → ((¬ x3 = 60) → ∀ m12 : Mem, m12 = wI m11 273 10 5 → ∀ m13 : Mem, m13 = wI m12 273 8 ((m12.1 273 8) + 1) → K m13) ∧ ((x3 = 60) → ∀ m14 : Mem, m14 = wI m11 273 10 4 → ∀ m15 : Mem, m15 = wI m14 273 8 ((m14.1 273 8) + 1) → K m15))) ∧ ((¬ x3 = 60) → ((¬ x3 = 62) → K m11) ∧ ((x3 = 62) → (¬ m11.1 273 5 ≤ (m11.1 273 8) → vp_in (m11.1 273 8) 300) ∧ ((¬ (bytM m11 (m11.1 273 8)) = 61) → K m11) ∧ (((bytM m11 (m11.1 273 8)) = 61) → ((¬ x3 = 60) → ∀ m16 : Mem, m16 = wI m11 273 10 5 → ∀ m17 : Mem, m17 = wI m16 273 8 ((m16.1 273 8) + 1) → K m17) ∧ ((x3 = 60) → ∀ m18 : Mem, m18 = wI m11 273 10 4 → ∀ m19 : Mem, m19 = wI m18 273 8 ((m18.1 273 8) + 1) → K m19))))) ∧ ((¬ r9 = 0) → ∀ m20 : Mem, m20 = wI m8 273 10 x3 → ∀ m21 : Mem, m21 = wI m20 273 8 ((m20.1 273 8) + 1) → ((x3 = 60) → (¬ m21.1 273 5 ≤ (m21.1 273 8) → vp_in (m21.1 273 8) 300) ∧ ((¬ (bytM m21 (m21.1 273 8)) = 61) → K m21) ∧ (((bytM m21 (m21.1 273 8)) = 61) → ((¬ x3 = 60) → ∀ m22 : Mem, m22 = wI m21 273 10 5 → ∀ m23 : Mem, m23 = wI m22 273 8 ((m22.1 273 8) + 1) → K m23) ∧ ((x3 = 60) → ∀ m24 : Mem, m24 = wI m21 273 10 4 → ∀ m25 : Mem, m25 = wI m24 273 8 ((m24.1 273 8) + 1) → K m25))) ∧ ((¬ x3 = 60) → ((¬ x3 = 62) → K m21) ∧ ((x3 = 62) → (¬ m21.1 273 5 ≤ (m21.1 273 8) → vp_in (m21.1 273 8) 300) ∧ ((¬ (bytM m21 (m21.1 273 8)) = 61) → K m21) ∧ (((bytM m21 (m21.1 273 8)) = 61) → ((¬ x3 = 60) → ∀ m26 : Mem, m26 = wI m21 273 10 5 → ∀ m27 : Mem, m27 = wI m26 273 8 ((m26.1 273 8) + 1) → K m27) ∧ ((x3 = 60) → ∀ m28 : Mem, m28 = wI m21 273 10 4 → ∀ m29 : Mem, m29 = wI m28 273 8 ((m28.1 273 8) + 1) → K m29))))))))) ∧ ((¬ 0 ≤ x3) → ∀ m30 : Mem, m30 = wI m2 273 10 0 → K m30)) ∧ (((bytM m (m.1 273 8)) = 10) → ∀ m31 : Mem, m31 = wI m 273 8 ((m.1 273 8) + 1) → Gw G (d + 1) mX12_nextToken 0 [.ref (ga G 273), uu] [] m31 (Qv K)))) : Gw G (d + 1) mX12_nextToken 0 [.ref (ga G 273), u1] [] m (Qv K) := by
  refine Gw.weak (L' := [.ref (ga G 273), uu]) ⟨Or.inl rfl, Or.inr rfl, trivial⟩ ?_
  refine go_aload_n dX12_nextToken_0 rfl ?_
  refine go_aload_n dX12_nextToken_1 rfl ?_
  refine go_getI (k := 8) dX12_nextToken_2 sh_273 rfl inX12 (Nat.le_of_ble_eq_true rfl) lf_X12_103 rfl ?_
  obtain ⟨ho, hF⟩ := hF
  refine go_callV mX12_byteAt dX12_nextToken_5 lm_X12_106 okX12_byteAt isX12_byteAt sh_273 rfl (As := [.int (m.1 273 8)]) (S := []) rfl rfl (Nat.le_of_ble_eq_true rfl) (eX12_byteAt G _ (m.1 273 8) m (fun r m' => r = bytM m (m.1 273 8) ∧ m = m') ho ⟨rfl, rfl⟩) (k_i (fun r m' hr => ?_))
  obtain ⟨hr1, hr2⟩ := hr
  subst hr1
  subst hr2
  refine go_bipush (v := 32) dX12_nextToken_8 (by decide) ?_
  refine go_icmp_eq 26 dX12_nextToken_10 rfl ⟨fun hc => ?_, fun hc => ?_⟩
  · have hF := hF.1 hc
    refine go_aload_n dX12_nextToken_26 rfl ?_
    refine go_dup dX12_nextToken_27 rfl ?_
    refine go_getI (k := 8) dX12_nextToken_28 sh_273 rfl inX12 (Nat.le_of_ble_eq_true rfl) lf_X12_103 rfl ?_
    refine go_iconst (v := 1) dX12_nextToken_31 (by decide) ?_
    refine go_iadd dX12_nextToken_32 ?_
    refine go_putI (k := 8) dX12_nextToken_33 sh_273 rfl inX12 (Nat.le_of_ble_eq_true rfl) lf_X12_103 tyX12 tyX12_ok nmX12 rfl rfl (by decide +kernel) ?_
    obtain ⟨m1, em1⟩ : ∃ z : Mem, z = wI m 273 8 ((m.1 273 8) + 1) := ⟨_, rfl⟩
    rw [← em1]
    have hF := hF m1 em1
    refine go_goto 0 dX12_nextToken_36 rfl ?_
    exact hF
  · have hF := hF.2 hc
    refine go_aload_n dX12_nextToken_13 rfl ?_
    refine go_aload_n dX12_nextToken_14 rfl ?_
    refine go_getI (k := 8) dX12_nextToken_15 sh_273 rfl inX12 (Nat.le_of_ble_eq_true rfl) lf_X12_103 rfl ?_
    obtain ⟨ho, hF⟩ := hF
    refine go_callV mX12_byteAt dX12_nextToken_18 lm_X12_106 okX12_byteAt isX12_byteAt sh_273 rfl (As := [.int (m.1 273 8)]) (S := []) rfl rfl (Nat.le_of_ble_eq_true rfl) (eX12_byteAt G _ (m.1 273 8) m (fun r m' => r = bytM m (m.1 273 8) ∧ m = m') ho ⟨rfl, rfl⟩) (k_i (fun r m' hr => ?_))
    obtain ⟨hr1, hr2⟩ := hr
    subst hr1
    subst hr2
    refine go_bipush (v := 10) dX12_nextToken_21 (by decide) ?_
    refine go_icmp_ne 39 dX12_nextToken_23 rfl ⟨fun hc => ?_, fun hc => ?_⟩
    · have hF := hF.1 hc
      refine go_aload_n dX12_nextToken_39 rfl ?_
      refine go_aload_n dX12_nextToken_40 rfl ?_
      refine go_getI (k := 8) dX12_nextToken_41 sh_273 rfl inX12 (Nat.le_of_ble_eq_true rfl) lf_X12_103 rfl ?_
      refine go_putI (k := 9) dX12_nextToken_44 sh_273 rfl inX12 (Nat.le_of_ble_eq_true rfl) lf_X12_110 tyX12 tyX12_ok nmX12 rfl rfl (by decide +kernel) ?_
      obtain ⟨m2, em2⟩ : ∃ z : Mem, z = wI m 273 9 (m.1 273 8) := ⟨_, rfl⟩
      rw [← em2]
      have hF := hF m2 em2
      refine go_aload_n dX12_nextToken_47 rfl ?_
      refine go_aload_n dX12_nextToken_48 rfl ?_
      refine go_getI (k := 8) dX12_nextToken_49 sh_273 rfl inX12 (Nat.le_of_ble_eq_true rfl) lf_X12_103 rfl ?_
      obtain ⟨ho, hF⟩ := hF
      refine go_callV mX12_byteAt dX12_nextToken_52 lm_X12_106 okX12_byteAt isX12_byteAt sh_273 rfl (As := [.int (m2.1 273 8)]) (S := []) rfl rfl (Nat.le_of_ble_eq_true rfl) (eX12_byteAt G _ (m2.1 273 8) m2 (fun r m' => r = bytM m2 (m2.1 273 8) ∧ m2 = m') ho ⟨rfl, rfl⟩) (k_i (fun r m' hr => ?_))
      obtain ⟨hr1, hr2⟩ := hr
      subst hr1
      subst hr2
      refine Gw.namei (fun x3 ex3 => ?_)
      have hF := hF x3 ex3
      refine go_istore_n (L' := [.ref (ga G 273), .int x3]) dX12_nextToken_55 (Nat.le_of_ble_eq_true rfl) rfl ?_
      refine go_iload_n dX12_nextToken_56 rfl ?_
      refine go_if_ge 68 dX12_nextToken_57 rfl ⟨fun hc => ?_, fun hc => ?_⟩
      · have hF := hF.1 hc
        refine go_iload_n dX12_nextToken_68 rfl ?_
        rcases Classical.em (48 ≤ x3 ∧ x3 ≤ 57) with hp | hp
        · have hF := hF.1 hp
          refine go_callS mX12_isFigure dX12_nextToken_69 lm_X12_116 okX12_isFigure isX12_isFigure (As := [.int x3]) (S := []) rfl rfl (Nat.le_of_ble_eq_true rfl) (eX12_isFigure G _ x3 m2 (fun r m' => r = 1 ∧ m2 = m') ⟨fun _ => ⟨rfl, rfl⟩, fun q => absurd hp q⟩) (k_i (fun r m' hr => ?_))
          obtain ⟨hr1, hr2⟩ := hr
          subst hr1
          subst hr2
          refine go_if_eq 151 dX12_nextToken_72 rfl ⟨fun hc => absurd hc (by decide), fun _ => ?_⟩
          refine go_aload_n dX12_nextToken_75 rfl ?_
          refine go_iconst (v := 1) dX12_nextToken_76 (by decide) ?_
          refine go_putI (k := 10) dX12_nextToken_77 sh_273 rfl inX12 (Nat.le_of_ble_eq_true rfl) lf_X12_113 tyX12 tyX12_ok nmX12 rfl rfl (by decide +kernel) ?_
          obtain ⟨m4, em4⟩ : ∃ z : Mem, z = wI m2 273 10 1 := ⟨_, rfl⟩
          rw [← em4]
          have hF := hF m4 em4
          refine go_aload_n dX12_nextToken_80 rfl ?_
          refine go_iconst (v := 0) dX12_nextToken_81 (by decide) ?_
          refine go_putI (k := 11) dX12_nextToken_82 sh_273 rfl inX12 (Nat.le_of_ble_eq_true rfl) lf_X12_119 tyX12 tyX12_ok nmX12 rfl rfl (by decide +kernel) ?_
          obtain ⟨m5, em5⟩ : ∃ z : Mem, z = wI m4 273 11 0 := ⟨_, rfl⟩
          rw [← em5]
          have hF := hF m5 em5
          exact hF
        · have hF := hF.2 hp
          refine go_callS mX12_isFigure dX12_nextToken_69 lm_X12_116 okX12_isFigure isX12_isFigure (As := [.int x3]) (S := []) rfl rfl (Nat.le_of_ble_eq_true rfl) (eX12_isFigure G _ x3 m2 (fun r m' => r = 0 ∧ m2 = m') ⟨fun q => absurd q hp, fun _ => ⟨rfl, rfl⟩⟩) (k_i (fun r m' hr => ?_))
          obtain ⟨hr1, hr2⟩ := hr
          subst hr1
          subst hr2
          refine go_if_eq 151 dX12_nextToken_72 rfl ⟨fun _ => ?_, fun hc => absurd hc (by decide)⟩
          refine go_iload_n dX12_nextToken_151 rfl ?_
          rcases Classical.em ((97 ≤ x3 ∧ x3 ≤ 122) ∨ (65 ≤ x3 ∧ x3 ≤ 90)) with hp | hp
          · have hF := hF.1 hp
            refine go_callS mX12_isLetterByte dX12_nextToken_152 lm_X12_123 okX12_isLetterByte isX12_isLetterByte (As := [.int x3]) (S := []) rfl rfl (Nat.le_of_ble_eq_true rfl) (eX12_isLetterByte G _ x3 m2 (fun r m' => r = 1 ∧ m2 = m') ⟨fun _ => ⟨rfl, rfl⟩, fun q => absurd hp q⟩) (k_i (fun r m' hr => ?_))
            obtain ⟨hr1, hr2⟩ := hr
            subst hr1
            subst hr2
            refine go_if_eq 234 dX12_nextToken_155 rfl ⟨fun hc => absurd hc (by decide), fun _ => ?_⟩
            refine go_aload_n dX12_nextToken_158 rfl ?_
            refine go_iconst (v := 2) dX12_nextToken_159 (by decide) ?_
            refine go_putI (k := 10) dX12_nextToken_160 sh_273 rfl inX12 (Nat.le_of_ble_eq_true rfl) lf_X12_113 tyX12 tyX12_ok nmX12 rfl rfl (by decide +kernel) ?_
            obtain ⟨m6, em6⟩ : ∃ z : Mem, z = wI m2 273 10 2 := ⟨_, rfl⟩
            rw [← em6]
            have hF := hF m6 em6
            refine go_aload_n dX12_nextToken_163 rfl ?_
            refine go_lconst (v := 0) dX12_nextToken_164 (by decide) ?_
            refine go_putL (k := 12) dX12_nextToken_165 sh_273 rfl inX12 (Nat.le_of_ble_eq_true rfl) lf_X12_126 tyX12 tyX12_ok nmX12 rfl rfl (by decide +kernel) ?_
            obtain ⟨m7, em7⟩ : ∃ z : Mem, z = wL m6 273 12 0 := ⟨_, rfl⟩
            rw [← em7]
            have hF := hF m7 em7
            exact hF
          · have hF := hF.2 hp
            refine go_callS mX12_isLetterByte dX12_nextToken_152 lm_X12_123 okX12_isLetterByte isX12_isLetterByte (As := [.int x3]) (S := []) rfl rfl (Nat.le_of_ble_eq_true rfl) (eX12_isLetterByte G _ x3 m2 (fun r m' => r = 0 ∧ m2 = m') ⟨fun q => absurd q hp, fun _ => ⟨rfl, rfl⟩⟩) (k_i (fun r m' hr => ?_))
            obtain ⟨hr1, hr2⟩ := hr
            subst hr1
            subst hr2
            refine go_if_eq 234 dX12_nextToken_155 rfl ⟨fun _ => ?_, fun hc => absurd hc (by decide)⟩
            refine go_aload_n dX12_nextToken_234 rfl ?_
            refine go_iload_n dX12_nextToken_235 rfl ?_
            refine go_callS mX12_isSign dX12_nextToken_236 lm_X12_132 okX12_isSign isX12_isSign (As := [.int x3]) (S := [.ref (ga G 273)]) rfl rfl (Nat.le_of_ble_eq_true rfl) hF (k_i (fun r9 m8 hF => ?_))
            refine go_if_eq 246 dX12_nextToken_239 rfl ⟨fun hc => ?_, fun hc => ?_⟩
            · have hF := hF.1 hc
              refine go_iconst (v := 3) dX12_nextToken_246 (by decide) ?_
              refine go_putI (k := 10) dX12_nextToken_247 sh_273 rfl inX12 (Nat.le_of_ble_eq_true rfl) lf_X12_113 tyX12 tyX12_ok nmX12 rfl rfl (by decide +kernel) ?_
              obtain ⟨m10, em10⟩ : ∃ z : Mem, z = wI m8 273 10 3 := ⟨_, rfl⟩
              rw [← em10]
              have hF := hF m10 em10
              refine go_aload_n dX12_nextToken_250 rfl ?_
              refine go_dup dX12_nextToken_251 rfl ?_
              refine go_getI (k := 8) dX12_nextToken_252 sh_273 rfl inX12 (Nat.le_of_ble_eq_true rfl) lf_X12_103 rfl ?_
              refine go_iconst (v := 1) dX12_nextToken_255 (by decide) ?_
              refine go_iadd dX12_nextToken_256 ?_
              refine go_putI (k := 8) dX12_nextToken_257 sh_273 rfl inX12 (Nat.le_of_ble_eq_true rfl) lf_X12_103 tyX12 tyX12_ok nmX12 rfl rfl (by decide +kernel) ?_
              obtain ⟨m11, em11⟩ : ∃ z : Mem, z = wI m10 273 8 ((m10.1 273 8) + 1) := ⟨_, rfl⟩
              rw [← em11]
              have hF := hF m11 em11
              refine go_iload_n dX12_nextToken_260 rfl ?_
              refine go_bipush (v := 60) dX12_nextToken_261 (by decide) ?_
              refine go_icmp_eq 272 dX12_nextToken_263 rfl ⟨fun hc => ?_, fun hc => ?_⟩
              · have hF := hF.1 hc
                refine go_aload_n dX12_nextToken_272 rfl ?_
                refine go_aload_n dX12_nextToken_273 rfl ?_
                refine go_getI (k := 8) dX12_nextToken_274 sh_273 rfl inX12 (Nat.le_of_ble_eq_true rfl) lf_X12_103 rfl ?_
                obtain ⟨ho, hF⟩ := hF
                refine go_callV mX12_byteAt dX12_nextToken_277 lm_X12_106 okX12_byteAt isX12_byteAt sh_273 rfl (As := [.int (m11.1 273 8)]) (S := []) rfl rfl (Nat.le_of_ble_eq_true rfl) (eX12_byteAt G _ (m11.1 273 8) m11 (fun r m' => r = bytM m11 (m11.1 273 8) ∧ m11 = m') ho ⟨rfl, rfl⟩) (k_i (fun r m' hr => ?_))
                obtain ⟨hr1, hr2⟩ := hr
                subst hr1
                subst hr2
                refine go_bipush (v := 61) dX12_nextToken_280 (by decide) ?_
                refine go_icmp_ne 310 dX12_nextToken_282 rfl ⟨fun hc => ?_, fun hc => ?_⟩
                · have hF := hF.1 hc
                  exact go_vret (S := []) dX12_nextToken_310 rfl ⟨rfl, hF⟩
                · have hF := hF.2 hc
                  refine go_aload_n dX12_nextToken_285 rfl ?_
                  refine go_iload_n dX12_nextToken_286 rfl ?_
                  refine go_bipush (v := 60) dX12_nextToken_287 (by decide) ?_
                  refine go_icmp_ne 296 dX12_nextToken_289 rfl ⟨fun hc => ?_, fun hc => ?_⟩
                  · have hF := hF.1 hc
                    refine go_iconst (v := 5) dX12_nextToken_296 (by decide) ?_
                    refine go_putI (k := 10) dX12_nextToken_297 sh_273 rfl inX12 (Nat.le_of_ble_eq_true rfl) lf_X12_113 tyX12 tyX12_ok nmX12 rfl rfl (by decide +kernel) ?_
                    obtain ⟨m12, em12⟩ : ∃ z : Mem, z = wI m11 273 10 5 := ⟨_, rfl⟩
                    rw [← em12]
                    have hF := hF m12 em12
                    refine go_aload_n dX12_nextToken_300 rfl ?_
                    refine go_dup dX12_nextToken_301 rfl ?_
                    refine go_getI (k := 8) dX12_nextToken_302 sh_273 rfl inX12 (Nat.le_of_ble_eq_true rfl) lf_X12_103 rfl ?_
                    refine go_iconst (v := 1) dX12_nextToken_305 (by decide) ?_
                    refine go_iadd dX12_nextToken_306 ?_
                    refine go_putI (k := 8) dX12_nextToken_307 sh_273 rfl inX12 (Nat.le_of_ble_eq_true rfl) lf_X12_103 tyX12 tyX12_ok nmX12 rfl rfl (by decide +kernel) ?_
                    obtain ⟨m13, em13⟩ : ∃ z : Mem, z = wI m12 273 8 ((m12.1 273 8) + 1) := ⟨_, rfl⟩
                    rw [← em13]
                    have hF := hF m13 em13
                    exact go_vret (S := []) dX12_nextToken_310 rfl ⟨rfl, hF⟩
                  · have hF := hF.2 hc
                    refine go_iconst (v := 4) dX12_nextToken_292 (by decide) ?_
                    refine go_goto 297 dX12_nextToken_293 rfl ?_
                    refine go_putI (k := 10) dX12_nextToken_297 sh_273 rfl inX12 (Nat.le_of_ble_eq_true rfl) lf_X12_113 tyX12 tyX12_ok nmX12 rfl rfl (by decide +kernel) ?_
                    obtain ⟨m14, em14⟩ : ∃ z : Mem, z = wI m11 273 10 4 := ⟨_, rfl⟩
                    rw [← em14]
                    have hF := hF m14 em14
                    refine go_aload_n dX12_nextToken_300 rfl ?_
                    refine go_dup dX12_nextToken_301 rfl ?_
                    refine go_getI (k := 8) dX12_nextToken_302 sh_273 rfl inX12 (Nat.le_of_ble_eq_true rfl) lf_X12_103 rfl ?_
                    refine go_iconst (v := 1) dX12_nextToken_305 (by decide) ?_
                    refine go_iadd dX12_nextToken_306 ?_
                    refine go_putI (k := 8) dX12_nextToken_307 sh_273 rfl inX12 (Nat.le_of_ble_eq_true rfl) lf_X12_103 tyX12 tyX12_ok nmX12 rfl rfl (by decide +kernel) ?_
                    obtain ⟨m15, em15⟩ : ∃ z : Mem, z = wI m14 273 8 ((m14.1 273 8) + 1) := ⟨_, rfl⟩
                    rw [← em15]
                    have hF := hF m15 em15
                    exact go_vret (S := []) dX12_nextToken_310 rfl ⟨rfl, hF⟩
              · have hF := hF.2 hc
                refine go_iload_n dX12_nextToken_266 rfl ?_
                refine go_bipush (v := 62) dX12_nextToken_267 (by decide) ?_
                refine go_icmp_ne 310 dX12_nextToken_269 rfl ⟨fun hc => ?_, fun hc => ?_⟩
                · have hF := hF.1 hc
                  exact go_vret (S := []) dX12_nextToken_310 rfl ⟨rfl, hF⟩
                · have hF := hF.2 hc
                  refine go_aload_n dX12_nextToken_272 rfl ?_
                  refine go_aload_n dX12_nextToken_273 rfl ?_
                  refine go_getI (k := 8) dX12_nextToken_274 sh_273 rfl inX12 (Nat.le_of_ble_eq_true rfl) lf_X12_103 rfl ?_
                  obtain ⟨ho, hF⟩ := hF
                  refine go_callV mX12_byteAt dX12_nextToken_277 lm_X12_106 okX12_byteAt isX12_byteAt sh_273 rfl (As := [.int (m11.1 273 8)]) (S := []) rfl rfl (Nat.le_of_ble_eq_true rfl) (eX12_byteAt G _ (m11.1 273 8) m11 (fun r m' => r = bytM m11 (m11.1 273 8) ∧ m11 = m') ho ⟨rfl, rfl⟩) (k_i (fun r m' hr => ?_))
                  obtain ⟨hr1, hr2⟩ := hr
                  subst hr1
                  subst hr2
                  refine go_bipush (v := 61) dX12_nextToken_280 (by decide) ?_
                  refine go_icmp_ne 310 dX12_nextToken_282 rfl ⟨fun hc => ?_, fun hc => ?_⟩
                  · have hF := hF.1 hc
                    exact go_vret (S := []) dX12_nextToken_310 rfl ⟨rfl, hF⟩
                  · have hF := hF.2 hc
                    refine go_aload_n dX12_nextToken_285 rfl ?_
                    refine go_iload_n dX12_nextToken_286 rfl ?_
                    refine go_bipush (v := 60) dX12_nextToken_287 (by decide) ?_
                    refine go_icmp_ne 296 dX12_nextToken_289 rfl ⟨fun hc => ?_, fun hc => ?_⟩
                    · have hF := hF.1 hc
                      refine go_iconst (v := 5) dX12_nextToken_296 (by decide) ?_
                      refine go_putI (k := 10) dX12_nextToken_297 sh_273 rfl inX12 (Nat.le_of_ble_eq_true rfl) lf_X12_113 tyX12 tyX12_ok nmX12 rfl rfl (by decide +kernel) ?_
                      obtain ⟨m16, em16⟩ : ∃ z : Mem, z = wI m11 273 10 5 := ⟨_, rfl⟩
                      rw [← em16]
                      have hF := hF m16 em16
                      refine go_aload_n dX12_nextToken_300 rfl ?_
                      refine go_dup dX12_nextToken_301 rfl ?_
                      refine go_getI (k := 8) dX12_nextToken_302 sh_273 rfl inX12 (Nat.le_of_ble_eq_true rfl) lf_X12_103 rfl ?_
                      refine go_iconst (v := 1) dX12_nextToken_305 (by decide) ?_
                      refine go_iadd dX12_nextToken_306 ?_
                      refine go_putI (k := 8) dX12_nextToken_307 sh_273 rfl inX12 (Nat.le_of_ble_eq_true rfl) lf_X12_103 tyX12 tyX12_ok nmX12 rfl rfl (by decide +kernel) ?_
                      obtain ⟨m17, em17⟩ : ∃ z : Mem, z = wI m16 273 8 ((m16.1 273 8) + 1) := ⟨_, rfl⟩
                      rw [← em17]
                      have hF := hF m17 em17
                      exact go_vret (S := []) dX12_nextToken_310 rfl ⟨rfl, hF⟩
                    · have hF := hF.2 hc
                      refine go_iconst (v := 4) dX12_nextToken_292 (by decide) ?_
                      refine go_goto 297 dX12_nextToken_293 rfl ?_
                      refine go_putI (k := 10) dX12_nextToken_297 sh_273 rfl inX12 (Nat.le_of_ble_eq_true rfl) lf_X12_113 tyX12 tyX12_ok nmX12 rfl rfl (by decide +kernel) ?_
                      obtain ⟨m18, em18⟩ : ∃ z : Mem, z = wI m11 273 10 4 := ⟨_, rfl⟩
                      rw [← em18]
                      have hF := hF m18 em18
                      refine go_aload_n dX12_nextToken_300 rfl ?_
                      refine go_dup dX12_nextToken_301 rfl ?_
                      refine go_getI (k := 8) dX12_nextToken_302 sh_273 rfl inX12 (Nat.le_of_ble_eq_true rfl) lf_X12_103 rfl ?_
                      refine go_iconst (v := 1) dX12_nextToken_305 (by decide) ?_
                      refine go_iadd dX12_nextToken_306 ?_
                      refine go_putI (k := 8) dX12_nextToken_307 sh_273 rfl inX12 (Nat.le_of_ble_eq_true rfl) lf_X12_103 tyX12 tyX12_ok nmX12 rfl rfl (by decide +kernel) ?_
                      obtain ⟨m19, em19⟩ : ∃ z : Mem, z = wI m18 273 8 ((m18.1 273 8) + 1) := ⟨_, rfl⟩
                      rw [← em19]
                      have hF := hF m19 em19
                      exact go_vret (S := []) dX12_nextToken_310 rfl ⟨rfl, hF⟩
            · have hF := hF.2 hc
              refine go_iload_n dX12_nextToken_242 rfl ?_
              refine go_goto 247 dX12_nextToken_243 rfl ?_
              refine go_putI (k := 10) dX12_nextToken_247 sh_273 rfl inX12 (Nat.le_of_ble_eq_true rfl) lf_X12_113 tyX12 tyX12_ok nmX12 rfl rfl (by decide +kernel) ?_
              obtain ⟨m20, em20⟩ : ∃ z : Mem, z = wI m8 273 10 x3 := ⟨_, rfl⟩
              rw [← em20]
              have hF := hF m20 em20
              refine go_aload_n dX12_nextToken_250 rfl ?_
              refine go_dup dX12_nextToken_251 rfl ?_
              refine go_getI (k := 8) dX12_nextToken_252 sh_273 rfl inX12 (Nat.le_of_ble_eq_true rfl) lf_X12_103 rfl ?_
              refine go_iconst (v := 1) dX12_nextToken_255 (by decide) ?_
              refine go_iadd dX12_nextToken_256 ?_
              refine go_putI (k := 8) dX12_nextToken_257 sh_273 rfl inX12 (Nat.le_of_ble_eq_true rfl) lf_X12_103 tyX12 tyX12_ok nmX12 rfl rfl (by decide +kernel) ?_
              obtain ⟨m21, em21⟩ : ∃ z : Mem, z = wI m20 273 8 ((m20.1 273 8) + 1) := ⟨_, rfl⟩
              rw [← em21]
              have hF := hF m21 em21
              refine go_iload_n dX12_nextToken_260 rfl ?_
              refine go_bipush (v := 60) dX12_nextToken_261 (by decide) ?_
              refine go_icmp_eq 272 dX12_nextToken_263 rfl ⟨fun hc => ?_, fun hc => ?_⟩
              · have hF := hF.1 hc
                refine go_aload_n dX12_nextToken_272 rfl ?_
                refine go_aload_n dX12_nextToken_273 rfl ?_
                refine go_getI (k := 8) dX12_nextToken_274 sh_273 rfl inX12 (Nat.le_of_ble_eq_true rfl) lf_X12_103 rfl ?_
                obtain ⟨ho, hF⟩ := hF
                refine go_callV mX12_byteAt dX12_nextToken_277 lm_X12_106 okX12_byteAt isX12_byteAt sh_273 rfl (As := [.int (m21.1 273 8)]) (S := []) rfl rfl (Nat.le_of_ble_eq_true rfl) (eX12_byteAt G _ (m21.1 273 8) m21 (fun r m' => r = bytM m21 (m21.1 273 8) ∧ m21 = m') ho ⟨rfl, rfl⟩) (k_i (fun r m' hr => ?_))
                obtain ⟨hr1, hr2⟩ := hr
                subst hr1
                subst hr2
                refine go_bipush (v := 61) dX12_nextToken_280 (by decide) ?_
                refine go_icmp_ne 310 dX12_nextToken_282 rfl ⟨fun hc => ?_, fun hc => ?_⟩
                · have hF := hF.1 hc
                  exact go_vret (S := []) dX12_nextToken_310 rfl ⟨rfl, hF⟩
                · have hF := hF.2 hc
                  refine go_aload_n dX12_nextToken_285 rfl ?_
                  refine go_iload_n dX12_nextToken_286 rfl ?_
                  refine go_bipush (v := 60) dX12_nextToken_287 (by decide) ?_
                  refine go_icmp_ne 296 dX12_nextToken_289 rfl ⟨fun hc => ?_, fun hc => ?_⟩
                  · have hF := hF.1 hc
                    refine go_iconst (v := 5) dX12_nextToken_296 (by decide) ?_
                    refine go_putI (k := 10) dX12_nextToken_297 sh_273 rfl inX12 (Nat.le_of_ble_eq_true rfl) lf_X12_113 tyX12 tyX12_ok nmX12 rfl rfl (by decide +kernel) ?_
                    obtain ⟨m22, em22⟩ : ∃ z : Mem, z = wI m21 273 10 5 := ⟨_, rfl⟩
                    rw [← em22]
                    have hF := hF m22 em22
                    refine go_aload_n dX12_nextToken_300 rfl ?_
                    refine go_dup dX12_nextToken_301 rfl ?_
                    refine go_getI (k := 8) dX12_nextToken_302 sh_273 rfl inX12 (Nat.le_of_ble_eq_true rfl) lf_X12_103 rfl ?_
                    refine go_iconst (v := 1) dX12_nextToken_305 (by decide) ?_
                    refine go_iadd dX12_nextToken_306 ?_
                    refine go_putI (k := 8) dX12_nextToken_307 sh_273 rfl inX12 (Nat.le_of_ble_eq_true rfl) lf_X12_103 tyX12 tyX12_ok nmX12 rfl rfl (by decide +kernel) ?_
                    obtain ⟨m23, em23⟩ : ∃ z : Mem, z = wI m22 273 8 ((m22.1 273 8) + 1) := ⟨_, rfl⟩
                    rw [← em23]
                    have hF := hF m23 em23
                    exact go_vret (S := []) dX12_nextToken_310 rfl ⟨rfl, hF⟩
                  · have hF := hF.2 hc
                    refine go_iconst (v := 4) dX12_nextToken_292 (by decide) ?_
                    refine go_goto 297 dX12_nextToken_293 rfl ?_
                    refine go_putI (k := 10) dX12_nextToken_297 sh_273 rfl inX12 (Nat.le_of_ble_eq_true rfl) lf_X12_113 tyX12 tyX12_ok nmX12 rfl rfl (by decide +kernel) ?_
                    obtain ⟨m24, em24⟩ : ∃ z : Mem, z = wI m21 273 10 4 := ⟨_, rfl⟩
                    rw [← em24]
                    have hF := hF m24 em24
                    refine go_aload_n dX12_nextToken_300 rfl ?_
                    refine go_dup dX12_nextToken_301 rfl ?_
                    refine go_getI (k := 8) dX12_nextToken_302 sh_273 rfl inX12 (Nat.le_of_ble_eq_true rfl) lf_X12_103 rfl ?_
                    refine go_iconst (v := 1) dX12_nextToken_305 (by decide) ?_
                    refine go_iadd dX12_nextToken_306 ?_
                    refine go_putI (k := 8) dX12_nextToken_307 sh_273 rfl inX12 (Nat.le_of_ble_eq_true rfl) lf_X12_103 tyX12 tyX12_ok nmX12 rfl rfl (by decide +kernel) ?_
                    obtain ⟨m25, em25⟩ : ∃ z : Mem, z = wI m24 273 8 ((m24.1 273 8) + 1) := ⟨_, rfl⟩
                    rw [← em25]
                    have hF := hF m25 em25
                    exact go_vret (S := []) dX12_nextToken_310 rfl ⟨rfl, hF⟩
              · have hF := hF.2 hc
                refine go_iload_n dX12_nextToken_266 rfl ?_
                refine go_bipush (v := 62) dX12_nextToken_267 (by decide) ?_
                refine go_icmp_ne 310 dX12_nextToken_269 rfl ⟨fun hc => ?_, fun hc => ?_⟩
                · have hF := hF.1 hc
                  exact go_vret (S := []) dX12_nextToken_310 rfl ⟨rfl, hF⟩
                · have hF := hF.2 hc
                  refine go_aload_n dX12_nextToken_272 rfl ?_
                  refine go_aload_n dX12_nextToken_273 rfl ?_
                  refine go_getI (k := 8) dX12_nextToken_274 sh_273 rfl inX12 (Nat.le_of_ble_eq_true rfl) lf_X12_103 rfl ?_
                  obtain ⟨ho, hF⟩ := hF
                  refine go_callV mX12_byteAt dX12_nextToken_277 lm_X12_106 okX12_byteAt isX12_byteAt sh_273 rfl (As := [.int (m21.1 273 8)]) (S := []) rfl rfl (Nat.le_of_ble_eq_true rfl) (eX12_byteAt G _ (m21.1 273 8) m21 (fun r m' => r = bytM m21 (m21.1 273 8) ∧ m21 = m') ho ⟨rfl, rfl⟩) (k_i (fun r m' hr => ?_))
                  obtain ⟨hr1, hr2⟩ := hr
                  subst hr1
                  subst hr2
                  refine go_bipush (v := 61) dX12_nextToken_280 (by decide) ?_
                  refine go_icmp_ne 310 dX12_nextToken_282 rfl ⟨fun hc => ?_, fun hc => ?_⟩
                  · have hF := hF.1 hc
                    exact go_vret (S := []) dX12_nextToken_310 rfl ⟨rfl, hF⟩
                  · have hF := hF.2 hc
                    refine go_aload_n dX12_nextToken_285 rfl ?_
                    refine go_iload_n dX12_nextToken_286 rfl ?_
                    refine go_bipush (v := 60) dX12_nextToken_287 (by decide) ?_
                    refine go_icmp_ne 296 dX12_nextToken_289 rfl ⟨fun hc => ?_, fun hc => ?_⟩
                    · have hF := hF.1 hc
                      refine go_iconst (v := 5) dX12_nextToken_296 (by decide) ?_
                      refine go_putI (k := 10) dX12_nextToken_297 sh_273 rfl inX12 (Nat.le_of_ble_eq_true rfl) lf_X12_113 tyX12 tyX12_ok nmX12 rfl rfl (by decide +kernel) ?_
                      obtain ⟨m26, em26⟩ : ∃ z : Mem, z = wI m21 273 10 5 := ⟨_, rfl⟩
                      rw [← em26]
                      have hF := hF m26 em26
                      refine go_aload_n dX12_nextToken_300 rfl ?_
                      refine go_dup dX12_nextToken_301 rfl ?_
                      refine go_getI (k := 8) dX12_nextToken_302 sh_273 rfl inX12 (Nat.le_of_ble_eq_true rfl) lf_X12_103 rfl ?_
                      refine go_iconst (v := 1) dX12_nextToken_305 (by decide) ?_
                      refine go_iadd dX12_nextToken_306 ?_
                      refine go_putI (k := 8) dX12_nextToken_307 sh_273 rfl inX12 (Nat.le_of_ble_eq_true rfl) lf_X12_103 tyX12 tyX12_ok nmX12 rfl rfl (by decide +kernel) ?_
                      obtain ⟨m27, em27⟩ : ∃ z : Mem, z = wI m26 273 8 ((m26.1 273 8) + 1) := ⟨_, rfl⟩
                      rw [← em27]
                      have hF := hF m27 em27
                      exact go_vret (S := []) dX12_nextToken_310 rfl ⟨rfl, hF⟩
                    · have hF := hF.2 hc
                      refine go_iconst (v := 4) dX12_nextToken_292 (by decide) ?_
                      refine go_goto 297 dX12_nextToken_293 rfl ?_
                      refine go_putI (k := 10) dX12_nextToken_297 sh_273 rfl inX12 (Nat.le_of_ble_eq_true rfl) lf_X12_113 tyX12 tyX12_ok nmX12 rfl rfl (by decide +kernel) ?_
                      obtain ⟨m28, em28⟩ : ∃ z : Mem, z = wI m21 273 10 4 := ⟨_, rfl⟩
                      rw [← em28]
                      have hF := hF m28 em28
                      refine go_aload_n dX12_nextToken_300 rfl ?_
                      refine go_dup dX12_nextToken_301 rfl ?_
                      refine go_getI (k := 8) dX12_nextToken_302 sh_273 rfl inX12 (Nat.le_of_ble_eq_true rfl) lf_X12_103 rfl ?_
                      refine go_iconst (v := 1) dX12_nextToken_305 (by decide) ?_
                      refine go_iadd dX12_nextToken_306 ?_
                      refine go_putI (k := 8) dX12_nextToken_307 sh_273 rfl inX12 (Nat.le_of_ble_eq_true rfl) lf_X12_103 tyX12 tyX12_ok nmX12 rfl rfl (by decide +kernel) ?_
                      obtain ⟨m29, em29⟩ : ∃ z : Mem, z = wI m28 273 8 ((m28.1 273 8) + 1) := ⟨_, rfl⟩
                      rw [← em29]
                      have hF := hF m29 em29
                      exact go_vret (S := []) dX12_nextToken_310 rfl ⟨rfl, hF⟩
      · have hF := hF.2 hc
        refine go_aload_n dX12_nextToken_60 rfl ?_
        refine go_iconst (v := 0) dX12_nextToken_61 (by decide) ?_
        refine go_putI (k := 10) dX12_nextToken_62 sh_273 rfl inX12 (Nat.le_of_ble_eq_true rfl) lf_X12_113 tyX12 tyX12_ok nmX12 rfl rfl (by decide +kernel) ?_
        obtain ⟨m30, em30⟩ : ∃ z : Mem, z = wI m2 273 10 0 := ⟨_, rfl⟩
        rw [← em30]
        have hF := hF m30 em30
        refine go_goto 310 dX12_nextToken_65 rfl ?_
        exact go_vret (S := []) dX12_nextToken_310 rfl ⟨rfl, hF⟩
    · have hF := hF.2 hc
      refine go_aload_n dX12_nextToken_26 rfl ?_
      refine go_dup dX12_nextToken_27 rfl ?_
      refine go_getI (k := 8) dX12_nextToken_28 sh_273 rfl inX12 (Nat.le_of_ble_eq_true rfl) lf_X12_103 rfl ?_
      refine go_iconst (v := 1) dX12_nextToken_31 (by decide) ?_
      refine go_iadd dX12_nextToken_32 ?_
      refine go_putI (k := 8) dX12_nextToken_33 sh_273 rfl inX12 (Nat.le_of_ble_eq_true rfl) lf_X12_103 tyX12 tyX12_ok nmX12 rfl rfl (by decide +kernel) ?_
      obtain ⟨m31, em31⟩ : ∃ z : Mem, z = wI m 273 8 ((m.1 273 8) + 1) := ⟨_, rfl⟩
      rw [← em31]
      have hF := hF m31 em31
      refine go_goto 0 dX12_nextToken_36 rfl ?_
      exact hF
theorem vX12_nextToken_85 (G : GP) (d : Nat) (u1 : Value) (m : Mem) (K : Mem → Prop) (hF : (¬ m.1 273 5 ≤ (m.1 273 8) → vp_in (m.1 273 8) 300) ∧ ((48 ≤ (bytM m (m.1 273 8)) ∧ (bytM m (m.1 273 8)) ≤ 57) → (((m.1 273 11) ≤ 99999) → (¬ m.1 273 5 ≤ (m.1 273 8) → vp_in (m.1 273 8) 300) ∧ ∀ m32 : Mem, m32 = wI m 273 11 ((((10 : Int32) * (m.1 273 11)) + (bytM m (m.1 273 8))) - 48) → ∀ m33 : Mem, m33 = wI m32 273 8 ((m32.1 273 8) + 1) → Gw G (d + 1) mX12_nextToken 85 [.ref (ga G 273), uu] [] m33 (Qv K)) ∧ ((¬ (m.1 273 11) ≤ 99999) → ∀ m34 : Mem, m34 = wI m 273 11 (m.1 273 11) → ∀ m35 : Mem, m35 = wI m34 273 8 ((m34.1 273 8) + 1) → Gw G (d + 1) mX12_nextToken 85 [.ref (ga G 273), uu] [] m35 (Qv K))) ∧ (¬ (48 ≤ (bytM m (m.1 273 8)) ∧ (bytM m (m.1 273 8)) ≤ 57) → K m)) : Gw G (d + 1) mX12_nextToken 85 [.ref (ga G 273), u1] [] m (Qv K) := by
  refine Gw.weak (L' := [.ref (ga G 273), uu]) ⟨Or.inl rfl, Or.inr rfl, trivial⟩ ?_
  refine go_aload_n dX12_nextToken_85 rfl ?_
  refine go_aload_n dX12_nextToken_86 rfl ?_
  refine go_getI (k := 8) dX12_nextToken_87 sh_273 rfl inX12 (Nat.le_of_ble_eq_true rfl) lf_X12_103 rfl ?_
  obtain ⟨ho, hF⟩ := hF
  refine go_callV mX12_byteAt dX12_nextToken_90 lm_X12_106 okX12_byteAt isX12_byteAt sh_273 rfl (As := [.int (m.1 273 8)]) (S := []) rfl rfl (Nat.le_of_ble_eq_true rfl) (eX12_byteAt G _ (m.1 273 8) m (fun r m' => r = bytM m (m.1 273 8) ∧ m = m') ho ⟨rfl, rfl⟩) (k_i (fun r m' hr => ?_))
  obtain ⟨hr1, hr2⟩ := hr
  subst hr1
  subst hr2
  rcases Classical.em (48 ≤ (bytM m (m.1 273 8)) ∧ (bytM m (m.1 273 8)) ≤ 57) with hp | hp
  · have hF := hF.1 hp
    refine go_callS mX12_isFigure dX12_nextToken_93 lm_X12_116 okX12_isFigure isX12_isFigure (As := [.int (bytM m (m.1 273 8))]) (S := []) rfl rfl (Nat.le_of_ble_eq_true rfl) (eX12_isFigure G _ (bytM m (m.1 273 8)) m (fun r m' => r = 1 ∧ m = m') ⟨fun _ => ⟨rfl, rfl⟩, fun q => absurd hp q⟩) (k_i (fun r m' hr => ?_))
    obtain ⟨hr1, hr2⟩ := hr
    subst hr1
    subst hr2
    refine go_if_eq 310 dX12_nextToken_96 rfl ⟨fun hc => absurd hc (by decide), fun _ => ?_⟩
    refine go_aload_n dX12_nextToken_99 rfl ?_
    refine go_aload_n dX12_nextToken_100 rfl ?_
    refine go_getI (k := 11) dX12_nextToken_101 sh_273 rfl inX12 (Nat.le_of_ble_eq_true rfl) lf_X12_119 rfl ?_
    refine go_ldc (v := 99999) dX12_nextToken_104 lc_X12_122 ?_
    refine go_icmp_le 116 dX12_nextToken_106 rfl ⟨fun hc => ?_, fun hc => ?_⟩
    · have hF := hF.1 hc
      refine go_bipush (v := 10) dX12_nextToken_116 (by decide) ?_
      refine go_aload_n dX12_nextToken_118 rfl ?_
      refine go_getI (k := 11) dX12_nextToken_119 sh_273 rfl inX12 (Nat.le_of_ble_eq_true rfl) lf_X12_119 rfl ?_
      refine go_imul dX12_nextToken_122 ?_
      refine go_aload_n dX12_nextToken_123 rfl ?_
      refine go_aload_n dX12_nextToken_124 rfl ?_
      refine go_getI (k := 8) dX12_nextToken_125 sh_273 rfl inX12 (Nat.le_of_ble_eq_true rfl) lf_X12_103 rfl ?_
      obtain ⟨ho, hF⟩ := hF
      refine go_callV mX12_byteAt dX12_nextToken_128 lm_X12_106 okX12_byteAt isX12_byteAt sh_273 rfl (As := [.int (m.1 273 8)]) (S := [.int ((10 : Int32) * (m.1 273 11)), .ref (ga G 273)]) rfl rfl (Nat.le_of_ble_eq_true rfl) (eX12_byteAt G _ (m.1 273 8) m (fun r m' => r = bytM m (m.1 273 8) ∧ m = m') ho ⟨rfl, rfl⟩) (k_i (fun r m' hr => ?_))
      obtain ⟨hr1, hr2⟩ := hr
      subst hr1
      subst hr2
      refine go_iadd dX12_nextToken_131 ?_
      refine go_bipush (v := 48) dX12_nextToken_132 (by decide) ?_
      refine go_isub dX12_nextToken_134 ?_
      refine go_putI (k := 11) dX12_nextToken_135 sh_273 rfl inX12 (Nat.le_of_ble_eq_true rfl) lf_X12_119 tyX12 tyX12_ok nmX12 rfl rfl (by decide +kernel) ?_
      obtain ⟨m32, em32⟩ : ∃ z : Mem, z = wI m 273 11 ((((10 : Int32) * (m.1 273 11)) + (bytM m (m.1 273 8))) - 48) := ⟨_, rfl⟩
      rw [← em32]
      have hF := hF m32 em32
      refine go_aload_n dX12_nextToken_138 rfl ?_
      refine go_dup dX12_nextToken_139 rfl ?_
      refine go_getI (k := 8) dX12_nextToken_140 sh_273 rfl inX12 (Nat.le_of_ble_eq_true rfl) lf_X12_103 rfl ?_
      refine go_iconst (v := 1) dX12_nextToken_143 (by decide) ?_
      refine go_iadd dX12_nextToken_144 ?_
      refine go_putI (k := 8) dX12_nextToken_145 sh_273 rfl inX12 (Nat.le_of_ble_eq_true rfl) lf_X12_103 tyX12 tyX12_ok nmX12 rfl rfl (by decide +kernel) ?_
      obtain ⟨m33, em33⟩ : ∃ z : Mem, z = wI m32 273 8 ((m32.1 273 8) + 1) := ⟨_, rfl⟩
      rw [← em33]
      have hF := hF m33 em33
      refine go_goto 85 dX12_nextToken_148 rfl ?_
      exact hF
    · have hF := hF.2 hc
      refine go_aload_n dX12_nextToken_109 rfl ?_
      refine go_getI (k := 11) dX12_nextToken_110 sh_273 rfl inX12 (Nat.le_of_ble_eq_true rfl) lf_X12_119 rfl ?_
      refine go_goto 135 dX12_nextToken_113 rfl ?_
      refine go_putI (k := 11) dX12_nextToken_135 sh_273 rfl inX12 (Nat.le_of_ble_eq_true rfl) lf_X12_119 tyX12 tyX12_ok nmX12 rfl rfl (by decide +kernel) ?_
      obtain ⟨m34, em34⟩ : ∃ z : Mem, z = wI m 273 11 (m.1 273 11) := ⟨_, rfl⟩
      rw [← em34]
      have hF := hF m34 em34
      refine go_aload_n dX12_nextToken_138 rfl ?_
      refine go_dup dX12_nextToken_139 rfl ?_
      refine go_getI (k := 8) dX12_nextToken_140 sh_273 rfl inX12 (Nat.le_of_ble_eq_true rfl) lf_X12_103 rfl ?_
      refine go_iconst (v := 1) dX12_nextToken_143 (by decide) ?_
      refine go_iadd dX12_nextToken_144 ?_
      refine go_putI (k := 8) dX12_nextToken_145 sh_273 rfl inX12 (Nat.le_of_ble_eq_true rfl) lf_X12_103 tyX12 tyX12_ok nmX12 rfl rfl (by decide +kernel) ?_
      obtain ⟨m35, em35⟩ : ∃ z : Mem, z = wI m34 273 8 ((m34.1 273 8) + 1) := ⟨_, rfl⟩
      rw [← em35]
      have hF := hF m35 em35
      refine go_goto 85 dX12_nextToken_148 rfl ?_
      exact hF
  · have hF := hF.2 hp
    refine go_callS mX12_isFigure dX12_nextToken_93 lm_X12_116 okX12_isFigure isX12_isFigure (As := [.int (bytM m (m.1 273 8))]) (S := []) rfl rfl (Nat.le_of_ble_eq_true rfl) (eX12_isFigure G _ (bytM m (m.1 273 8)) m (fun r m' => r = 0 ∧ m = m') ⟨fun q => absurd q hp, fun _ => ⟨rfl, rfl⟩⟩) (k_i (fun r m' hr => ?_))
    obtain ⟨hr1, hr2⟩ := hr
    subst hr1
    subst hr2
    refine go_if_eq 310 dX12_nextToken_96 rfl ⟨fun _ => ?_, fun hc => absurd hc (by decide)⟩
    exact go_vret (S := []) dX12_nextToken_310 rfl ⟨rfl, hF⟩
theorem vX12_nextToken_168 (G : GP) (d : Nat) (u1 : Value) (m : Mem) (K : Mem → Prop) (hF : (¬ m.1 273 5 ≤ (m.1 273 8) → vp_in (m.1 273 8) 300) ∧ (((97 ≤ (bytM m (m.1 273 8)) ∧ (bytM m (m.1 273 8)) ≤ 122) ∨ (65 ≤ (bytM m (m.1 273 8)) ∧ (bytM m (m.1 273 8)) ≤ 90)) → (((lg_cmp ((m.2.1 273 12) >>> ((48 : Int32).toInt64 &&& 63)) 0) = 0) → (¬ m.1 273 5 ≤ (m.1 273 8) → vp_in (m.1 273 8) 300) ∧ ∀ m36 : Mem, m36 = wL m 273 12 (((m.2.1 273 12) <<< ((8 : Int32).toInt64 &&& 63)) ||| ((bytM m (m.1 273 8)).toInt64)) → ∀ m37 : Mem, m37 = wI m36 273 8 ((m36.1 273 8) + 1) → Gw G (d + 1) mX12_nextToken 168 [.ref (ga G 273), uu] [] m37 (Qv K)) ∧ ((¬ (lg_cmp ((m.2.1 273 12) >>> ((48 : Int32).toInt64 &&& 63)) 0) = 0) → ∀ m38 : Mem, m38 = wL m 273 12 1152921504606846976 → ∀ m39 : Mem, m39 = wI m38 273 8 ((m38.1 273 8) + 1) → Gw G (d + 1) mX12_nextToken 168 [.ref (ga G 273), uu] [] m39 (Qv K))) ∧ (¬ ((97 ≤ (bytM m (m.1 273 8)) ∧ (bytM m (m.1 273 8)) ≤ 122) ∨ (65 ≤ (bytM m (m.1 273 8)) ∧ (bytM m (m.1 273 8)) ≤ 90)) → K m)) : Gw G (d + 1) mX12_nextToken 168 [.ref (ga G 273), u1] [] m (Qv K) := by
  refine Gw.weak (L' := [.ref (ga G 273), uu]) ⟨Or.inl rfl, Or.inr rfl, trivial⟩ ?_
  refine go_aload_n dX12_nextToken_168 rfl ?_
  refine go_aload_n dX12_nextToken_169 rfl ?_
  refine go_getI (k := 8) dX12_nextToken_170 sh_273 rfl inX12 (Nat.le_of_ble_eq_true rfl) lf_X12_103 rfl ?_
  obtain ⟨ho, hF⟩ := hF
  refine go_callV mX12_byteAt dX12_nextToken_173 lm_X12_106 okX12_byteAt isX12_byteAt sh_273 rfl (As := [.int (m.1 273 8)]) (S := []) rfl rfl (Nat.le_of_ble_eq_true rfl) (eX12_byteAt G _ (m.1 273 8) m (fun r m' => r = bytM m (m.1 273 8) ∧ m = m') ho ⟨rfl, rfl⟩) (k_i (fun r m' hr => ?_))
  obtain ⟨hr1, hr2⟩ := hr
  subst hr1
  subst hr2
  rcases Classical.em ((97 ≤ (bytM m (m.1 273 8)) ∧ (bytM m (m.1 273 8)) ≤ 122) ∨ (65 ≤ (bytM m (m.1 273 8)) ∧ (bytM m (m.1 273 8)) ≤ 90)) with hp | hp
  · have hF := hF.1 hp
    refine go_callS mX12_isLetterByte dX12_nextToken_176 lm_X12_123 okX12_isLetterByte isX12_isLetterByte (As := [.int (bytM m (m.1 273 8))]) (S := []) rfl rfl (Nat.le_of_ble_eq_true rfl) (eX12_isLetterByte G _ (bytM m (m.1 273 8)) m (fun r m' => r = 1 ∧ m = m') ⟨fun _ => ⟨rfl, rfl⟩, fun q => absurd hp q⟩) (k_i (fun r m' hr => ?_))
    obtain ⟨hr1, hr2⟩ := hr
    subst hr1
    subst hr2
    refine go_if_eq 310 dX12_nextToken_179 rfl ⟨fun hc => absurd hc (by decide), fun _ => ?_⟩
    refine go_aload_n dX12_nextToken_182 rfl ?_
    refine go_aload_n dX12_nextToken_183 rfl ?_
    refine go_getL (k := 12) dX12_nextToken_184 sh_273 rfl inX12 (Nat.le_of_ble_eq_true rfl) lf_X12_126 rfl ?_
    refine go_bipush (v := 48) dX12_nextToken_187 (by decide) ?_
    refine go_lshr dX12_nextToken_189 ?_
    refine go_lconst (v := 0) dX12_nextToken_190 (by decide) ?_
    refine go_lcmp dX12_nextToken_191 ?_
    refine go_if_eq 201 dX12_nextToken_192 rfl ⟨fun hc => ?_, fun hc => ?_⟩
    · have hF := hF.1 hc
      refine go_aload_n dX12_nextToken_201 rfl ?_
      refine go_getL (k := 12) dX12_nextToken_202 sh_273 rfl inX12 (Nat.le_of_ble_eq_true rfl) lf_X12_126 rfl ?_
      refine go_bipush (v := 8) dX12_nextToken_205 (by decide) ?_
      refine go_lshl dX12_nextToken_207 ?_
      refine go_aload_n dX12_nextToken_208 rfl ?_
      refine go_aload_n dX12_nextToken_209 rfl ?_
      refine go_getI (k := 8) dX12_nextToken_210 sh_273 rfl inX12 (Nat.le_of_ble_eq_true rfl) lf_X12_103 rfl ?_
      obtain ⟨ho, hF⟩ := hF
      refine go_callV mX12_byteAt dX12_nextToken_213 lm_X12_106 okX12_byteAt isX12_byteAt sh_273 rfl (As := [.int (m.1 273 8)]) (S := [.long ((m.2.1 273 12) <<< ((8 : Int32).toInt64 &&& 63)), .ref (ga G 273)]) rfl rfl (Nat.le_of_ble_eq_true rfl) (eX12_byteAt G _ (m.1 273 8) m (fun r m' => r = bytM m (m.1 273 8) ∧ m = m') ho ⟨rfl, rfl⟩) (k_i (fun r m' hr => ?_))
      obtain ⟨hr1, hr2⟩ := hr
      subst hr1
      subst hr2
      refine go_i2l dX12_nextToken_216 ?_
      refine go_lor dX12_nextToken_217 ?_
      refine go_putL (k := 12) dX12_nextToken_218 sh_273 rfl inX12 (Nat.le_of_ble_eq_true rfl) lf_X12_126 tyX12 tyX12_ok nmX12 rfl rfl (by decide +kernel) ?_
      obtain ⟨m36, em36⟩ : ∃ z : Mem, z = wL m 273 12 (((m.2.1 273 12) <<< ((8 : Int32).toInt64 &&& 63)) ||| ((bytM m (m.1 273 8)).toInt64)) := ⟨_, rfl⟩
      rw [← em36]
      have hF := hF m36 em36
      refine go_aload_n dX12_nextToken_221 rfl ?_
      refine go_dup dX12_nextToken_222 rfl ?_
      refine go_getI (k := 8) dX12_nextToken_223 sh_273 rfl inX12 (Nat.le_of_ble_eq_true rfl) lf_X12_103 rfl ?_
      refine go_iconst (v := 1) dX12_nextToken_226 (by decide) ?_
      refine go_iadd dX12_nextToken_227 ?_
      refine go_putI (k := 8) dX12_nextToken_228 sh_273 rfl inX12 (Nat.le_of_ble_eq_true rfl) lf_X12_103 tyX12 tyX12_ok nmX12 rfl rfl (by decide +kernel) ?_
      obtain ⟨m37, em37⟩ : ∃ z : Mem, z = wI m36 273 8 ((m36.1 273 8) + 1) := ⟨_, rfl⟩
      rw [← em37]
      have hF := hF m37 em37
      refine go_goto 168 dX12_nextToken_231 rfl ?_
      exact hF
    · have hF := hF.2 hc
      refine go_ldc2 (v := 1152921504606846976) dX12_nextToken_195 lc_X12_130 ?_
      refine go_goto 218 dX12_nextToken_198 rfl ?_
      refine go_putL (k := 12) dX12_nextToken_218 sh_273 rfl inX12 (Nat.le_of_ble_eq_true rfl) lf_X12_126 tyX12 tyX12_ok nmX12 rfl rfl (by decide +kernel) ?_
      obtain ⟨m38, em38⟩ : ∃ z : Mem, z = wL m 273 12 1152921504606846976 := ⟨_, rfl⟩
      rw [← em38]
      have hF := hF m38 em38
      refine go_aload_n dX12_nextToken_221 rfl ?_
      refine go_dup dX12_nextToken_222 rfl ?_
      refine go_getI (k := 8) dX12_nextToken_223 sh_273 rfl inX12 (Nat.le_of_ble_eq_true rfl) lf_X12_103 rfl ?_
      refine go_iconst (v := 1) dX12_nextToken_226 (by decide) ?_
      refine go_iadd dX12_nextToken_227 ?_
      refine go_putI (k := 8) dX12_nextToken_228 sh_273 rfl inX12 (Nat.le_of_ble_eq_true rfl) lf_X12_103 tyX12 tyX12_ok nmX12 rfl rfl (by decide +kernel) ?_
      obtain ⟨m39, em39⟩ : ∃ z : Mem, z = wI m38 273 8 ((m38.1 273 8) + 1) := ⟨_, rfl⟩
      rw [← em39]
      have hF := hF m39 em39
      refine go_goto 168 dX12_nextToken_231 rfl ?_
      exact hF
  · have hF := hF.2 hp
    refine go_callS mX12_isLetterByte dX12_nextToken_176 lm_X12_123 okX12_isLetterByte isX12_isLetterByte (As := [.int (bytM m (m.1 273 8))]) (S := []) rfl rfl (Nat.le_of_ble_eq_true rfl) (eX12_isLetterByte G _ (bytM m (m.1 273 8)) m (fun r m' => r = 0 ∧ m = m') ⟨fun q => absurd q hp, fun _ => ⟨rfl, rfl⟩⟩) (k_i (fun r m' hr => ?_))
    obtain ⟨hr1, hr2⟩ := hr
    subst hr1
    subst hr2
    refine go_if_eq 310 dX12_nextToken_179 rfl ⟨fun _ => ?_, fun hc => absurd hc (by decide)⟩
    exact go_vret (S := []) dX12_nextToken_310 rfl ⟨rfl, hF⟩
theorem vX12_emit (G : GP) (d : Nat) (a0 : Int32) (a1 : Int32) (m : Mem) (K : Mem → Prop) (hF : vp_in (((m.1 273 13) + 193) + ((2 : Int32) * (m.1 273 14))) 3204 ∧ ∀ m1 : Mem, m1 = wI m 276 (((m.1 273 13) + 193) + ((2 : Int32) * (m.1 273 14))).toNatClampNeg a0 → vp_in ((((m1.1 273 13) + 193) + ((2 : Int32) * (m1.1 273 14))) + 1) 3204 ∧ ∀ m2 : Mem, m2 = wI m1 276 ((((m1.1 273 13) + 193) + ((2 : Int32) * (m1.1 273 14))) + 1).toNatClampNeg a1 → ∀ m3 : Mem, m3 = wI m2 273 14 ((m2.1 273 14) + 1) → K m3) : Evv G (d) mX12_emit [.ref (ga G 273), .int a0, .int a1] m K := by
  refine Ev.go [.ref (ga G 273), .int a0, .int a1] (by decide) (Nat.le_of_ble_eq_true rfl) rfl ?_
  refine go_aload_n dX12_emit_0 rfl ?_
  refine go_getR (k := 2) (r := 276) dX12_emit_1 sh_273 rfl inX12 (Nat.le_of_ble_eq_true rfl) lf_X12_16 rfl rfl ?_
  refine go_aload_n dX12_emit_4 rfl ?_
  refine go_getI (k := 13) dX12_emit_5 sh_273 rfl inX12 (Nat.le_of_ble_eq_true rfl) lf_X12_151 rfl ?_
  refine go_sipush (v := 193) dX12_emit_8 (by decide) ?_
  refine go_iadd dX12_emit_11 ?_
  refine go_iconst (v := 2) dX12_emit_12 (by decide) ?_
  refine go_aload_n dX12_emit_13 rfl ?_
  refine go_getI (k := 14) dX12_emit_14 sh_273 rfl inX12 (Nat.le_of_ble_eq_true rfl) lf_X12_154 rfl ?_
  refine go_imul dX12_emit_17 ?_
  refine go_iadd dX12_emit_18 ?_
  refine go_iload_n dX12_emit_19 rfl ?_
  obtain ⟨hi, hF⟩ := hF
  refine go_iast dX12_emit_20 sh_276 hi ?_
  obtain ⟨m1, em1⟩ : ∃ z : Mem, z = wI m 276 (((m.1 273 13) + 193) + ((2 : Int32) * (m.1 273 14))).toNatClampNeg a0 := ⟨_, rfl⟩
  rw [← em1]
  have hF := hF m1 em1
  refine go_aload_n dX12_emit_21 rfl ?_
  refine go_getR (k := 2) (r := 276) dX12_emit_22 sh_273 rfl inX12 (Nat.le_of_ble_eq_true rfl) lf_X12_16 rfl rfl ?_
  refine go_aload_n dX12_emit_25 rfl ?_
  refine go_getI (k := 13) dX12_emit_26 sh_273 rfl inX12 (Nat.le_of_ble_eq_true rfl) lf_X12_151 rfl ?_
  refine go_sipush (v := 193) dX12_emit_29 (by decide) ?_
  refine go_iadd dX12_emit_32 ?_
  refine go_iconst (v := 2) dX12_emit_33 (by decide) ?_
  refine go_aload_n dX12_emit_34 rfl ?_
  refine go_getI (k := 14) dX12_emit_35 sh_273 rfl inX12 (Nat.le_of_ble_eq_true rfl) lf_X12_154 rfl ?_
  refine go_imul dX12_emit_38 ?_
  refine go_iadd dX12_emit_39 ?_
  refine go_iconst (v := 1) dX12_emit_40 (by decide) ?_
  refine go_iadd dX12_emit_41 ?_
  refine go_iload_n dX12_emit_42 rfl ?_
  obtain ⟨hi, hF⟩ := hF
  refine go_iast dX12_emit_43 sh_276 hi ?_
  obtain ⟨m2, em2⟩ : ∃ z : Mem, z = wI m1 276 ((((m1.1 273 13) + 193) + ((2 : Int32) * (m1.1 273 14))) + 1).toNatClampNeg a1 := ⟨_, rfl⟩
  rw [← em2]
  have hF := hF m2 em2
  refine go_aload_n dX12_emit_44 rfl ?_
  refine go_dup dX12_emit_45 rfl ?_
  refine go_getI (k := 14) dX12_emit_46 sh_273 rfl inX12 (Nat.le_of_ble_eq_true rfl) lf_X12_154 rfl ?_
  refine go_iconst (v := 1) dX12_emit_49 (by decide) ?_
  refine go_iadd dX12_emit_50 ?_
  refine go_putI (k := 14) dX12_emit_51 sh_273 rfl inX12 (Nat.le_of_ble_eq_true rfl) lf_X12_154 tyX12 tyX12_ok nmX12 rfl rfl (by decide +kernel) ?_
  obtain ⟨m3, em3⟩ : ∃ z : Mem, z = wI m2 273 14 ((m2.1 273 14) + 1) := ⟨_, rfl⟩
  rw [← em3]
  have hF := hF m3 em3
  exact go_vret (S := []) dX12_emit_54 rfl ⟨rfl, hF⟩
theorem vX12_isLong (G : GP) (d : Nat) (a0 : Int32) (a1 : Int64) (a2 : Int64) (m : Mem) (K : Int32 → Mem → Prop) (hF : ((¬ (m.1 273 10) = 2) → K 0 m) ∧ (((m.1 273 10) = 2) → ((((m.1 273 8) - (m.1 273 9)) = a0) → (¬ m.1 273 5 ≤ (m.1 273 9) → vp_in (m.1 273 9) 300) ∧ (¬ m.1 273 5 ≤ ((m.1 273 9) + 1) → vp_in ((m.1 273 9) + 1) 300) ∧ (¬ m.1 273 5 ≤ ((m.1 273 9) + 2) → vp_in ((m.1 273 9) + 2) 300) ∧ (¬ m.1 273 5 ≤ ((m.1 273 9) + 3) → vp_in ((m.1 273 9) + 3) 300) ∧ ((¬ (lg_cmp (w4V (bytM m (m.1 273 9)) (bytM m ((m.1 273 9) + 1)) (bytM m ((m.1 273 9) + 2)) (bytM m ((m.1 273 9) + 3))) a1) = 0) → K 0 m) ∧ (((lg_cmp (w4V (bytM m (m.1 273 9)) (bytM m ((m.1 273 9) + 1)) (bytM m ((m.1 273 9) + 2)) (bytM m ((m.1 273 9) + 3))) a1) = 0) → (¬ m.1 273 5 ≤ ((m.1 273 9) + 4) → vp_in ((m.1 273 9) + 4) 300) ∧ (¬ m.1 273 5 ≤ ((m.1 273 9) + 5) → vp_in ((m.1 273 9) + 5) 300) ∧ (¬ m.1 273 5 ≤ ((m.1 273 9) + 6) → vp_in ((m.1 273 9) + 6) 300) ∧ ((¬ (lg_cmp (w3V (bytM m ((m.1 273 9) + 4)) (bytM m ((m.1 273 9) + 5)) (bytM m ((m.1 273 9) + 6))) a2) = 0) → K 0 m) ∧ (((lg_cmp (w3V (bytM m ((m.1 273 9) + 4)) (bytM m ((m.1 273 9) + 5)) (bytM m ((m.1 273 9) + 6))) a2) = 0) → K 1 m))) ∧ ((¬ ((m.1 273 8) - (m.1 273 9)) = a0) → K 0 m))) : Evi G (d + 3) mX12_isLong [.ref (ga G 273), .int a0, .long a1, .long a2] m K := by
  refine Ev.go [.ref (ga G 273), .int a0, .long a1, uu, .long a2, uu] (by decide) (Nat.le_of_ble_eq_true rfl) rfl ?_
  refine go_aload_n dX12_isLong_0 rfl ?_
  refine go_getI (k := 10) dX12_isLong_1 sh_273 rfl inX12 (Nat.le_of_ble_eq_true rfl) lf_X12_113 rfl ?_
  refine go_iconst (v := 2) dX12_isLong_4 (by decide) ?_
  refine go_icmp_ne 21 dX12_isLong_5 rfl ⟨fun hc => ?_, fun hc => ?_⟩
  · have hF := hF.1 hc
    refine go_iconst (v := 0) dX12_isLong_21 (by decide) ?_
    exact go_zret (S := []) dX12_isLong_22 rfl (by decide) ⟨_, rfl, hF⟩
  · have hF := hF.2 hc
    refine go_aload_n dX12_isLong_8 rfl ?_
    refine go_getI (k := 8) dX12_isLong_9 sh_273 rfl inX12 (Nat.le_of_ble_eq_true rfl) lf_X12_103 rfl ?_
    refine go_aload_n dX12_isLong_12 rfl ?_
    refine go_getI (k := 9) dX12_isLong_13 sh_273 rfl inX12 (Nat.le_of_ble_eq_true rfl) lf_X12_110 rfl ?_
    refine go_isub dX12_isLong_16 ?_
    refine go_iload_n dX12_isLong_17 rfl ?_
    refine go_icmp_eq 23 dX12_isLong_18 rfl ⟨fun hc => ?_, fun hc => ?_⟩
    · have hF := hF.1 hc
      refine go_aload_n dX12_isLong_23 rfl ?_
      refine go_aload_n dX12_isLong_24 rfl ?_
      refine go_getI (k := 9) dX12_isLong_25 sh_273 rfl inX12 (Nat.le_of_ble_eq_true rfl) lf_X12_110 rfl ?_
      obtain ⟨ho, hF⟩ := hF
      refine go_callV mX12_byteAt dX12_isLong_28 lm_X12_106 okX12_byteAt isX12_byteAt sh_273 rfl (As := [.int (m.1 273 9)]) (S := []) rfl rfl (Nat.le_of_ble_eq_true rfl) (eX12_byteAt G _ (m.1 273 9) m (fun r m' => r = bytM m (m.1 273 9) ∧ m = m') ho ⟨rfl, rfl⟩) (k_i (fun r m' hr => ?_))
      obtain ⟨hr1, hr2⟩ := hr
      subst hr1
      subst hr2
      refine go_aload_n dX12_isLong_31 rfl ?_
      refine go_aload_n dX12_isLong_32 rfl ?_
      refine go_getI (k := 9) dX12_isLong_33 sh_273 rfl inX12 (Nat.le_of_ble_eq_true rfl) lf_X12_110 rfl ?_
      refine go_iconst (v := 1) dX12_isLong_36 (by decide) ?_
      refine go_iadd dX12_isLong_37 ?_
      obtain ⟨ho, hF⟩ := hF
      refine go_callV mX12_byteAt dX12_isLong_38 lm_X12_106 okX12_byteAt isX12_byteAt sh_273 rfl (As := [.int ((m.1 273 9) + 1)]) (S := [.int (bytM m (m.1 273 9))]) rfl rfl (Nat.le_of_ble_eq_true rfl) (eX12_byteAt G _ ((m.1 273 9) + 1) m (fun r m' => r = bytM m ((m.1 273 9) + 1) ∧ m = m') ho ⟨rfl, rfl⟩) (k_i (fun r m' hr => ?_))
      obtain ⟨hr1, hr2⟩ := hr
      subst hr1
      subst hr2
      refine go_aload_n dX12_isLong_41 rfl ?_
      refine go_aload_n dX12_isLong_42 rfl ?_
      refine go_getI (k := 9) dX12_isLong_43 sh_273 rfl inX12 (Nat.le_of_ble_eq_true rfl) lf_X12_110 rfl ?_
      refine go_iconst (v := 2) dX12_isLong_46 (by decide) ?_
      refine go_iadd dX12_isLong_47 ?_
      obtain ⟨ho, hF⟩ := hF
      refine go_callV mX12_byteAt dX12_isLong_48 lm_X12_106 okX12_byteAt isX12_byteAt sh_273 rfl (As := [.int ((m.1 273 9) + 2)]) (S := [.int (bytM m ((m.1 273 9) + 1)), .int (bytM m (m.1 273 9))]) rfl rfl (Nat.le_of_ble_eq_true rfl) (eX12_byteAt G _ ((m.1 273 9) + 2) m (fun r m' => r = bytM m ((m.1 273 9) + 2) ∧ m = m') ho ⟨rfl, rfl⟩) (k_i (fun r m' hr => ?_))
      obtain ⟨hr1, hr2⟩ := hr
      subst hr1
      subst hr2
      refine go_aload_n dX12_isLong_51 rfl ?_
      refine go_aload_n dX12_isLong_52 rfl ?_
      refine go_getI (k := 9) dX12_isLong_53 sh_273 rfl inX12 (Nat.le_of_ble_eq_true rfl) lf_X12_110 rfl ?_
      refine go_iconst (v := 3) dX12_isLong_56 (by decide) ?_
      refine go_iadd dX12_isLong_57 ?_
      obtain ⟨ho, hF⟩ := hF
      refine go_callV mX12_byteAt dX12_isLong_58 lm_X12_106 okX12_byteAt isX12_byteAt sh_273 rfl (As := [.int ((m.1 273 9) + 3)]) (S := [.int (bytM m ((m.1 273 9) + 2)), .int (bytM m ((m.1 273 9) + 1)), .int (bytM m (m.1 273 9))]) rfl rfl (Nat.le_of_ble_eq_true rfl) (eX12_byteAt G _ ((m.1 273 9) + 3) m (fun r m' => r = bytM m ((m.1 273 9) + 3) ∧ m = m') ho ⟨rfl, rfl⟩) (k_i (fun r m' hr => ?_))
      obtain ⟨hr1, hr2⟩ := hr
      subst hr1
      subst hr2
      refine go_callS mX12_w4 dX12_isLong_61 lm_X12_143 okX12_w4 isX12_w4 (As := [.int (bytM m (m.1 273 9)), .int (bytM m ((m.1 273 9) + 1)), .int (bytM m ((m.1 273 9) + 2)), .int (bytM m ((m.1 273 9) + 3))]) (S := []) rfl rfl (Nat.le_of_ble_eq_true rfl) (eX12_w4 G _ (bytM m (m.1 273 9)) (bytM m ((m.1 273 9) + 1)) (bytM m ((m.1 273 9) + 2)) (bytM m ((m.1 273 9) + 3)) m (fun r m' => r = w4V (bytM m (m.1 273 9)) (bytM m ((m.1 273 9) + 1)) (bytM m ((m.1 273 9) + 2)) (bytM m ((m.1 273 9) + 3)) ∧ m = m') ⟨rfl, rfl⟩) (k_l (fun r m' hr => ?_))
      obtain ⟨hr1, hr2⟩ := hr
      subst hr1
      subst hr2
      refine go_lload_n dX12_isLong_64 rfl ?_
      refine go_lcmp dX12_isLong_65 ?_
      refine go_if_ne 113 dX12_isLong_66 rfl ⟨fun hc => ?_, fun hc => ?_⟩
      · have hF := hF.1 hc
        refine go_iconst (v := 0) dX12_isLong_113 (by decide) ?_
        exact go_zret (S := []) dX12_isLong_114 rfl (by decide) ⟨_, rfl, hF⟩
      · have hF := hF.2 hc
        refine go_aload_n dX12_isLong_69 rfl ?_
        refine go_aload_n dX12_isLong_70 rfl ?_
        refine go_getI (k := 9) dX12_isLong_71 sh_273 rfl inX12 (Nat.le_of_ble_eq_true rfl) lf_X12_110 rfl ?_
        refine go_iconst (v := 4) dX12_isLong_74 (by decide) ?_
        refine go_iadd dX12_isLong_75 ?_
        obtain ⟨ho, hF⟩ := hF
        refine go_callV mX12_byteAt dX12_isLong_76 lm_X12_106 okX12_byteAt isX12_byteAt sh_273 rfl (As := [.int ((m.1 273 9) + 4)]) (S := []) rfl rfl (Nat.le_of_ble_eq_true rfl) (eX12_byteAt G _ ((m.1 273 9) + 4) m (fun r m' => r = bytM m ((m.1 273 9) + 4) ∧ m = m') ho ⟨rfl, rfl⟩) (k_i (fun r m' hr => ?_))
        obtain ⟨hr1, hr2⟩ := hr
        subst hr1
        subst hr2
        refine go_aload_n dX12_isLong_79 rfl ?_
        refine go_aload_n dX12_isLong_80 rfl ?_
        refine go_getI (k := 9) dX12_isLong_81 sh_273 rfl inX12 (Nat.le_of_ble_eq_true rfl) lf_X12_110 rfl ?_
        refine go_iconst (v := 5) dX12_isLong_84 (by decide) ?_
        refine go_iadd dX12_isLong_85 ?_
        obtain ⟨ho, hF⟩ := hF
        refine go_callV mX12_byteAt dX12_isLong_86 lm_X12_106 okX12_byteAt isX12_byteAt sh_273 rfl (As := [.int ((m.1 273 9) + 5)]) (S := [.int (bytM m ((m.1 273 9) + 4))]) rfl rfl (Nat.le_of_ble_eq_true rfl) (eX12_byteAt G _ ((m.1 273 9) + 5) m (fun r m' => r = bytM m ((m.1 273 9) + 5) ∧ m = m') ho ⟨rfl, rfl⟩) (k_i (fun r m' hr => ?_))
        obtain ⟨hr1, hr2⟩ := hr
        subst hr1
        subst hr2
        refine go_aload_n dX12_isLong_89 rfl ?_
        refine go_aload_n dX12_isLong_90 rfl ?_
        refine go_getI (k := 9) dX12_isLong_91 sh_273 rfl inX12 (Nat.le_of_ble_eq_true rfl) lf_X12_110 rfl ?_
        refine go_bipush (v := 6) dX12_isLong_94 (by decide) ?_
        refine go_iadd dX12_isLong_96 ?_
        obtain ⟨ho, hF⟩ := hF
        refine go_callV mX12_byteAt dX12_isLong_97 lm_X12_106 okX12_byteAt isX12_byteAt sh_273 rfl (As := [.int ((m.1 273 9) + 6)]) (S := [.int (bytM m ((m.1 273 9) + 5)), .int (bytM m ((m.1 273 9) + 4))]) rfl rfl (Nat.le_of_ble_eq_true rfl) (eX12_byteAt G _ ((m.1 273 9) + 6) m (fun r m' => r = bytM m ((m.1 273 9) + 6) ∧ m = m') ho ⟨rfl, rfl⟩) (k_i (fun r m' hr => ?_))
        obtain ⟨hr1, hr2⟩ := hr
        subst hr1
        subst hr2
        refine go_callS mX12_w3 dX12_isLong_100 lm_X12_139 okX12_w3 isX12_w3 (As := [.int (bytM m ((m.1 273 9) + 4)), .int (bytM m ((m.1 273 9) + 5)), .int (bytM m ((m.1 273 9) + 6))]) (S := []) rfl rfl (Nat.le_of_ble_eq_true rfl) (eX12_w3 G _ (bytM m ((m.1 273 9) + 4)) (bytM m ((m.1 273 9) + 5)) (bytM m ((m.1 273 9) + 6)) m (fun r m' => r = w3V (bytM m ((m.1 273 9) + 4)) (bytM m ((m.1 273 9) + 5)) (bytM m ((m.1 273 9) + 6)) ∧ m = m') ⟨rfl, rfl⟩) (k_l (fun r m' hr => ?_))
        obtain ⟨hr1, hr2⟩ := hr
        subst hr1
        subst hr2
        refine go_lload dX12_isLong_103 rfl ?_
        refine go_lcmp dX12_isLong_105 ?_
        refine go_if_ne 113 dX12_isLong_106 rfl ⟨fun hc => ?_, fun hc => ?_⟩
        · have hF := hF.1 hc
          refine go_iconst (v := 0) dX12_isLong_113 (by decide) ?_
          exact go_zret (S := []) dX12_isLong_114 rfl (by decide) ⟨_, rfl, hF⟩
        · have hF := hF.2 hc
          refine go_iconst (v := 1) dX12_isLong_109 (by decide) ?_
          refine go_goto 114 dX12_isLong_110 rfl ?_
          exact go_zret (S := []) dX12_isLong_114 rfl (by decide) ⟨_, rfl, hF⟩
    · have hF := hF.2 hc
      refine go_iconst (v := 0) dX12_isLong_21 (by decide) ?_
      exact go_zret (S := []) dX12_isLong_22 rfl (by decide) ⟨_, rfl, hF⟩
theorem vX12_isStrokes (G : GP) (d : Nat)  (m : Mem) (K : Int32 → Mem → Prop) (hF : Evi G (d + 3) mX12_isLong [.ref (ga G 273), .int 7, .long (w4V 115 116 114 111), .long (w3V 107 101 115)] m (fun r2 m1 => (r2 = 0 ∨ r2 = 1) ∧ K r2 m1)) : Evi G (d + 4) mX12_isStrokes [.ref (ga G 273)] m K := by
  refine Ev.go [.ref (ga G 273)] (by decide) (Nat.le_of_ble_eq_true rfl) rfl ?_
  refine go_aload_n dX12_isStrokes_0 rfl ?_
  refine go_bipush (v := 7) dX12_isStrokes_1 (by decide) ?_
  refine go_bipush (v := 115) dX12_isStrokes_3 (by decide) ?_
  refine go_bipush (v := 116) dX12_isStrokes_5 (by decide) ?_
  refine go_bipush (v := 114) dX12_isStrokes_7 (by decide) ?_
  refine go_bipush (v := 111) dX12_isStrokes_9 (by decide) ?_
  refine go_callS mX12_w4 dX12_isStrokes_11 lm_X12_143 okX12_w4 isX12_w4 (As := [.int 115, .int 116, .int 114, .int 111]) (S := [.int 7, .ref (ga G 273)]) rfl rfl (Nat.le_of_ble_eq_true rfl) (eX12_w4 G _ 115 116 114 111 m (fun r m' => r = w4V 115 116 114 111 ∧ m = m') ⟨rfl, rfl⟩) (k_l (fun r m' hr => ?_))
  obtain ⟨hr1, hr2⟩ := hr
  subst hr1
  subst hr2
  refine go_bipush (v := 107) dX12_isStrokes_14 (by decide) ?_
  refine go_bipush (v := 101) dX12_isStrokes_16 (by decide) ?_
  refine go_bipush (v := 115) dX12_isStrokes_18 (by decide) ?_
  refine go_callS mX12_w3 dX12_isStrokes_20 lm_X12_139 okX12_w3 isX12_w3 (As := [.int 107, .int 101, .int 115]) (S := [.long (w4V 115 116 114 111), .int 7, .ref (ga G 273)]) rfl rfl (Nat.le_of_ble_eq_true rfl) (eX12_w3 G _ 107 101 115 m (fun r m' => r = w3V 107 101 115 ∧ m = m') ⟨rfl, rfl⟩) (k_l (fun r m' hr => ?_))
  obtain ⟨hr1, hr2⟩ := hr
  subst hr1
  subst hr2
  refine go_callV mX12_isLong dX12_isStrokes_23 lm_X12_157 okX12_isLong isX12_isLong sh_273 rfl (As := [.int 7, .long (w4V 115 116 114 111), .long (w3V 107 101 115)]) (S := []) rfl rfl (Nat.le_of_ble_eq_true rfl) hF (k_i (fun r2 m1 hF => ?_))
  exact go_zret (S := []) dX12_isStrokes_26 rfl hF.1 ⟨_, rfl, hF.2⟩
