theorem vX12_nearest (G : GP) (d : Nat)  (m : Mem) (K : Int32 → Mem → Prop) (hF : Evi G (d + 2) mX12_layHeard [.ref (ga G 273)] m (fun r2 m1 => Gw G (d + 3) mX12_nearest 7 [.ref (ga G 273), .int r2, .int 0, uu, uu, uu] [] m1 (Qi K))) : Evi G (d + 3) mX12_nearest [.ref (ga G 273)] m K := by
  refine Ev.go [.ref (ga G 273), uu, uu, uu, uu, uu] (by decide) (Nat.le_of_ble_eq_true rfl) rfl ?_
  refine go_aload_n dX12_nearest_0 rfl ?_
  refine go_callV mX12_layHeard dX12_nearest_1 lm_X12_353 okX12_layHeard isX12_layHeard sh_273 rfl (As := []) (S := []) rfl rfl (Nat.le_of_ble_eq_true rfl) hF (k_i (fun r2 m1 hF => ?_))
  refine go_istore_n (L' := [.ref (ga G 273), .int r2, uu, uu, uu, uu]) dX12_nearest_4 (Nat.le_of_ble_eq_true rfl) rfl ?_
  refine go_iconst (v := 0) dX12_nearest_5 (by decide) ?_
  refine go_istore_n (L' := [.ref (ga G 273), .int r2, .int 0, uu, uu, uu]) dX12_nearest_6 (Nat.le_of_ble_eq_true rfl) rfl ?_
  exact hF
theorem vX12_nearest_7 (G : GP) (d : Nat) (l1 : Int32) (l2 : Int32) (u3 : Value) (u4 : Value) (u5 : Value) (m : Mem) (K : Int32 → Mem → Prop) (hF : ((l1 ≤ l2) → Gw G (d + 3) mX12_nearest 39 [.ref (ga G 273), .int l1, .int 1000000000, .int 0, .int 0, uu] [] m (Qi K)) ∧ ((¬ l1 ≤ l2) → vp_in l2 24 ∧ vp_in l2 24 ∧ ∀ m3 : Mem, m3 = wI m 288 l2.toNatClampNeg (m.1 283 l2.toNatClampNeg) → ∀ x4 : Int32, x4 = l2 + 1 → Gw G (d + 3) mX12_nearest 7 [.ref (ga G 273), .int l1, .int x4, uu, uu, uu] [] m3 (Qi K))) : Gw G (d + 3) mX12_nearest 7 [.ref (ga G 273), .int l1, .int l2, u3, u4, u5] [] m (Qi K) := by
  refine Gw.weak (L' := [.ref (ga G 273), .int l1, .int l2, uu, uu, uu]) ⟨Or.inl rfl, Or.inl rfl, Or.inl rfl, Or.inr rfl, Or.inr rfl, Or.inr rfl, trivial⟩ ?_
  refine go_iload_n dX12_nearest_7 rfl ?_
  refine go_iload_n dX12_nearest_8 rfl ?_
  refine go_icmp_ge 30 dX12_nearest_9 rfl ⟨fun hc => ?_, fun hc => ?_⟩
  · have hF := hF.1 hc
    refine go_ldcw (v := 1000000000) dX12_nearest_30 lc_X12_448 ?_
    refine go_istore_n (L' := [.ref (ga G 273), .int l1, .int 1000000000, uu, uu, uu]) dX12_nearest_33 (Nat.le_of_ble_eq_true rfl) rfl ?_
    refine go_iconst (v := 0) dX12_nearest_34 (by decide) ?_
    refine go_istore_n (L' := [.ref (ga G 273), .int l1, .int 1000000000, .int 0, uu, uu]) dX12_nearest_35 (Nat.le_of_ble_eq_true rfl) rfl ?_
    refine go_iconst (v := 0) dX12_nearest_36 (by decide) ?_
    refine go_istore (L' := [.ref (ga G 273), .int l1, .int 1000000000, .int 0, .int 0, uu]) dX12_nearest_37 (Nat.le_of_ble_eq_true rfl) rfl ?_
    exact hF
  · have hF := hF.2 hc
    refine go_aload_n dX12_nearest_12 rfl ?_
    refine go_getR (k := 29) (r := 288) dX12_nearest_13 sh_273 rfl inX12 (Nat.le_of_ble_eq_true rfl) lf_X12_61 rfl rfl ?_
    refine go_iload_n dX12_nearest_16 rfl ?_
    refine go_aload_n dX12_nearest_17 rfl ?_
    refine go_getR (k := 24) (r := 283) dX12_nearest_18 sh_273 rfl inX12 (Nat.le_of_ble_eq_true rfl) lf_X12_46 rfl rfl ?_
    refine go_iload_n dX12_nearest_21 rfl ?_
    obtain ⟨hi, hF⟩ := hF
    refine go_iald dX12_nearest_22 sh_283 hi ?_
    obtain ⟨hi, hF⟩ := hF
    refine go_iast dX12_nearest_23 sh_288 hi ?_
    obtain ⟨m3, em3⟩ : ∃ z : Mem, z = wI m 288 l2.toNatClampNeg (m.1 283 l2.toNatClampNeg) := ⟨_, rfl⟩
    rw [← em3]
    have hF := hF m3 em3
    obtain ⟨x4, ex4⟩ : ∃ z : Int32, z = l2 + 1 := ⟨_, rfl⟩
    have hF := hF x4 ex4
    refine go_iinc (v := x4) (L' := [.ref (ga G 273), .int l1, .int x4, uu, uu, uu]) dX12_nearest_24 rfl (by rw [ex4]; rfl) (Nat.le_of_ble_eq_true rfl) rfl ?_
    refine go_goto 7 dX12_nearest_27 rfl ?_
    exact hF
theorem vX12_nearest_39 (G : GP) (d : Nat) (l1 : Int32) (l2 : Int32) (l3 : Int32) (l4 : Int32) (u5 : Value) (m : Mem) (K : Int32 → Mem → Prop) (hF : (((m.1 274 1) ≤ l4) → K l3 m) ∧ ((¬ (m.1 274 1) ≤ l4) → Evi G (d + 2) mX12_layWord [.ref (ga G 273), .int l4, .ref (ga G 287)] m (fun r6 m5 => Evi G (d + 2) mX12_farOf [.ref (ga G 273), .int r6, .int l1] m5 (fun r8 m7 => ((l2 ≤ r8) → ((l2 ≤ r8) → ((¬ r8 = l2) → ∀ x9 : Int32, x9 = l3 ||| 0 → ∀ x10 : Int32, x10 = l4 + 1 → Gw G (d + 3) mX12_nearest 39 [.ref (ga G 273), .int l1, .int l2, .int x9, .int x10, .int r8] [] m7 (Qi K)) ∧ ((r8 = l2) → ∀ x11 : Int32, x11 = l3 ||| ((1 : Int32) <<< (l4 &&& 31)) → ∀ x12 : Int32, x12 = l4 + 1 → Gw G (d + 3) mX12_nearest 39 [.ref (ga G 273), .int l1, .int l2, .int x11, .int x12, .int r8] [] m7 (Qi K))) ∧ ((¬ l2 ≤ r8) → ((¬ r8 = r8) → ∀ x13 : Int32, x13 = l3 ||| 0 → ∀ x14 : Int32, x14 = l4 + 1 → Gw G (d + 3) mX12_nearest 39 [.ref (ga G 273), .int l1, .int r8, .int x13, .int x14, .int r8] [] m7 (Qi K)) ∧ ((r8 = r8) → ∀ x15 : Int32, x15 = l3 ||| ((1 : Int32) <<< (l4 &&& 31)) → ∀ x16 : Int32, x16 = l4 + 1 → Gw G (d + 3) mX12_nearest 39 [.ref (ga G 273), .int l1, .int r8, .int x15, .int x16, .int r8] [] m7 (Qi K)))) ∧ ((¬ l2 ≤ r8) → ((l2 ≤ r8) → ((¬ r8 = l2) → ∀ x17 : Int32, x17 = (0 : Int32) ||| 0 → ∀ x18 : Int32, x18 = l4 + 1 → Gw G (d + 3) mX12_nearest 39 [.ref (ga G 273), .int l1, .int l2, .int x17, .int x18, .int r8] [] m7 (Qi K)) ∧ ((r8 = l2) → ∀ x19 : Int32, x19 = (0 : Int32) ||| ((1 : Int32) <<< (l4 &&& 31)) → ∀ x20 : Int32, x20 = l4 + 1 → Gw G (d + 3) mX12_nearest 39 [.ref (ga G 273), .int l1, .int l2, .int x19, .int x20, .int r8] [] m7 (Qi K))) ∧ ((¬ l2 ≤ r8) → ((¬ r8 = r8) → ∀ x21 : Int32, x21 = (0 : Int32) ||| 0 → ∀ x22 : Int32, x22 = l4 + 1 → Gw G (d + 3) mX12_nearest 39 [.ref (ga G 273), .int l1, .int r8, .int x21, .int x22, .int r8] [] m7 (Qi K)) ∧ ((r8 = r8) → ∀ x23 : Int32, x23 = (0 : Int32) ||| ((1 : Int32) <<< (l4 &&& 31)) → ∀ x24 : Int32, x24 = l4 + 1 → Gw G (d + 3) mX12_nearest 39 [.ref (ga G 273), .int l1, .int r8, .int x23, .int x24, .int r8] [] m7 (Qi K)))))))) : Gw G (d + 3) mX12_nearest 39 [.ref (ga G 273), .int l1, .int l2, .int l3, .int l4, u5] [] m (Qi K) := by
  refine Gw.weak (L' := [.ref (ga G 273), .int l1, .int l2, .int l3, .int l4, uu]) ⟨Or.inl rfl, Or.inl rfl, Or.inl rfl, Or.inl rfl, Or.inl rfl, Or.inr rfl, trivial⟩ ?_
  refine go_iload dX12_nearest_39 rfl ?_
  refine go_aload_n dX12_nearest_41 rfl ?_
  refine go_getR (k := 0) (r := 274) dX12_nearest_42 sh_273 rfl inX12 (Nat.le_of_ble_eq_true rfl) lf_X12_7 rfl rfl ?_
  refine go_iconst (v := 1) dX12_nearest_45 (by decide) ?_
  refine go_ialdK (k := 1) dX12_nearest_46 sh_274 (vp_in_dec (by decide)) (by decide) ?_
  refine go_icmp_ge 111 dX12_nearest_47 rfl ⟨fun hc => ?_, fun hc => ?_⟩
  · have hF := hF.1 hc
    refine go_iload_n dX12_nearest_111 rfl ?_
    exact go_iret (S := []) dX12_nearest_112 rfl ⟨_, rfl, hF⟩
  · have hF := hF.2 hc
    refine go_aload_n dX12_nearest_50 rfl ?_
    refine go_aload_n dX12_nearest_51 rfl ?_
    refine go_iload dX12_nearest_52 rfl ?_
    refine go_aload_n dX12_nearest_54 rfl ?_
    refine go_getR (k := 28) (r := 287) dX12_nearest_55 sh_273 rfl inX12 (Nat.le_of_ble_eq_true rfl) lf_X12_58 rfl rfl ?_
    refine go_callV mX12_layWord dX12_nearest_58 lm_X12_435 okX12_layWord isX12_layWord sh_273 rfl (As := [.int l4, .ref (ga G 287)]) (S := [.ref (ga G 273)]) rfl rfl (Nat.le_of_ble_eq_true rfl) hF (k_i (fun r6 m5 hF => ?_))
    refine go_iload_n dX12_nearest_61 rfl ?_
    refine go_callV mX12_farOf dX12_nearest_62 lm_X12_439 okX12_farOf isX12_farOf sh_273 rfl (As := [.int r6, .int l1]) (S := []) rfl rfl (Nat.le_of_ble_eq_true rfl) hF (k_i (fun r8 m7 hF => ?_))
    refine go_istore (L' := [.ref (ga G 273), .int l1, .int l2, .int l3, .int l4, .int r8]) dX12_nearest_65 (Nat.le_of_ble_eq_true rfl) rfl ?_
    refine go_iload dX12_nearest_67 rfl ?_
    refine go_iload_n dX12_nearest_69 rfl ?_
    refine go_icmp_ge 75 dX12_nearest_70 rfl ⟨fun hc => ?_, fun hc => ?_⟩
    · have hF := hF.1 hc
      refine go_iload dX12_nearest_75 rfl ?_
      refine go_iload_n dX12_nearest_77 rfl ?_
      refine go_icmp_ge 86 dX12_nearest_78 rfl ⟨fun hc => ?_, fun hc => ?_⟩
      · have hF := hF.1 hc
        refine go_iload_n dX12_nearest_86 rfl ?_
        refine go_istore_n (L' := [.ref (ga G 273), .int l1, .int l2, .int l3, .int l4, .int r8]) dX12_nearest_87 (Nat.le_of_ble_eq_true rfl) rfl ?_
        refine go_iload_n dX12_nearest_88 rfl ?_
        refine go_iload dX12_nearest_89 rfl ?_
        refine go_iload_n dX12_nearest_91 rfl ?_
        refine go_icmp_ne 102 dX12_nearest_92 rfl ⟨fun hc => ?_, fun hc => ?_⟩
        · have hF := hF.1 hc
          refine go_iconst (v := 0) dX12_nearest_102 (by decide) ?_
          refine go_ior dX12_nearest_103 ?_
          refine Gw.namei (fun x9 ex9 => ?_)
          have hF := hF x9 ex9
          refine go_istore_n (L' := [.ref (ga G 273), .int l1, .int l2, .int x9, .int l4, .int r8]) dX12_nearest_104 (Nat.le_of_ble_eq_true rfl) rfl ?_
          obtain ⟨x10, ex10⟩ : ∃ z : Int32, z = l4 + 1 := ⟨_, rfl⟩
          have hF := hF x10 ex10
          refine go_iinc (v := x10) (L' := [.ref (ga G 273), .int l1, .int l2, .int x9, .int x10, .int r8]) dX12_nearest_105 rfl (by rw [ex10]; rfl) (Nat.le_of_ble_eq_true rfl) rfl ?_
          refine go_goto 39 dX12_nearest_108 rfl ?_
          exact hF
        · have hF := hF.2 hc
          refine go_iconst (v := 1) dX12_nearest_95 (by decide) ?_
          refine go_iload dX12_nearest_96 rfl ?_
          refine go_ishl dX12_nearest_98 ?_
          refine go_goto 103 dX12_nearest_99 rfl ?_
          refine go_ior dX12_nearest_103 ?_
          refine Gw.namei (fun x11 ex11 => ?_)
          have hF := hF x11 ex11
          refine go_istore_n (L' := [.ref (ga G 273), .int l1, .int l2, .int x11, .int l4, .int r8]) dX12_nearest_104 (Nat.le_of_ble_eq_true rfl) rfl ?_
          obtain ⟨x12, ex12⟩ : ∃ z : Int32, z = l4 + 1 := ⟨_, rfl⟩
          have hF := hF x12 ex12
          refine go_iinc (v := x12) (L' := [.ref (ga G 273), .int l1, .int l2, .int x11, .int x12, .int r8]) dX12_nearest_105 rfl (by rw [ex12]; rfl) (Nat.le_of_ble_eq_true rfl) rfl ?_
          refine go_goto 39 dX12_nearest_108 rfl ?_
          exact hF
      · have hF := hF.2 hc
        refine go_iload dX12_nearest_81 rfl ?_
        refine go_goto 87 dX12_nearest_83 rfl ?_
        refine go_istore_n (L' := [.ref (ga G 273), .int l1, .int r8, .int l3, .int l4, .int r8]) dX12_nearest_87 (Nat.le_of_ble_eq_true rfl) rfl ?_
        refine go_iload_n dX12_nearest_88 rfl ?_
        refine go_iload dX12_nearest_89 rfl ?_
        refine go_iload_n dX12_nearest_91 rfl ?_
        refine go_icmp_ne 102 dX12_nearest_92 rfl ⟨fun hc => ?_, fun hc => ?_⟩
        · have hF := hF.1 hc
          refine go_iconst (v := 0) dX12_nearest_102 (by decide) ?_
          refine go_ior dX12_nearest_103 ?_
          refine Gw.namei (fun x13 ex13 => ?_)
          have hF := hF x13 ex13
          refine go_istore_n (L' := [.ref (ga G 273), .int l1, .int r8, .int x13, .int l4, .int r8]) dX12_nearest_104 (Nat.le_of_ble_eq_true rfl) rfl ?_
          obtain ⟨x14, ex14⟩ : ∃ z : Int32, z = l4 + 1 := ⟨_, rfl⟩
          have hF := hF x14 ex14
          refine go_iinc (v := x14) (L' := [.ref (ga G 273), .int l1, .int r8, .int x13, .int x14, .int r8]) dX12_nearest_105 rfl (by rw [ex14]; rfl) (Nat.le_of_ble_eq_true rfl) rfl ?_
          refine go_goto 39 dX12_nearest_108 rfl ?_
          exact hF
        · have hF := hF.2 hc
          refine go_iconst (v := 1) dX12_nearest_95 (by decide) ?_
          refine go_iload dX12_nearest_96 rfl ?_
          refine go_ishl dX12_nearest_98 ?_
          refine go_goto 103 dX12_nearest_99 rfl ?_
          refine go_ior dX12_nearest_103 ?_
          refine Gw.namei (fun x15 ex15 => ?_)
          have hF := hF x15 ex15
          refine go_istore_n (L' := [.ref (ga G 273), .int l1, .int r8, .int x15, .int l4, .int r8]) dX12_nearest_104 (Nat.le_of_ble_eq_true rfl) rfl ?_
          obtain ⟨x16, ex16⟩ : ∃ z : Int32, z = l4 + 1 := ⟨_, rfl⟩
          have hF := hF x16 ex16
          refine go_iinc (v := x16) (L' := [.ref (ga G 273), .int l1, .int r8, .int x15, .int x16, .int r8]) dX12_nearest_105 rfl (by rw [ex16]; rfl) (Nat.le_of_ble_eq_true rfl) rfl ?_
          refine go_goto 39 dX12_nearest_108 rfl ?_
          exact hF
    · have hF := hF.2 hc
      refine go_iconst (v := 0) dX12_nearest_73 (by decide) ?_
      refine go_istore_n (L' := [.ref (ga G 273), .int l1, .int l2, .int 0, .int l4, .int r8]) dX12_nearest_74 (Nat.le_of_ble_eq_true rfl) rfl ?_
      refine go_iload dX12_nearest_75 rfl ?_
      refine go_iload_n dX12_nearest_77 rfl ?_
      refine go_icmp_ge 86 dX12_nearest_78 rfl ⟨fun hc => ?_, fun hc => ?_⟩
      · have hF := hF.1 hc
        refine go_iload_n dX12_nearest_86 rfl ?_
        refine go_istore_n (L' := [.ref (ga G 273), .int l1, .int l2, .int 0, .int l4, .int r8]) dX12_nearest_87 (Nat.le_of_ble_eq_true rfl) rfl ?_
        refine go_iload_n dX12_nearest_88 rfl ?_
        refine go_iload dX12_nearest_89 rfl ?_
        refine go_iload_n dX12_nearest_91 rfl ?_
        refine go_icmp_ne 102 dX12_nearest_92 rfl ⟨fun hc => ?_, fun hc => ?_⟩
        · have hF := hF.1 hc
          refine go_iconst (v := 0) dX12_nearest_102 (by decide) ?_
          refine go_ior dX12_nearest_103 ?_
          refine Gw.namei (fun x17 ex17 => ?_)
          have hF := hF x17 ex17
          refine go_istore_n (L' := [.ref (ga G 273), .int l1, .int l2, .int x17, .int l4, .int r8]) dX12_nearest_104 (Nat.le_of_ble_eq_true rfl) rfl ?_
          obtain ⟨x18, ex18⟩ : ∃ z : Int32, z = l4 + 1 := ⟨_, rfl⟩
          have hF := hF x18 ex18
          refine go_iinc (v := x18) (L' := [.ref (ga G 273), .int l1, .int l2, .int x17, .int x18, .int r8]) dX12_nearest_105 rfl (by rw [ex18]; rfl) (Nat.le_of_ble_eq_true rfl) rfl ?_
          refine go_goto 39 dX12_nearest_108 rfl ?_
          exact hF
        · have hF := hF.2 hc
          refine go_iconst (v := 1) dX12_nearest_95 (by decide) ?_
          refine go_iload dX12_nearest_96 rfl ?_
          refine go_ishl dX12_nearest_98 ?_
          refine go_goto 103 dX12_nearest_99 rfl ?_
          refine go_ior dX12_nearest_103 ?_
          refine Gw.namei (fun x19 ex19 => ?_)
          have hF := hF x19 ex19
          refine go_istore_n (L' := [.ref (ga G 273), .int l1, .int l2, .int x19, .int l4, .int r8]) dX12_nearest_104 (Nat.le_of_ble_eq_true rfl) rfl ?_
          obtain ⟨x20, ex20⟩ : ∃ z : Int32, z = l4 + 1 := ⟨_, rfl⟩
          have hF := hF x20 ex20
          refine go_iinc (v := x20) (L' := [.ref (ga G 273), .int l1, .int l2, .int x19, .int x20, .int r8]) dX12_nearest_105 rfl (by rw [ex20]; rfl) (Nat.le_of_ble_eq_true rfl) rfl ?_
          refine go_goto 39 dX12_nearest_108 rfl ?_
          exact hF
      · have hF := hF.2 hc
        refine go_iload dX12_nearest_81 rfl ?_
        refine go_goto 87 dX12_nearest_83 rfl ?_
        refine go_istore_n (L' := [.ref (ga G 273), .int l1, .int r8, .int 0, .int l4, .int r8]) dX12_nearest_87 (Nat.le_of_ble_eq_true rfl) rfl ?_
        refine go_iload_n dX12_nearest_88 rfl ?_
        refine go_iload dX12_nearest_89 rfl ?_
        refine go_iload_n dX12_nearest_91 rfl ?_
        refine go_icmp_ne 102 dX12_nearest_92 rfl ⟨fun hc => ?_, fun hc => ?_⟩
        · have hF := hF.1 hc
          refine go_iconst (v := 0) dX12_nearest_102 (by decide) ?_
          refine go_ior dX12_nearest_103 ?_
          refine Gw.namei (fun x21 ex21 => ?_)
          have hF := hF x21 ex21
          refine go_istore_n (L' := [.ref (ga G 273), .int l1, .int r8, .int x21, .int l4, .int r8]) dX12_nearest_104 (Nat.le_of_ble_eq_true rfl) rfl ?_
          obtain ⟨x22, ex22⟩ : ∃ z : Int32, z = l4 + 1 := ⟨_, rfl⟩
          have hF := hF x22 ex22
          refine go_iinc (v := x22) (L' := [.ref (ga G 273), .int l1, .int r8, .int x21, .int x22, .int r8]) dX12_nearest_105 rfl (by rw [ex22]; rfl) (Nat.le_of_ble_eq_true rfl) rfl ?_
          refine go_goto 39 dX12_nearest_108 rfl ?_
          exact hF
        · have hF := hF.2 hc
          refine go_iconst (v := 1) dX12_nearest_95 (by decide) ?_
          refine go_iload dX12_nearest_96 rfl ?_
          refine go_ishl dX12_nearest_98 ?_
          refine go_goto 103 dX12_nearest_99 rfl ?_
          refine go_ior dX12_nearest_103 ?_
          refine Gw.namei (fun x23 ex23 => ?_)
          have hF := hF x23 ex23
          refine go_istore_n (L' := [.ref (ga G 273), .int l1, .int r8, .int x23, .int l4, .int r8]) dX12_nearest_104 (Nat.le_of_ble_eq_true rfl) rfl ?_
          obtain ⟨x24, ex24⟩ : ∃ z : Int32, z = l4 + 1 := ⟨_, rfl⟩
          have hF := hF x24 ex24
          refine go_iinc (v := x24) (L' := [.ref (ga G 273), .int l1, .int r8, .int x23, .int x24, .int r8]) dX12_nearest_105 rfl (by rw [ex24]; rfl) (Nat.le_of_ble_eq_true rfl) rfl ?_
          refine go_goto 39 dX12_nearest_108 rfl ?_
          exact hF
theorem vX12_hears (G : GP) (d : Nat) (a0 : Int32) (a1 : Int32) (m : Mem) (K : Int32 → Mem → Prop) (hF : ((0 ≤ a0 ∧ a0 ≤ m.1 274 1 - 1) → ((0 ≤ a1 ∧ a1 ≤ m.1 274 1 - 1) → vp_in (((34 : Int32) + ((9 : Int32) * a0)) + 8) 5968 ∧ ∀ m1 : Mem, m1 = wI m 274 (((34 : Int32) + ((9 : Int32) * a0)) + 8).toNatClampNeg a1 → K 1 m1) ∧ (¬ (0 ≤ a1 ∧ a1 ≤ m.1 274 1 - 1) → K 0 m)) ∧ (¬ (0 ≤ a0 ∧ a0 ≤ m.1 274 1 - 1) → K 0 m)) : Evi G (d + 2) mX12_hears [.ref (ga G 273), .int a0, .int a1] m K := by
  refine Ev.go [.ref (ga G 273), .int a0, .int a1] (by decide) (Nat.le_of_ble_eq_true rfl) rfl ?_
  refine go_aload_n dX12_hears_0 rfl ?_
  refine go_iload_n dX12_hears_1 rfl ?_
  rcases Classical.em (0 ≤ a0 ∧ a0 ≤ m.1 274 1 - 1) with hp | hp
  · have hF := hF.1 hp
    refine go_callV mX12_isWord0 dX12_hears_2 lm_X12_326 okX12_isWord0 isX12_isWord0 sh_273 rfl (As := [.int a0]) (S := []) rfl rfl (Nat.le_of_ble_eq_true rfl) (eX12_isWord0 G _ a0 m (fun r m' => r = 1 ∧ m = m') ⟨fun _ => ⟨rfl, rfl⟩, fun q => absurd hp q⟩) (k_i (fun r m' hr => ?_))
    obtain ⟨hr1, hr2⟩ := hr
    subst hr1
    subst hr2
    refine go_if_eq 16 dX12_hears_5 rfl ⟨fun hc => absurd hc (by decide), fun _ => ?_⟩
    refine go_aload_n dX12_hears_8 rfl ?_
    refine go_iload_n dX12_hears_9 rfl ?_
    rcases Classical.em (0 ≤ a1 ∧ a1 ≤ m.1 274 1 - 1) with hp | hp
    · have hF := hF.1 hp
      refine go_callV mX12_isWord0 dX12_hears_10 lm_X12_326 okX12_isWord0 isX12_isWord0 sh_273 rfl (As := [.int a1]) (S := []) rfl rfl (Nat.le_of_ble_eq_true rfl) (eX12_isWord0 G _ a1 m (fun r m' => r = 1 ∧ m = m') ⟨fun _ => ⟨rfl, rfl⟩, fun q => absurd hp q⟩) (k_i (fun r m' hr => ?_))
      obtain ⟨hr1, hr2⟩ := hr
      subst hr1
      subst hr2
      refine go_if_ne 18 dX12_hears_13 rfl ⟨fun _ => ?_, fun hc => absurd hc (by decide)⟩
      refine go_aload_n dX12_hears_18 rfl ?_
      refine go_getR (k := 0) (r := 274) dX12_hears_19 sh_273 rfl inX12 (Nat.le_of_ble_eq_true rfl) lf_X12_7 rfl rfl ?_
      refine go_bipush (v := 34) dX12_hears_22 (by decide) ?_
      refine go_bipush (v := 9) dX12_hears_24 (by decide) ?_
      refine go_iload_n dX12_hears_26 rfl ?_
      refine go_imul dX12_hears_27 ?_
      refine go_iadd dX12_hears_28 ?_
      refine go_bipush (v := 8) dX12_hears_29 (by decide) ?_
      refine go_iadd dX12_hears_31 ?_
      refine go_iload_n dX12_hears_32 rfl ?_
      obtain ⟨hi, hF⟩ := hF
      refine go_iast dX12_hears_33 sh_274 hi ?_
      obtain ⟨m1, em1⟩ : ∃ z : Mem, z = wI m 274 (((34 : Int32) + ((9 : Int32) * a0)) + 8).toNatClampNeg a1 := ⟨_, rfl⟩
      rw [← em1]
      have hF := hF m1 em1
      refine go_iconst (v := 1) dX12_hears_34 (by decide) ?_
      exact go_zret (S := []) dX12_hears_35 rfl (by decide) ⟨_, rfl, hF⟩
    · have hF := hF.2 hp
      refine go_callV mX12_isWord0 dX12_hears_10 lm_X12_326 okX12_isWord0 isX12_isWord0 sh_273 rfl (As := [.int a1]) (S := []) rfl rfl (Nat.le_of_ble_eq_true rfl) (eX12_isWord0 G _ a1 m (fun r m' => r = 0 ∧ m = m') ⟨fun q => absurd q hp, fun _ => ⟨rfl, rfl⟩⟩) (k_i (fun r m' hr => ?_))
      obtain ⟨hr1, hr2⟩ := hr
      subst hr1
      subst hr2
      refine go_if_ne 18 dX12_hears_13 rfl ⟨fun hc => absurd hc (by decide), fun _ => ?_⟩
      refine go_iconst (v := 0) dX12_hears_16 (by decide) ?_
      exact go_zret (S := []) dX12_hears_17 rfl (by decide) ⟨_, rfl, hF⟩
  · have hF := hF.2 hp
    refine go_callV mX12_isWord0 dX12_hears_2 lm_X12_326 okX12_isWord0 isX12_isWord0 sh_273 rfl (As := [.int a0]) (S := []) rfl rfl (Nat.le_of_ble_eq_true rfl) (eX12_isWord0 G _ a0 m (fun r m' => r = 0 ∧ m = m') ⟨fun q => absurd q hp, fun _ => ⟨rfl, rfl⟩⟩) (k_i (fun r m' hr => ?_))
    obtain ⟨hr1, hr2⟩ := hr
    subst hr1
    subst hr2
    refine go_if_eq 16 dX12_hears_5 rfl ⟨fun _ => ?_, fun hc => absurd hc (by decide)⟩
    refine go_iconst (v := 0) dX12_hears_16 (by decide) ?_
    exact go_zret (S := []) dX12_hears_17 rfl (by decide) ⟨_, rfl, hF⟩
theorem vX12_settles (G : GP) (d : Nat) (a0 : Int32) (a1 : Int32) (m : Mem) (K : Int32 → Mem → Prop) (hF : ((0 ≤ a0 ∧ a0 ≤ m.1 274 1 - 1) → ((0 ≤ a1 ∧ a1 ≤ 2) → Gw G (d + 2) mX12_settles 21 [.ref (ga G 273), .int a0, .int a1, .int 0, uu, uu] [] m (Qi K)) ∧ (¬ (0 ≤ a1 ∧ a1 ≤ 2) → K (-1) m)) ∧ (¬ (0 ≤ a0 ∧ a0 ≤ m.1 274 1 - 1) → K (-1) m)) : Evi G (d + 2) mX12_settles [.ref (ga G 273), .int a0, .int a1] m K := by
  refine Ev.go [.ref (ga G 273), .int a0, .int a1, uu, uu, uu] (by decide) (Nat.le_of_ble_eq_true rfl) rfl ?_
  refine go_aload_n dX12_settles_0 rfl ?_
  refine go_iload_n dX12_settles_1 rfl ?_
  rcases Classical.em (0 ≤ a0 ∧ a0 ≤ m.1 274 1 - 1) with hp | hp
  · have hF := hF.1 hp
    refine go_callV mX12_isWord0 dX12_settles_2 lm_X12_326 okX12_isWord0 isX12_isWord0 sh_273 rfl (As := [.int a0]) (S := []) rfl rfl (Nat.le_of_ble_eq_true rfl) (eX12_isWord0 G _ a0 m (fun r m' => r = 1 ∧ m = m') ⟨fun _ => ⟨rfl, rfl⟩, fun q => absurd hp q⟩) (k_i (fun r m' hr => ?_))
    obtain ⟨hr1, hr2⟩ := hr
    subst hr1
    subst hr2
    refine go_if_eq 17 dX12_settles_5 rfl ⟨fun hc => absurd hc (by decide), fun _ => ?_⟩
    refine go_iload_n dX12_settles_8 rfl ?_
    refine go_iconst (v := 0) dX12_settles_9 (by decide) ?_
    refine go_iconst (v := 2) dX12_settles_10 (by decide) ?_
    rcases Classical.em (0 ≤ a1 ∧ a1 ≤ 2) with hp | hp
    · have hF := hF.1 hp
      refine go_callS mX12_isIn dX12_settles_11 lm_X12_80 okX12_isIn isX12_isIn (As := [.int a1, .int 0, .int 2]) (S := []) rfl rfl (Nat.le_of_ble_eq_true rfl) (eX12_isIn G _ a1 0 2 m (fun r m' => r = 1 ∧ m = m') ⟨fun _ => ⟨rfl, rfl⟩, fun q => absurd hp q⟩) (k_i (fun r m' hr => ?_))
      obtain ⟨hr1, hr2⟩ := hr
      subst hr1
      subst hr2
      refine go_if_ne 19 dX12_settles_14 rfl ⟨fun _ => ?_, fun hc => absurd hc (by decide)⟩
      refine go_iconst (v := 0) dX12_settles_19 (by decide) ?_
      refine go_istore_n (L' := [.ref (ga G 273), .int a0, .int a1, .int 0, uu, uu]) dX12_settles_20 (Nat.le_of_ble_eq_true rfl) rfl ?_
      exact hF
    · have hF := hF.2 hp
      refine go_callS mX12_isIn dX12_settles_11 lm_X12_80 okX12_isIn isX12_isIn (As := [.int a1, .int 0, .int 2]) (S := []) rfl rfl (Nat.le_of_ble_eq_true rfl) (eX12_isIn G _ a1 0 2 m (fun r m' => r = 0 ∧ m = m') ⟨fun q => absurd q hp, fun _ => ⟨rfl, rfl⟩⟩) (k_i (fun r m' hr => ?_))
      obtain ⟨hr1, hr2⟩ := hr
      subst hr1
      subst hr2
      refine go_if_ne 19 dX12_settles_14 rfl ⟨fun hc => absurd hc (by decide), fun _ => ?_⟩
      refine go_iconst (v := -1) dX12_settles_17 (by decide) ?_
      exact go_iret (S := []) dX12_settles_18 rfl ⟨_, rfl, hF⟩
  · have hF := hF.2 hp
    refine go_callV mX12_isWord0 dX12_settles_2 lm_X12_326 okX12_isWord0 isX12_isWord0 sh_273 rfl (As := [.int a0]) (S := []) rfl rfl (Nat.le_of_ble_eq_true rfl) (eX12_isWord0 G _ a0 m (fun r m' => r = 0 ∧ m = m') ⟨fun q => absurd q hp, fun _ => ⟨rfl, rfl⟩⟩) (k_i (fun r m' hr => ?_))
    obtain ⟨hr1, hr2⟩ := hr
    subst hr1
    subst hr2
    refine go_if_eq 17 dX12_settles_5 rfl ⟨fun _ => ?_, fun hc => absurd hc (by decide)⟩
    refine go_iconst (v := -1) dX12_settles_17 (by decide) ?_
    exact go_iret (S := []) dX12_settles_18 rfl ⟨_, rfl, hF⟩
theorem vX12_settles_21 (G : GP) (d : Nat) (l1 : Int32) (l2 : Int32) (l3 : Int32) (u4 : Value) (u5 : Value) (m : Mem) (K : Int32 → Mem → Prop) (hF : ((10 ≤ l3) → Gw G (d + 2) mX12_settles 45 [.ref (ga G 273), .int l1, .int l2, .int 0, .int l1, uu] [] m (Qi K)) ∧ ((¬ 10 ≤ l3) → vp_in l3 10 ∧ ∀ m1 : Mem, m1 = wI m 290 l3.toNatClampNeg (-1) → ∀ x2 : Int32, x2 = l3 + 1 → Gw G (d + 2) mX12_settles 21 [.ref (ga G 273), .int l1, .int l2, .int x2, uu, uu] [] m1 (Qi K))) : Gw G (d + 2) mX12_settles 21 [.ref (ga G 273), .int l1, .int l2, .int l3, u4, u5] [] m (Qi K) := by
  refine Gw.weak (L' := [.ref (ga G 273), .int l1, .int l2, .int l3, uu, uu]) ⟨Or.inl rfl, Or.inl rfl, Or.inl rfl, Or.inl rfl, Or.inr rfl, Or.inr rfl, trivial⟩ ?_
  refine go_iload_n dX12_settles_21 rfl ?_
  refine go_bipush (v := 10) dX12_settles_22 (by decide) ?_
  refine go_icmp_ge 40 dX12_settles_24 rfl ⟨fun hc => ?_, fun hc => ?_⟩
  · have hF := hF.1 hc
    refine go_iconst (v := 0) dX12_settles_40 (by decide) ?_
    refine go_istore_n (L' := [.ref (ga G 273), .int l1, .int l2, .int 0, uu, uu]) dX12_settles_41 (Nat.le_of_ble_eq_true rfl) rfl ?_
    refine go_iload_n dX12_settles_42 rfl ?_
    refine go_istore (L' := [.ref (ga G 273), .int l1, .int l2, .int 0, .int l1, uu]) dX12_settles_43 (Nat.le_of_ble_eq_true rfl) rfl ?_
    exact hF
  · have hF := hF.2 hc
    refine go_aload_n dX12_settles_27 rfl ?_
    refine go_getR (k := 31) (r := 290) dX12_settles_28 sh_273 rfl inX12 (Nat.le_of_ble_eq_true rfl) lf_X12_67 rfl rfl ?_
    refine go_iload_n dX12_settles_31 rfl ?_
    refine go_iconst (v := -1) dX12_settles_32 (by decide) ?_
    obtain ⟨hi, hF⟩ := hF
    refine go_iast dX12_settles_33 sh_290 hi ?_
    obtain ⟨m1, em1⟩ : ∃ z : Mem, z = wI m 290 l3.toNatClampNeg (-1) := ⟨_, rfl⟩
    rw [← em1]
    have hF := hF m1 em1
    obtain ⟨x2, ex2⟩ : ∃ z : Int32, z = l3 + 1 := ⟨_, rfl⟩
    have hF := hF x2 ex2
    refine go_iinc (v := x2) (L' := [.ref (ga G 273), .int l1, .int l2, .int x2, uu, uu]) dX12_settles_34 rfl (by rw [ex2]; rfl) (Nat.le_of_ble_eq_true rfl) rfl ?_
    refine go_goto 21 dX12_settles_37 rfl ?_
    exact hF
theorem vX12_settles_45 (G : GP) (d : Nat) (u1 : Value) (l2 : Int32) (l3 : Int32) (l4 : Int32) (u5 : Value) (m : Mem) (K : Int32 → Mem → Prop) (hF : vp_in l4 10 ∧ ((¬ (m.1 290 l4.toNatClampNeg) = (-1)) → ((2 ≤ l2) → Gw G (d + 2) mX12_settles 106 [.ref (ga G 273), uu, .int l2, .int l3, .int l4, .int 0] [] m (Qi K)) ∧ ((¬ 2 ≤ l2) → ((¬ l2 = 0) → vp_in l4 10 ∧ K (l3 - (m.1 290 l4.toNatClampNeg)) m) ∧ ((l2 = 0) → K l3 m))) ∧ (((m.1 290 l4.toNatClampNeg) = (-1)) → vp_in l4 10 ∧ ∀ m3 : Mem, m3 = wI m 290 l4.toNatClampNeg l3 → ∀ x4 : Int32, x4 = l3 + 1 → vp_in (((34 : Int32) + (9 : Int32) * l4) + 8) 5968 ∧ ∀ x5 : Int32, x5 = m3.1 274 (((34 : Int32) + (9 : Int32) * l4) + 8).toNatClampNeg → Gw G (d + 2) mX12_settles 45 [.ref (ga G 273), uu, .int l2, .int x4, .int x5, uu] [] m3 (Qi K))) : Gw G (d + 2) mX12_settles 45 [.ref (ga G 273), u1, .int l2, .int l3, .int l4, u5] [] m (Qi K) := by
  refine Gw.weak (L' := [.ref (ga G 273), uu, .int l2, .int l3, .int l4, uu]) ⟨Or.inl rfl, Or.inr rfl, Or.inl rfl, Or.inl rfl, Or.inl rfl, Or.inr rfl, trivial⟩ ?_
  refine go_aload_n dX12_settles_45 rfl ?_
  refine go_getR (k := 31) (r := 290) dX12_settles_46 sh_273 rfl inX12 (Nat.le_of_ble_eq_true rfl) lf_X12_67 rfl rfl ?_
  refine go_iload dX12_settles_49 rfl ?_
  obtain ⟨hi, hF⟩ := hF
  refine go_iald dX12_settles_51 sh_290 hi ?_
  refine go_iconst (v := -1) dX12_settles_52 (by decide) ?_
  refine go_icmp_ne 80 dX12_settles_53 rfl ⟨fun hc => ?_, fun hc => ?_⟩
  · have hF := hF.1 hc
    refine go_iload_n dX12_settles_80 rfl ?_
    refine go_iconst (v := 2) dX12_settles_81 (by decide) ?_
    refine go_icmp_ge 103 dX12_settles_82 rfl ⟨fun hc => ?_, fun hc => ?_⟩
    · have hF := hF.1 hc
      refine go_iconst (v := 0) dX12_settles_103 (by decide) ?_
      refine go_istore (L' := [.ref (ga G 273), uu, .int l2, .int l3, .int l4, .int 0]) dX12_settles_104 (Nat.le_of_ble_eq_true rfl) rfl ?_
      exact hF
    · have hF := hF.2 hc
      refine go_iload_n dX12_settles_85 rfl ?_
      refine go_if_ne 93 dX12_settles_86 rfl ⟨fun hc => ?_, fun hc => ?_⟩
      · have hF := hF.1 hc
        refine go_iload_n dX12_settles_93 rfl ?_
        refine go_aload_n dX12_settles_94 rfl ?_
        refine go_getR (k := 31) (r := 290) dX12_settles_95 sh_273 rfl inX12 (Nat.le_of_ble_eq_true rfl) lf_X12_67 rfl rfl ?_
        refine go_iload dX12_settles_98 rfl ?_
        obtain ⟨hi, hF⟩ := hF
        refine go_iald dX12_settles_100 sh_290 hi ?_
        refine go_isub dX12_settles_101 ?_
        exact go_iret (S := []) dX12_settles_102 rfl ⟨_, rfl, hF⟩
      · have hF := hF.2 hc
        refine go_iload_n dX12_settles_89 rfl ?_
        refine go_goto 102 dX12_settles_90 rfl ?_
        exact go_iret (S := []) dX12_settles_102 rfl ⟨_, rfl, hF⟩
  · have hF := hF.2 hc
    refine go_aload_n dX12_settles_56 rfl ?_
    refine go_getR (k := 31) (r := 290) dX12_settles_57 sh_273 rfl inX12 (Nat.le_of_ble_eq_true rfl) lf_X12_67 rfl rfl ?_
    refine go_iload dX12_settles_60 rfl ?_
    refine go_iload_n dX12_settles_62 rfl ?_
    obtain ⟨hi, hF⟩ := hF
    refine go_iast dX12_settles_63 sh_290 hi ?_
    obtain ⟨m3, em3⟩ : ∃ z : Mem, z = wI m 290 l4.toNatClampNeg l3 := ⟨_, rfl⟩
    rw [← em3]
    have hF := hF m3 em3
    obtain ⟨x4, ex4⟩ : ∃ z : Int32, z = l3 + 1 := ⟨_, rfl⟩
    have hF := hF x4 ex4
    refine go_iinc (v := x4) (L' := [.ref (ga G 273), uu, .int l2, .int x4, .int l4, uu]) dX12_settles_64 rfl (by rw [ex4]; rfl) (Nat.le_of_ble_eq_true rfl) rfl ?_
    refine go_aload_n dX12_settles_67 rfl ?_
    refine go_iload dX12_settles_68 rfl ?_
    refine go_bipush (v := 8) dX12_settles_70 (by decide) ?_
    obtain ⟨ho, hF⟩ := hF
    refine go_callV mX12_of dX12_settles_72 lm_X12_84 okX12_of isX12_of sh_273 rfl (As := [.int l4, .int 8]) (S := []) rfl rfl (Nat.le_of_ble_eq_true rfl) (eX12_of G _ l4 8 m3 (fun r m' => r = m3.1 274 (((34 : Int32) + (9 : Int32) * l4) + 8).toNatClampNeg ∧ m3 = m') ho ⟨rfl, rfl⟩) (k_i (fun r m' hr => ?_))
    obtain ⟨hr1, hr2⟩ := hr
    subst hr1
    subst hr2
    refine Gw.namei (fun x5 ex5 => ?_)
    have hF := hF x5 ex5
    refine go_istore (L' := [.ref (ga G 273), uu, .int l2, .int x4, .int x5, uu]) dX12_settles_75 (Nat.le_of_ble_eq_true rfl) rfl ?_
    refine go_goto 45 dX12_settles_77 rfl ?_
    exact hF
theorem vX12_settles_106 (G : GP) (d : Nat) (u1 : Value) (u2 : Value) (u3 : Value) (l4 : Int32) (l5 : Int32) (m : Mem) (K : Int32 → Mem → Prop) (hF : vp_in l5 10 ∧ vp_in l4 10 ∧ (((m.1 290 l4.toNatClampNeg) ≤ (m.1 290 l5.toNatClampNeg)) → K l5 m) ∧ ((¬ (m.1 290 l4.toNatClampNeg) ≤ (m.1 290 l5.toNatClampNeg)) → ∀ x6 : Int32, x6 = l5 + 1 → Gw G (d + 2) mX12_settles 106 [.ref (ga G 273), uu, uu, uu, .int l4, .int x6] [] m (Qi K))) : Gw G (d + 2) mX12_settles 106 [.ref (ga G 273), u1, u2, u3, .int l4, .int l5] [] m (Qi K) := by
  refine Gw.weak (L' := [.ref (ga G 273), uu, uu, uu, .int l4, .int l5]) ⟨Or.inl rfl, Or.inr rfl, Or.inr rfl, Or.inr rfl, Or.inl rfl, Or.inl rfl, trivial⟩ ?_
  refine go_aload_n dX12_settles_106 rfl ?_
  refine go_getR (k := 31) (r := 290) dX12_settles_107 sh_273 rfl inX12 (Nat.le_of_ble_eq_true rfl) lf_X12_67 rfl rfl ?_
  refine go_iload dX12_settles_110 rfl ?_
  obtain ⟨hi, hF⟩ := hF
  refine go_iald dX12_settles_112 sh_290 hi ?_
  refine go_aload_n dX12_settles_113 rfl ?_
  refine go_getR (k := 31) (r := 290) dX12_settles_114 sh_273 rfl inX12 (Nat.le_of_ble_eq_true rfl) lf_X12_67 rfl rfl ?_
  refine go_iload dX12_settles_117 rfl ?_
  obtain ⟨hi, hF⟩ := hF
  refine go_iald dX12_settles_119 sh_290 hi ?_
  refine go_icmp_ge 129 dX12_settles_120 rfl ⟨fun hc => ?_, fun hc => ?_⟩
  · have hF := hF.1 hc
    refine go_iload dX12_settles_129 rfl ?_
    exact go_iret (S := []) dX12_settles_131 rfl ⟨_, rfl, hF⟩
  · have hF := hF.2 hc
    obtain ⟨x6, ex6⟩ : ∃ z : Int32, z = l5 + 1 := ⟨_, rfl⟩
    have hF := hF x6 ex6
    refine go_iinc (v := x6) (L' := [.ref (ga G 273), uu, uu, uu, .int l4, .int x6]) dX12_settles_123 rfl (by rw [ex6]; rfl) (Nat.le_of_ble_eq_true rfl) rfl ?_
    refine go_goto 106 dX12_settles_126 rfl ?_
    exact hF
theorem vX12_line (G : GP) (d : Nat) (a0 : Int32) (a1 : Int32) (m : Mem) (K : Int32 → Mem → Prop) (hF : ((¬ a0 = (-1)) → ((0 ≤ a0 ∧ a0 ≤ m.1 274 1 - 1) → ((0 ≤ a1 ∧ a1 ≤ m.1 274 1 - 1) → ((¬ (m.1 274 5) = 8) → vp_in ((124 : Int32) + ((2 : Int32) * (m.1 274 5))) 5968 ∧ ∀ m1 : Mem, m1 = wI m 274 ((124 : Int32) + ((2 : Int32) * (m.1 274 5))).toNatClampNeg a0 → vp_in (((124 : Int32) + ((2 : Int32) * (m1.1 274 5))) + 1) 5968 ∧ ∀ m2 : Mem, m2 = wI m1 274 (((124 : Int32) + ((2 : Int32) * (m1.1 274 5))) + 1).toNatClampNeg a1 → ∀ m3 : Mem, m3 = wI m2 274 5 ((m2.1 274 5) + 1) → K (m3.1 274 5) m3) ∧ (((m.1 274 5) = 8) → K (-2) m)) ∧ (¬ (0 ≤ a1 ∧ a1 ≤ m.1 274 1 - 1) → K (-2) m)) ∧ (¬ (0 ≤ a0 ∧ a0 ≤ m.1 274 1 - 1) → K (-2) m)) ∧ ((a0 = (-1)) → ∀ m4 : Mem, m4 = wI m 274 5 0 → K 0 m4)) : Evi G (d + 2) mX12_line [.ref (ga G 273), .int a0, .int a1] m K := by
  refine Ev.go [.ref (ga G 273), .int a0, .int a1] (by decide) (Nat.le_of_ble_eq_true rfl) rfl ?_
  refine go_iload_n dX12_line_0 rfl ?_
  refine go_iconst (v := -1) dX12_line_1 (by decide) ?_
  refine go_icmp_ne 14 dX12_line_2 rfl ⟨fun hc => ?_, fun hc => ?_⟩
  · have hF := hF.1 hc
    refine go_aload_n dX12_line_14 rfl ?_
    refine go_iload_n dX12_line_15 rfl ?_
    rcases Classical.em (0 ≤ a0 ∧ a0 ≤ m.1 274 1 - 1) with hp | hp
    · have hF := hF.1 hp
      refine go_callV mX12_isWord0 dX12_line_16 lm_X12_326 okX12_isWord0 isX12_isWord0 sh_273 rfl (As := [.int a0]) (S := []) rfl rfl (Nat.le_of_ble_eq_true rfl) (eX12_isWord0 G _ a0 m (fun r m' => r = 1 ∧ m = m') ⟨fun _ => ⟨rfl, rfl⟩, fun q => absurd hp q⟩) (k_i (fun r m' hr => ?_))
      obtain ⟨hr1, hr2⟩ := hr
      subst hr1
      subst hr2
      refine go_if_eq 41 dX12_line_19 rfl ⟨fun hc => absurd hc (by decide), fun _ => ?_⟩
      refine go_aload_n dX12_line_22 rfl ?_
      refine go_iload_n dX12_line_23 rfl ?_
      rcases Classical.em (0 ≤ a1 ∧ a1 ≤ m.1 274 1 - 1) with hp | hp
      · have hF := hF.1 hp
        refine go_callV mX12_isWord0 dX12_line_24 lm_X12_326 okX12_isWord0 isX12_isWord0 sh_273 rfl (As := [.int a1]) (S := []) rfl rfl (Nat.le_of_ble_eq_true rfl) (eX12_isWord0 G _ a1 m (fun r m' => r = 1 ∧ m = m') ⟨fun _ => ⟨rfl, rfl⟩, fun q => absurd hp q⟩) (k_i (fun r m' hr => ?_))
        obtain ⟨hr1, hr2⟩ := hr
        subst hr1
        subst hr2
        refine go_if_eq 41 dX12_line_27 rfl ⟨fun hc => absurd hc (by decide), fun _ => ?_⟩
        refine go_aload_n dX12_line_30 rfl ?_
        refine go_getR (k := 0) (r := 274) dX12_line_31 sh_273 rfl inX12 (Nat.le_of_ble_eq_true rfl) lf_X12_7 rfl rfl ?_
        refine go_iconst (v := 5) dX12_line_34 (by decide) ?_
        refine go_ialdK (k := 5) dX12_line_35 sh_274 (vp_in_dec (by decide)) (by decide) ?_
        refine go_bipush (v := 8) dX12_line_36 (by decide) ?_
        refine go_icmp_ne 44 dX12_line_38 rfl ⟨fun hc => ?_, fun hc => ?_⟩
        · have hF := hF.1 hc
          refine go_aload_n dX12_line_44 rfl ?_
          refine go_getR (k := 0) (r := 274) dX12_line_45 sh_273 rfl inX12 (Nat.le_of_ble_eq_true rfl) lf_X12_7 rfl rfl ?_
          refine go_bipush (v := 124) dX12_line_48 (by decide) ?_
          refine go_iconst (v := 2) dX12_line_50 (by decide) ?_
          refine go_aload_n dX12_line_51 rfl ?_
          refine go_getR (k := 0) (r := 274) dX12_line_52 sh_273 rfl inX12 (Nat.le_of_ble_eq_true rfl) lf_X12_7 rfl rfl ?_
          refine go_iconst (v := 5) dX12_line_55 (by decide) ?_
          refine go_ialdK (k := 5) dX12_line_56 sh_274 (vp_in_dec (by decide)) (by decide) ?_
          refine go_imul dX12_line_57 ?_
          refine go_iadd dX12_line_58 ?_
          refine go_iload_n dX12_line_59 rfl ?_
          obtain ⟨hi, hF⟩ := hF
          refine go_iast dX12_line_60 sh_274 hi ?_
          obtain ⟨m1, em1⟩ : ∃ z : Mem, z = wI m 274 ((124 : Int32) + ((2 : Int32) * (m.1 274 5))).toNatClampNeg a0 := ⟨_, rfl⟩
          rw [← em1]
          have hF := hF m1 em1
          refine go_aload_n dX12_line_61 rfl ?_
          refine go_getR (k := 0) (r := 274) dX12_line_62 sh_273 rfl inX12 (Nat.le_of_ble_eq_true rfl) lf_X12_7 rfl rfl ?_
          refine go_bipush (v := 124) dX12_line_65 (by decide) ?_
          refine go_iconst (v := 2) dX12_line_67 (by decide) ?_
          refine go_aload_n dX12_line_68 rfl ?_
          refine go_getR (k := 0) (r := 274) dX12_line_69 sh_273 rfl inX12 (Nat.le_of_ble_eq_true rfl) lf_X12_7 rfl rfl ?_
          refine go_iconst (v := 5) dX12_line_72 (by decide) ?_
          refine go_ialdK (k := 5) dX12_line_73 sh_274 (vp_in_dec (by decide)) (by decide) ?_
          refine go_imul dX12_line_74 ?_
          refine go_iadd dX12_line_75 ?_
          refine go_iconst (v := 1) dX12_line_76 (by decide) ?_
          refine go_iadd dX12_line_77 ?_
          refine go_iload_n dX12_line_78 rfl ?_
          obtain ⟨hi, hF⟩ := hF
          refine go_iast dX12_line_79 sh_274 hi ?_
          obtain ⟨m2, em2⟩ : ∃ z : Mem, z = wI m1 274 (((124 : Int32) + ((2 : Int32) * (m1.1 274 5))) + 1).toNatClampNeg a1 := ⟨_, rfl⟩
          rw [← em2]
          have hF := hF m2 em2
          refine go_aload_n dX12_line_80 rfl ?_
          refine go_getR (k := 0) (r := 274) dX12_line_81 sh_273 rfl inX12 (Nat.le_of_ble_eq_true rfl) lf_X12_7 rfl rfl ?_
          refine go_iconst (v := 5) dX12_line_84 (by decide) ?_
          refine go_dup2 dX12_line_85 rfl rfl ?_
          refine go_ialdK (k := 5) dX12_line_86 sh_274 (vp_in_dec (by decide)) (by decide) ?_
          refine go_iconst (v := 1) dX12_line_87 (by decide) ?_
          refine go_iadd dX12_line_88 ?_
          refine go_iastK (k := 5) dX12_line_89 sh_274 (vp_in_dec (by decide)) (by decide) ?_
          obtain ⟨m3, em3⟩ : ∃ z : Mem, z = wI m2 274 5 ((m2.1 274 5) + 1) := ⟨_, rfl⟩
          rw [← em3]
          have hF := hF m3 em3
          refine go_aload_n dX12_line_90 rfl ?_
          refine go_getR (k := 0) (r := 274) dX12_line_91 sh_273 rfl inX12 (Nat.le_of_ble_eq_true rfl) lf_X12_7 rfl rfl ?_
          refine go_iconst (v := 5) dX12_line_94 (by decide) ?_
          refine go_ialdK (k := 5) dX12_line_95 sh_274 (vp_in_dec (by decide)) (by decide) ?_
          exact go_iret (S := []) dX12_line_96 rfl ⟨_, rfl, hF⟩
        · have hF := hF.2 hc
          refine go_bipush (v := -2) dX12_line_41 (by decide) ?_
          exact go_iret (S := []) dX12_line_43 rfl ⟨_, rfl, hF⟩
      · have hF := hF.2 hp
        refine go_callV mX12_isWord0 dX12_line_24 lm_X12_326 okX12_isWord0 isX12_isWord0 sh_273 rfl (As := [.int a1]) (S := []) rfl rfl (Nat.le_of_ble_eq_true rfl) (eX12_isWord0 G _ a1 m (fun r m' => r = 0 ∧ m = m') ⟨fun q => absurd q hp, fun _ => ⟨rfl, rfl⟩⟩) (k_i (fun r m' hr => ?_))
        obtain ⟨hr1, hr2⟩ := hr
        subst hr1
        subst hr2
        refine go_if_eq 41 dX12_line_27 rfl ⟨fun _ => ?_, fun hc => absurd hc (by decide)⟩
        refine go_bipush (v := -2) dX12_line_41 (by decide) ?_
        exact go_iret (S := []) dX12_line_43 rfl ⟨_, rfl, hF⟩
    · have hF := hF.2 hp
      refine go_callV mX12_isWord0 dX12_line_16 lm_X12_326 okX12_isWord0 isX12_isWord0 sh_273 rfl (As := [.int a0]) (S := []) rfl rfl (Nat.le_of_ble_eq_true rfl) (eX12_isWord0 G _ a0 m (fun r m' => r = 0 ∧ m = m') ⟨fun q => absurd q hp, fun _ => ⟨rfl, rfl⟩⟩) (k_i (fun r m' hr => ?_))
      obtain ⟨hr1, hr2⟩ := hr
      subst hr1
      subst hr2
      refine go_if_eq 41 dX12_line_19 rfl ⟨fun _ => ?_, fun hc => absurd hc (by decide)⟩
      refine go_bipush (v := -2) dX12_line_41 (by decide) ?_
      exact go_iret (S := []) dX12_line_43 rfl ⟨_, rfl, hF⟩
  · have hF := hF.2 hc
    refine go_aload_n dX12_line_5 rfl ?_
    refine go_getR (k := 0) (r := 274) dX12_line_6 sh_273 rfl inX12 (Nat.le_of_ble_eq_true rfl) lf_X12_7 rfl rfl ?_
    refine go_iconst (v := 5) dX12_line_9 (by decide) ?_
    refine go_iconst (v := 0) dX12_line_10 (by decide) ?_
    refine go_iastK (k := 5) dX12_line_11 sh_274 (vp_in_dec (by decide)) (by decide) ?_
    obtain ⟨m4, em4⟩ : ∃ z : Mem, z = wI m 274 5 0 := ⟨_, rfl⟩
    rw [← em4]
    have hF := hF m4 em4
    refine go_iconst (v := 0) dX12_line_12 (by decide) ?_
    exact go_iret (S := []) dX12_line_13 rfl ⟨_, rfl, hF⟩
theorem vX12_whose (G : GP) (d : Nat)  (m : Mem) (K : Int32 → Mem → Prop) (hF : Gw G (d + 5) mX12_whose 4 [.ref (ga G 273), .int 0, .int 0, uu, uu] [] m (Qi K)) : Evi G (d + 5) mX12_whose [.ref (ga G 273)] m K := by
  refine Ev.go [.ref (ga G 273), uu, uu, uu, uu] (by decide) (Nat.le_of_ble_eq_true rfl) rfl ?_
  refine go_iconst (v := 0) dX12_whose_0 (by decide) ?_
  refine go_istore_n (L' := [.ref (ga G 273), .int 0, uu, uu, uu]) dX12_whose_1 (Nat.le_of_ble_eq_true rfl) rfl ?_
  refine go_iconst (v := 0) dX12_whose_2 (by decide) ?_
  refine go_istore_n (L' := [.ref (ga G 273), .int 0, .int 0, uu, uu]) dX12_whose_3 (Nat.le_of_ble_eq_true rfl) rfl ?_
  exact hF
theorem vX12_whose_4 (G : GP) (d : Nat) (l1 : Int32) (l2 : Int32) (u3 : Value) (u4 : Value) (m : Mem) (K : Int32 → Mem → Prop) (hF : (((m.1 274 2) ≤ l2) → K l1 m) ∧ ((¬ (m.1 274 2) ≤ l2) → Gw G (d + 5) mX12_whose 19 [.ref (ga G 273), .int l1, .int l2, .int 1, .int 0] [] m (Qi K))) : Gw G (d + 5) mX12_whose 4 [.ref (ga G 273), .int l1, .int l2, u3, u4] [] m (Qi K) := by
  refine Gw.weak (L' := [.ref (ga G 273), .int l1, .int l2, uu, uu]) ⟨Or.inl rfl, Or.inl rfl, Or.inl rfl, Or.inr rfl, Or.inr rfl, trivial⟩ ?_
  refine go_iload_n dX12_whose_4 rfl ?_
  refine go_aload_n dX12_whose_5 rfl ?_
  refine go_getR (k := 0) (r := 274) dX12_whose_6 sh_273 rfl inX12 (Nat.le_of_ble_eq_true rfl) lf_X12_7 rfl rfl ?_
  refine go_iconst (v := 2) dX12_whose_9 (by decide) ?_
  refine go_ialdK (k := 2) dX12_whose_10 sh_274 (vp_in_dec (by decide)) (by decide) ?_
  refine go_icmp_ge 101 dX12_whose_11 rfl ⟨fun hc => ?_, fun hc => ?_⟩
  · have hF := hF.1 hc
    refine go_iload_n dX12_whose_101 rfl ?_
    exact go_iret (S := []) dX12_whose_102 rfl ⟨_, rfl, hF⟩
  · have hF := hF.2 hc
    refine go_iconst (v := 1) dX12_whose_14 (by decide) ?_
    refine go_istore_n (L' := [.ref (ga G 273), .int l1, .int l2, .int 1, uu]) dX12_whose_15 (Nat.le_of_ble_eq_true rfl) rfl ?_
    refine go_iconst (v := 0) dX12_whose_16 (by decide) ?_
    refine go_istore (L' := [.ref (ga G 273), .int l1, .int l2, .int 1, .int 0]) dX12_whose_17 (Nat.le_of_ble_eq_true rfl) rfl ?_
    exact hF
theorem vX12_whose_19 (G : GP) (d : Nat) (l1 : Int32) (l2 : Int32) (l3 : Int32) (l4 : Int32) (m : Mem) (K : Int32 → Mem → Prop) (hF : (((m.1 274 5) ≤ l4) → ((l3 = 0) → ∀ x1 : Int32, x1 = l1 ||| 0 → ∀ x2 : Int32, x2 = l2 + 1 → Gw G (d + 5) mX12_whose 4 [.ref (ga G 273), .int x1, .int x2, .int l3, .int l4] [] m (Qi K)) ∧ ((¬ l3 = 0) → ∀ x3 : Int32, x3 = l1 ||| ((1 : Int32) <<< (l2 &&& 31)) → ∀ x4 : Int32, x4 = l2 + 1 → Gw G (d + 5) mX12_whose 4 [.ref (ga G 273), .int x3, .int x4, .int l3, .int l4] [] m (Qi K))) ∧ ((¬ (m.1 274 5) ≤ l4) → ((l3 = 0) → ∀ x5 : Int32, x5 = l4 + 1 → Gw G (d + 5) mX12_whose 19 [.ref (ga G 273), .int l1, .int l2, .int 0, .int x5] [] m (Qi K)) ∧ ((¬ l3 = 0) → vp_in ((124 : Int32) + ((2 : Int32) * l4)) 5968 ∧ vp_in (((124 : Int32) + ((2 : Int32) * l4)) + 1) 5968 ∧ Evi G (d + 4) mX12_isFollowing [.ref (ga G 273), .int l2, .int (m.1 274 ((124 : Int32) + ((2 : Int32) * l4)).toNatClampNeg), .int (m.1 274 (((124 : Int32) + ((2 : Int32) * l4)) + 1).toNatClampNeg), .int 1] m (fun r7 m6 => ((r7 = 0) → ∀ x8 : Int32, x8 = l4 + 1 → Gw G (d + 5) mX12_whose 19 [.ref (ga G 273), .int l1, .int l2, .int 0, .int x8] [] m6 (Qi K)) ∧ ((¬ r7 = 0) → ∀ x9 : Int32, x9 = l4 + 1 → Gw G (d + 5) mX12_whose 19 [.ref (ga G 273), .int l1, .int l2, .int 1, .int x9] [] m6 (Qi K)))))) : Gw G (d + 5) mX12_whose 19 [.ref (ga G 273), .int l1, .int l2, .int l3, .int l4] [] m (Qi K) := by
  refine go_iload dX12_whose_19 rfl ?_
  refine go_aload_n dX12_whose_21 rfl ?_
  refine go_getR (k := 0) (r := 274) dX12_whose_22 sh_273 rfl inX12 (Nat.le_of_ble_eq_true rfl) lf_X12_7 rfl rfl ?_
  refine go_iconst (v := 5) dX12_whose_25 (by decide) ?_
  refine go_ialdK (k := 5) dX12_whose_26 sh_274 (vp_in_dec (by decide)) (by decide) ?_
  refine go_icmp_ge 81 dX12_whose_27 rfl ⟨fun hc => ?_, fun hc => ?_⟩
  · have hF := hF.1 hc
    refine go_iload_n dX12_whose_81 rfl ?_
    refine go_iload_n dX12_whose_82 rfl ?_
    refine go_if_eq 92 dX12_whose_83 rfl ⟨fun hc => ?_, fun hc => ?_⟩
    · have hF := hF.1 hc
      refine go_iconst (v := 0) dX12_whose_92 (by decide) ?_
      refine go_ior dX12_whose_93 ?_
      refine Gw.namei (fun x1 ex1 => ?_)
      have hF := hF x1 ex1
      refine go_istore_n (L' := [.ref (ga G 273), .int x1, .int l2, .int l3, .int l4]) dX12_whose_94 (Nat.le_of_ble_eq_true rfl) rfl ?_
      obtain ⟨x2, ex2⟩ : ∃ z : Int32, z = l2 + 1 := ⟨_, rfl⟩
      have hF := hF x2 ex2
      refine go_iinc (v := x2) (L' := [.ref (ga G 273), .int x1, .int x2, .int l3, .int l4]) dX12_whose_95 rfl (by rw [ex2]; rfl) (Nat.le_of_ble_eq_true rfl) rfl ?_
      refine go_goto 4 dX12_whose_98 rfl ?_
      exact hF
    · have hF := hF.2 hc
      refine go_iconst (v := 1) dX12_whose_86 (by decide) ?_
      refine go_iload_n dX12_whose_87 rfl ?_
      refine go_ishl dX12_whose_88 ?_
      refine go_goto 93 dX12_whose_89 rfl ?_
      refine go_ior dX12_whose_93 ?_
      refine Gw.namei (fun x3 ex3 => ?_)
      have hF := hF x3 ex3
      refine go_istore_n (L' := [.ref (ga G 273), .int x3, .int l2, .int l3, .int l4]) dX12_whose_94 (Nat.le_of_ble_eq_true rfl) rfl ?_
      obtain ⟨x4, ex4⟩ : ∃ z : Int32, z = l2 + 1 := ⟨_, rfl⟩
      have hF := hF x4 ex4
      refine go_iinc (v := x4) (L' := [.ref (ga G 273), .int x3, .int x4, .int l3, .int l4]) dX12_whose_95 rfl (by rw [ex4]; rfl) (Nat.le_of_ble_eq_true rfl) rfl ?_
      refine go_goto 4 dX12_whose_98 rfl ?_
      exact hF
  · have hF := hF.2 hc
    refine go_iload_n dX12_whose_30 rfl ?_
    refine go_if_eq 73 dX12_whose_31 rfl ⟨fun hc => ?_, fun hc => ?_⟩
    · have hF := hF.1 hc
      refine go_iconst (v := 0) dX12_whose_73 (by decide) ?_
      refine go_istore_n (L' := [.ref (ga G 273), .int l1, .int l2, .int 0, .int l4]) dX12_whose_74 (Nat.le_of_ble_eq_true rfl) rfl ?_
      obtain ⟨x5, ex5⟩ : ∃ z : Int32, z = l4 + 1 := ⟨_, rfl⟩
      have hF := hF x5 ex5
      refine go_iinc (v := x5) (L' := [.ref (ga G 273), .int l1, .int l2, .int 0, .int x5]) dX12_whose_75 rfl (by rw [ex5]; rfl) (Nat.le_of_ble_eq_true rfl) rfl ?_
      refine go_goto 19 dX12_whose_78 rfl ?_
      exact hF
    · have hF := hF.2 hc
      refine go_aload_n dX12_whose_34 rfl ?_
      refine go_iload_n dX12_whose_35 rfl ?_
      refine go_aload_n dX12_whose_36 rfl ?_
      refine go_getR (k := 0) (r := 274) dX12_whose_37 sh_273 rfl inX12 (Nat.le_of_ble_eq_true rfl) lf_X12_7 rfl rfl ?_
      refine go_bipush (v := 124) dX12_whose_40 (by decide) ?_
      refine go_iconst (v := 2) dX12_whose_42 (by decide) ?_
      refine go_iload dX12_whose_43 rfl ?_
      refine go_imul dX12_whose_45 ?_
      refine go_iadd dX12_whose_46 ?_
      obtain ⟨hi, hF⟩ := hF
      refine go_iald dX12_whose_47 sh_274 hi ?_
      refine go_aload_n dX12_whose_48 rfl ?_
      refine go_getR (k := 0) (r := 274) dX12_whose_49 sh_273 rfl inX12 (Nat.le_of_ble_eq_true rfl) lf_X12_7 rfl rfl ?_
      refine go_bipush (v := 124) dX12_whose_52 (by decide) ?_
      refine go_iconst (v := 2) dX12_whose_54 (by decide) ?_
      refine go_iload dX12_whose_55 rfl ?_
      refine go_imul dX12_whose_57 ?_
      refine go_iadd dX12_whose_58 ?_
      refine go_iconst (v := 1) dX12_whose_59 (by decide) ?_
      refine go_iadd dX12_whose_60 ?_
      obtain ⟨hi, hF⟩ := hF
      refine go_iald dX12_whose_61 sh_274 hi ?_
      refine go_iconst (v := 1) dX12_whose_62 (by decide) ?_
      refine go_callV mX12_isFollowing dX12_whose_63 lm_X12_394 okX12_isFollowing isX12_isFollowing sh_273 rfl (As := [.int l2, .int (m.1 274 ((124 : Int32) + ((2 : Int32) * l4)).toNatClampNeg), .int (m.1 274 (((124 : Int32) + ((2 : Int32) * l4)) + 1).toNatClampNeg), .int 1]) (S := []) rfl rfl (Nat.le_of_ble_eq_true rfl) hF (k_i (fun r7 m6 hF => ?_))
      refine go_if_eq 73 dX12_whose_66 rfl ⟨fun hc => ?_, fun hc => ?_⟩
      · have hF := hF.1 hc
        refine go_iconst (v := 0) dX12_whose_73 (by decide) ?_
        refine go_istore_n (L' := [.ref (ga G 273), .int l1, .int l2, .int 0, .int l4]) dX12_whose_74 (Nat.le_of_ble_eq_true rfl) rfl ?_
        obtain ⟨x8, ex8⟩ : ∃ z : Int32, z = l4 + 1 := ⟨_, rfl⟩
        have hF := hF x8 ex8
        refine go_iinc (v := x8) (L' := [.ref (ga G 273), .int l1, .int l2, .int 0, .int x8]) dX12_whose_75 rfl (by rw [ex8]; rfl) (Nat.le_of_ble_eq_true rfl) rfl ?_
        refine go_goto 19 dX12_whose_78 rfl ?_
        exact hF
      · have hF := hF.2 hc
        refine go_iconst (v := 1) dX12_whose_69 (by decide) ?_
        refine go_goto 74 dX12_whose_70 rfl ?_
        refine go_istore_n (L' := [.ref (ga G 273), .int l1, .int l2, .int 1, .int l4]) dX12_whose_74 (Nat.le_of_ble_eq_true rfl) rfl ?_
        obtain ⟨x9, ex9⟩ : ∃ z : Int32, z = l4 + 1 := ⟨_, rfl⟩
        have hF := hF x9 ex9
        refine go_iinc (v := x9) (L' := [.ref (ga G 273), .int l1, .int l2, .int 1, .int x9]) dX12_whose_75 rfl (by rw [ex9]; rfl) (Nat.le_of_ble_eq_true rfl) rfl ?_
        refine go_goto 19 dX12_whose_78 rfl ?_
        exact hF
theorem vX12_pairs (G : GP) (d : Nat)  (m : Mem) (K : Int32 → Mem → Prop) (hF : Gw G (d + 1) mX12_pairs 4 [.ref (ga G 273), .int 0, .int 0] [] m (Qi K)) : Evi G (d + 1) mX12_pairs [.ref (ga G 273)] m K := by
  refine Ev.go [.ref (ga G 273), uu, uu] (by decide) (Nat.le_of_ble_eq_true rfl) rfl ?_
  refine go_iconst (v := 0) dX12_pairs_0 (by decide) ?_
  refine go_istore_n (L' := [.ref (ga G 273), .int 0, uu]) dX12_pairs_1 (Nat.le_of_ble_eq_true rfl) rfl ?_
  refine go_iconst (v := 0) dX12_pairs_2 (by decide) ?_
  refine go_istore_n (L' := [.ref (ga G 273), .int 0, .int 0]) dX12_pairs_3 (Nat.le_of_ble_eq_true rfl) rfl ?_
  exact hF
theorem vX12_pairs_4 (G : GP) (d : Nat) (l1 : Int32) (l2 : Int32) (m : Mem) (K : Int32 → Mem → Prop) (hF : (((m.1 274 5) ≤ l2) → K l1 m) ∧ ((¬ (m.1 274 5) ≤ l2) → vp_in ((124 : Int32) + ((2 : Int32) * l2)) 5968 ∧ vp_in (((34 : Int32) + (9 : Int32) * (m.1 274 ((124 : Int32) + ((2 : Int32) * l2)).toNatClampNeg)) + 0) 5968 ∧ vp_in (((124 : Int32) + ((2 : Int32) * l2)) + 1) 5968 ∧ vp_in (((34 : Int32) + (9 : Int32) * (m.1 274 (((124 : Int32) + ((2 : Int32) * l2)) + 1).toNatClampNeg)) + 0) 5968 ∧ ∀ x1 : Int32, x1 = l1 ||| ((1 : Int32) <<< ((((4 : Int32) * (m.1 274 (((34 : Int32) + (9 : Int32) * (m.1 274 ((124 : Int32) + ((2 : Int32) * l2)).toNatClampNeg)) + 0).toNatClampNeg)) + (m.1 274 (((34 : Int32) + (9 : Int32) * (m.1 274 (((124 : Int32) + ((2 : Int32) * l2)) + 1).toNatClampNeg)) + 0).toNatClampNeg)) &&& 31)) → ∀ x2 : Int32, x2 = l2 + 1 → Gw G (d + 1) mX12_pairs 4 [.ref (ga G 273), .int x1, .int x2] [] m (Qi K))) : Gw G (d + 1) mX12_pairs 4 [.ref (ga G 273), .int l1, .int l2] [] m (Qi K) := by
  refine go_iload_n dX12_pairs_4 rfl ?_
  refine go_aload_n dX12_pairs_5 rfl ?_
  refine go_getR (k := 0) (r := 274) dX12_pairs_6 sh_273 rfl inX12 (Nat.le_of_ble_eq_true rfl) lf_X12_7 rfl rfl ?_
  refine go_iconst (v := 5) dX12_pairs_9 (by decide) ?_
  refine go_ialdK (k := 5) dX12_pairs_10 sh_274 (vp_in_dec (by decide)) (by decide) ?_
  refine go_icmp_ge 62 dX12_pairs_11 rfl ⟨fun hc => ?_, fun hc => ?_⟩
  · have hF := hF.1 hc
    refine go_iload_n dX12_pairs_62 rfl ?_
    exact go_iret (S := []) dX12_pairs_63 rfl ⟨_, rfl, hF⟩
  · have hF := hF.2 hc
    refine go_iload_n dX12_pairs_14 rfl ?_
    refine go_iconst (v := 1) dX12_pairs_15 (by decide) ?_
    refine go_iconst (v := 4) dX12_pairs_16 (by decide) ?_
    refine go_aload_n dX12_pairs_17 rfl ?_
    refine go_aload_n dX12_pairs_18 rfl ?_
    refine go_getR (k := 0) (r := 274) dX12_pairs_19 sh_273 rfl inX12 (Nat.le_of_ble_eq_true rfl) lf_X12_7 rfl rfl ?_
    refine go_bipush (v := 124) dX12_pairs_22 (by decide) ?_
    refine go_iconst (v := 2) dX12_pairs_24 (by decide) ?_
    refine go_iload_n dX12_pairs_25 rfl ?_
    refine go_imul dX12_pairs_26 ?_
    refine go_iadd dX12_pairs_27 ?_
    obtain ⟨hi, hF⟩ := hF
    refine go_iald dX12_pairs_28 sh_274 hi ?_
    refine go_iconst (v := 0) dX12_pairs_29 (by decide) ?_
    obtain ⟨ho, hF⟩ := hF
    refine go_callV mX12_of dX12_pairs_30 lm_X12_84 okX12_of isX12_of sh_273 rfl (As := [.int (m.1 274 ((124 : Int32) + ((2 : Int32) * l2)).toNatClampNeg), .int 0]) (S := [.int 4, .int 1, .int l1]) rfl rfl (Nat.le_of_ble_eq_true rfl) (eX12_of G _ (m.1 274 ((124 : Int32) + ((2 : Int32) * l2)).toNatClampNeg) 0 m (fun r m' => r = m.1 274 (((34 : Int32) + (9 : Int32) * (m.1 274 ((124 : Int32) + ((2 : Int32) * l2)).toNatClampNeg)) + 0).toNatClampNeg ∧ m = m') ho ⟨rfl, rfl⟩) (k_i (fun r m' hr => ?_))
    obtain ⟨hr1, hr2⟩ := hr
    subst hr1
    subst hr2
    refine go_imul dX12_pairs_33 ?_
    refine go_aload_n dX12_pairs_34 rfl ?_
    refine go_aload_n dX12_pairs_35 rfl ?_
    refine go_getR (k := 0) (r := 274) dX12_pairs_36 sh_273 rfl inX12 (Nat.le_of_ble_eq_true rfl) lf_X12_7 rfl rfl ?_
    refine go_bipush (v := 124) dX12_pairs_39 (by decide) ?_
    refine go_iconst (v := 2) dX12_pairs_41 (by decide) ?_
    refine go_iload_n dX12_pairs_42 rfl ?_
    refine go_imul dX12_pairs_43 ?_
    refine go_iadd dX12_pairs_44 ?_
    refine go_iconst (v := 1) dX12_pairs_45 (by decide) ?_
    refine go_iadd dX12_pairs_46 ?_
    obtain ⟨hi, hF⟩ := hF
    refine go_iald dX12_pairs_47 sh_274 hi ?_
    refine go_iconst (v := 0) dX12_pairs_48 (by decide) ?_
    obtain ⟨ho, hF⟩ := hF
    refine go_callV mX12_of dX12_pairs_49 lm_X12_84 okX12_of isX12_of sh_273 rfl (As := [.int (m.1 274 (((124 : Int32) + ((2 : Int32) * l2)) + 1).toNatClampNeg), .int 0]) (S := [.int ((4 : Int32) * (m.1 274 (((34 : Int32) + (9 : Int32) * (m.1 274 ((124 : Int32) + ((2 : Int32) * l2)).toNatClampNeg)) + 0).toNatClampNeg)), .int 1, .int l1]) rfl rfl (Nat.le_of_ble_eq_true rfl) (eX12_of G _ (m.1 274 (((124 : Int32) + ((2 : Int32) * l2)) + 1).toNatClampNeg) 0 m (fun r m' => r = m.1 274 (((34 : Int32) + (9 : Int32) * (m.1 274 (((124 : Int32) + ((2 : Int32) * l2)) + 1).toNatClampNeg)) + 0).toNatClampNeg ∧ m = m') ho ⟨rfl, rfl⟩) (k_i (fun r m' hr => ?_))
    obtain ⟨hr1, hr2⟩ := hr
    subst hr1
    subst hr2
    refine go_iadd dX12_pairs_52 ?_
    refine go_ishl dX12_pairs_53 ?_
    refine go_ior dX12_pairs_54 ?_
    refine Gw.namei (fun x1 ex1 => ?_)
    have hF := hF x1 ex1
    refine go_istore_n (L' := [.ref (ga G 273), .int x1, .int l2]) dX12_pairs_55 (Nat.le_of_ble_eq_true rfl) rfl ?_
    obtain ⟨x2, ex2⟩ : ∃ z : Int32, z = l2 + 1 := ⟨_, rfl⟩
    have hF := hF x2 ex2
    refine go_iinc (v := x2) (L' := [.ref (ga G 273), .int x1, .int x2]) dX12_pairs_56 rfl (by rw [ex2]; rfl) (Nat.le_of_ble_eq_true rfl) rfl ?_
    refine go_goto 4 dX12_pairs_59 rfl ?_
    exact hF
theorem vX12_tower (G : GP) (d : Nat) (a0 : Int32) (a1 : Int32) (m : Mem) (K : Int32 → Mem → Prop) (hF : ((0 ≤ a0 ∧ a0 ≤ 1) → ((¬ a1 = (-1)) → ((0 ≤ a1 ∧ a1 ≤ m.1 274 0 - 1) → vp_in ((6 : Int32) + a0) 5968 ∧ ((¬ (m.1 274 ((6 : Int32) + a0).toNatClampNeg) = 12) → vp_in ((6 : Int32) + a0) 5968 ∧ vp_in (((140 : Int32) + ((12 : Int32) * a0)) + (m.1 274 ((6 : Int32) + a0).toNatClampNeg)) 5968 ∧ ∀ m1 : Mem, m1 = wI m 274 (((140 : Int32) + ((12 : Int32) * a0)) + (m.1 274 ((6 : Int32) + a0).toNatClampNeg)).toNatClampNeg a1 → vp_in ((6 : Int32) + a0) 5968 ∧ vp_in ((6 : Int32) + a0) 5968 ∧ ∀ m2 : Mem, m2 = wI m1 274 ((6 : Int32) + a0).toNatClampNeg ((m1.1 274 ((6 : Int32) + a0).toNatClampNeg) + 1) → vp_in ((6 : Int32) + a0) 5968 ∧ K (m2.1 274 ((6 : Int32) + a0).toNatClampNeg) m2) ∧ (((m.1 274 ((6 : Int32) + a0).toNatClampNeg) = 12) → K (-2) m)) ∧ (¬ (0 ≤ a1 ∧ a1 ≤ m.1 274 0 - 1) → K (-2) m)) ∧ ((a1 = (-1)) → vp_in ((6 : Int32) + a0) 5968 ∧ ∀ m3 : Mem, m3 = wI m 274 ((6 : Int32) + a0).toNatClampNeg 0 → K 0 m3)) ∧ (¬ (0 ≤ a0 ∧ a0 ≤ 1) → K (-2) m)) : Evi G (d + 2) mX12_tower [.ref (ga G 273), .int a0, .int a1] m K := by
  refine Ev.go [.ref (ga G 273), .int a0, .int a1] (by decide) (Nat.le_of_ble_eq_true rfl) rfl ?_
  refine go_iload_n dX12_tower_0 rfl ?_
  refine go_iconst (v := 0) dX12_tower_1 (by decide) ?_
  refine go_iconst (v := 1) dX12_tower_2 (by decide) ?_
  rcases Classical.em (0 ≤ a0 ∧ a0 ≤ 1) with hp | hp
  · have hF := hF.1 hp
    refine go_callS mX12_isIn dX12_tower_3 lm_X12_80 okX12_isIn isX12_isIn (As := [.int a0, .int 0, .int 1]) (S := []) rfl rfl (Nat.le_of_ble_eq_true rfl) (eX12_isIn G _ a0 0 1 m (fun r m' => r = 1 ∧ m = m') ⟨fun _ => ⟨rfl, rfl⟩, fun q => absurd hp q⟩) (k_i (fun r m' hr => ?_))
    obtain ⟨hr1, hr2⟩ := hr
    subst hr1
    subst hr2
    refine go_if_ne 12 dX12_tower_6 rfl ⟨fun _ => ?_, fun hc => absurd hc (by decide)⟩
    refine go_iload_n dX12_tower_12 rfl ?_
    refine go_iconst (v := -1) dX12_tower_13 (by decide) ?_
    refine go_icmp_ne 29 dX12_tower_14 rfl ⟨fun hc => ?_, fun hc => ?_⟩
    · have hF := hF.1 hc
      refine go_aload_n dX12_tower_29 rfl ?_
      refine go_iload_n dX12_tower_30 rfl ?_
      rcases Classical.em (0 ≤ a1 ∧ a1 ≤ m.1 274 0 - 1) with hp | hp
      · have hF := hF.1 hp
        refine go_callV mX12_isBell dX12_tower_31 lm_X12_88 okX12_isBell isX12_isBell sh_273 rfl (As := [.int a1]) (S := []) rfl rfl (Nat.le_of_ble_eq_true rfl) (eX12_isBell G _ a1 m (fun r m' => r = 1 ∧ m = m') ⟨fun _ => ⟨rfl, rfl⟩, fun q => absurd hp q⟩) (k_i (fun r m' hr => ?_))
        obtain ⟨hr1, hr2⟩ := hr
        subst hr1
        subst hr2
        refine go_if_eq 51 dX12_tower_34 rfl ⟨fun hc => absurd hc (by decide), fun _ => ?_⟩
        refine go_aload_n dX12_tower_37 rfl ?_
        refine go_getR (k := 0) (r := 274) dX12_tower_38 sh_273 rfl inX12 (Nat.le_of_ble_eq_true rfl) lf_X12_7 rfl rfl ?_
        refine go_bipush (v := 6) dX12_tower_41 (by decide) ?_
        refine go_iload_n dX12_tower_43 rfl ?_
        refine go_iadd dX12_tower_44 ?_
        obtain ⟨hi, hF⟩ := hF
        refine go_iald dX12_tower_45 sh_274 hi ?_
        refine go_bipush (v := 12) dX12_tower_46 (by decide) ?_
        refine go_icmp_ne 54 dX12_tower_48 rfl ⟨fun hc => ?_, fun hc => ?_⟩
        · have hF := hF.1 hc
          refine go_aload_n dX12_tower_54 rfl ?_
          refine go_getR (k := 0) (r := 274) dX12_tower_55 sh_273 rfl inX12 (Nat.le_of_ble_eq_true rfl) lf_X12_7 rfl rfl ?_
          refine go_sipush (v := 140) dX12_tower_58 (by decide) ?_
          refine go_bipush (v := 12) dX12_tower_61 (by decide) ?_
          refine go_iload_n dX12_tower_63 rfl ?_
          refine go_imul dX12_tower_64 ?_
          refine go_iadd dX12_tower_65 ?_
          refine go_aload_n dX12_tower_66 rfl ?_
          refine go_getR (k := 0) (r := 274) dX12_tower_67 sh_273 rfl inX12 (Nat.le_of_ble_eq_true rfl) lf_X12_7 rfl rfl ?_
          refine go_bipush (v := 6) dX12_tower_70 (by decide) ?_
          refine go_iload_n dX12_tower_72 rfl ?_
          refine go_iadd dX12_tower_73 ?_
          obtain ⟨hi, hF⟩ := hF
          refine go_iald dX12_tower_74 sh_274 hi ?_
          refine go_iadd dX12_tower_75 ?_
          refine go_iload_n dX12_tower_76 rfl ?_
          obtain ⟨hi, hF⟩ := hF
          refine go_iast dX12_tower_77 sh_274 hi ?_
          obtain ⟨m1, em1⟩ : ∃ z : Mem, z = wI m 274 (((140 : Int32) + ((12 : Int32) * a0)) + (m.1 274 ((6 : Int32) + a0).toNatClampNeg)).toNatClampNeg a1 := ⟨_, rfl⟩
          rw [← em1]
          have hF := hF m1 em1
          refine go_aload_n dX12_tower_78 rfl ?_
          refine go_getR (k := 0) (r := 274) dX12_tower_79 sh_273 rfl inX12 (Nat.le_of_ble_eq_true rfl) lf_X12_7 rfl rfl ?_
          refine go_bipush (v := 6) dX12_tower_82 (by decide) ?_
          refine go_iload_n dX12_tower_84 rfl ?_
          refine go_iadd dX12_tower_85 ?_
          refine go_dup2 dX12_tower_86 rfl rfl ?_
          obtain ⟨hi, hF⟩ := hF
          refine go_iald dX12_tower_87 sh_274 hi ?_
          refine go_iconst (v := 1) dX12_tower_88 (by decide) ?_
          refine go_iadd dX12_tower_89 ?_
          obtain ⟨hi, hF⟩ := hF
          refine go_iast dX12_tower_90 sh_274 hi ?_
          obtain ⟨m2, em2⟩ : ∃ z : Mem, z = wI m1 274 ((6 : Int32) + a0).toNatClampNeg ((m1.1 274 ((6 : Int32) + a0).toNatClampNeg) + 1) := ⟨_, rfl⟩
          rw [← em2]
          have hF := hF m2 em2
          refine go_aload_n dX12_tower_91 rfl ?_
          refine go_getR (k := 0) (r := 274) dX12_tower_92 sh_273 rfl inX12 (Nat.le_of_ble_eq_true rfl) lf_X12_7 rfl rfl ?_
          refine go_bipush (v := 6) dX12_tower_95 (by decide) ?_
          refine go_iload_n dX12_tower_97 rfl ?_
          refine go_iadd dX12_tower_98 ?_
          obtain ⟨hi, hF⟩ := hF
          refine go_iald dX12_tower_99 sh_274 hi ?_
          exact go_iret (S := []) dX12_tower_100 rfl ⟨_, rfl, hF⟩
        · have hF := hF.2 hc
          refine go_bipush (v := -2) dX12_tower_51 (by decide) ?_
          exact go_iret (S := []) dX12_tower_53 rfl ⟨_, rfl, hF⟩
      · have hF := hF.2 hp
        refine go_callV mX12_isBell dX12_tower_31 lm_X12_88 okX12_isBell isX12_isBell sh_273 rfl (As := [.int a1]) (S := []) rfl rfl (Nat.le_of_ble_eq_true rfl) (eX12_isBell G _ a1 m (fun r m' => r = 0 ∧ m = m') ⟨fun q => absurd q hp, fun _ => ⟨rfl, rfl⟩⟩) (k_i (fun r m' hr => ?_))
        obtain ⟨hr1, hr2⟩ := hr
        subst hr1
        subst hr2
        refine go_if_eq 51 dX12_tower_34 rfl ⟨fun _ => ?_, fun hc => absurd hc (by decide)⟩
        refine go_bipush (v := -2) dX12_tower_51 (by decide) ?_
        exact go_iret (S := []) dX12_tower_53 rfl ⟨_, rfl, hF⟩
    · have hF := hF.2 hc
      refine go_aload_n dX12_tower_17 rfl ?_
      refine go_getR (k := 0) (r := 274) dX12_tower_18 sh_273 rfl inX12 (Nat.le_of_ble_eq_true rfl) lf_X12_7 rfl rfl ?_
      refine go_bipush (v := 6) dX12_tower_21 (by decide) ?_
      refine go_iload_n dX12_tower_23 rfl ?_
      refine go_iadd dX12_tower_24 ?_
      refine go_iconst (v := 0) dX12_tower_25 (by decide) ?_
      obtain ⟨hi, hF⟩ := hF
      refine go_iast dX12_tower_26 sh_274 hi ?_
      obtain ⟨m3, em3⟩ : ∃ z : Mem, z = wI m 274 ((6 : Int32) + a0).toNatClampNeg 0 := ⟨_, rfl⟩
      rw [← em3]
      have hF := hF m3 em3
      refine go_iconst (v := 0) dX12_tower_27 (by decide) ?_
      exact go_iret (S := []) dX12_tower_28 rfl ⟨_, rfl, hF⟩
  · have hF := hF.2 hp
    refine go_callS mX12_isIn dX12_tower_3 lm_X12_80 okX12_isIn isX12_isIn (As := [.int a0, .int 0, .int 1]) (S := []) rfl rfl (Nat.le_of_ble_eq_true rfl) (eX12_isIn G _ a0 0 1 m (fun r m' => r = 0 ∧ m = m') ⟨fun q => absurd q hp, fun _ => ⟨rfl, rfl⟩⟩) (k_i (fun r m' hr => ?_))
    obtain ⟨hr1, hr2⟩ := hr
    subst hr1
    subst hr2
    refine go_if_ne 12 dX12_tower_6 rfl ⟨fun hc => absurd hc (by decide), fun _ => ?_⟩
    refine go_bipush (v := -2) dX12_tower_9 (by decide) ?_
    exact go_iret (S := []) dX12_tower_11 rfl ⟨_, rfl, hF⟩
theorem vX12_runFrom (G : GP) (d : Nat) (a0 : Int32) (a1 : Int32) (m : Mem) (K : Int32 → Mem → Prop) (hF : Gw G (d) mX12_runFrom 2 [.ref (ga G 273), .int a0, .int a1, .int 0] [] m (Qi K)) : Evi G (d) mX12_runFrom [.ref (ga G 273), .int a0, .int a1] m K := by
  refine Ev.go [.ref (ga G 273), .int a0, .int a1, uu] (by decide) (Nat.le_of_ble_eq_true rfl) rfl ?_
  refine go_iconst (v := 0) dX12_runFrom_0 (by decide) ?_
  refine go_istore_n (L' := [.ref (ga G 273), .int a0, .int a1, .int 0]) dX12_runFrom_1 (Nat.le_of_ble_eq_true rfl) rfl ?_
  exact hF
theorem vX12_runFrom_2 (G : GP) (d : Nat) (l1 : Int32) (l2 : Int32) (l3 : Int32) (m : Mem) (K : Int32 → Mem → Prop) (hF : (((m.1 274 6) ≤ (l1 + l3)) → K l3 m) ∧ ((¬ (m.1 274 6) ≤ (l1 + l3)) → (((m.1 274 7) ≤ (l2 + l3)) → K l3 m) ∧ ((¬ (m.1 274 7) ≤ (l2 + l3)) → vp_in (((140 : Int32) + l1) + l3) 5968 ∧ vp_in (((152 : Int32) + l2) + l3) 5968 ∧ ((¬ (m.1 274 (((140 : Int32) + l1) + l3).toNatClampNeg) = (m.1 274 (((152 : Int32) + l2) + l3).toNatClampNeg)) → K l3 m) ∧ (((m.1 274 (((140 : Int32) + l1) + l3).toNatClampNeg) = (m.1 274 (((152 : Int32) + l2) + l3).toNatClampNeg)) → ∀ x1 : Int32, x1 = l3 + 1 → Gw G (d) mX12_runFrom 2 [.ref (ga G 273), .int l1, .int l2, .int x1] [] m (Qi K))))) : Gw G (d) mX12_runFrom 2 [.ref (ga G 273), .int l1, .int l2, .int l3] [] m (Qi K) := by
  refine go_iload_n dX12_runFrom_2 rfl ?_
  refine go_iload_n dX12_runFrom_3 rfl ?_
  refine go_iadd dX12_runFrom_4 ?_
  refine go_aload_n dX12_runFrom_5 rfl ?_
  refine go_getR (k := 0) (r := 274) dX12_runFrom_6 sh_273 rfl inX12 (Nat.le_of_ble_eq_true rfl) lf_X12_7 rfl rfl ?_
  refine go_bipush (v := 6) dX12_runFrom_9 (by decide) ?_
  refine go_ialdK (k := 6) dX12_runFrom_11 sh_274 (vp_in_dec (by decide)) (by decide) ?_
  refine go_icmp_ge 61 dX12_runFrom_12 rfl ⟨fun hc => ?_, fun hc => ?_⟩
  · have hF := hF.1 hc
    refine go_iload_n dX12_runFrom_61 rfl ?_
    exact go_iret (S := []) dX12_runFrom_62 rfl ⟨_, rfl, hF⟩
  · have hF := hF.2 hc
    refine go_iload_n dX12_runFrom_15 rfl ?_
    refine go_iload_n dX12_runFrom_16 rfl ?_
    refine go_iadd dX12_runFrom_17 ?_
    refine go_aload_n dX12_runFrom_18 rfl ?_
    refine go_getR (k := 0) (r := 274) dX12_runFrom_19 sh_273 rfl inX12 (Nat.le_of_ble_eq_true rfl) lf_X12_7 rfl rfl ?_
    refine go_bipush (v := 7) dX12_runFrom_22 (by decide) ?_
    refine go_ialdK (k := 7) dX12_runFrom_24 sh_274 (vp_in_dec (by decide)) (by decide) ?_
    refine go_icmp_ge 61 dX12_runFrom_25 rfl ⟨fun hc => ?_, fun hc => ?_⟩
    · have hF := hF.1 hc
      refine go_iload_n dX12_runFrom_61 rfl ?_
      exact go_iret (S := []) dX12_runFrom_62 rfl ⟨_, rfl, hF⟩
    · have hF := hF.2 hc
      refine go_aload_n dX12_runFrom_28 rfl ?_
      refine go_getR (k := 0) (r := 274) dX12_runFrom_29 sh_273 rfl inX12 (Nat.le_of_ble_eq_true rfl) lf_X12_7 rfl rfl ?_
      refine go_sipush (v := 140) dX12_runFrom_32 (by decide) ?_
      refine go_iload_n dX12_runFrom_35 rfl ?_
      refine go_iadd dX12_runFrom_36 ?_
      refine go_iload_n dX12_runFrom_37 rfl ?_
      refine go_iadd dX12_runFrom_38 ?_
      obtain ⟨hi, hF⟩ := hF
      refine go_iald dX12_runFrom_39 sh_274 hi ?_
      refine go_aload_n dX12_runFrom_40 rfl ?_
      refine go_getR (k := 0) (r := 274) dX12_runFrom_41 sh_273 rfl inX12 (Nat.le_of_ble_eq_true rfl) lf_X12_7 rfl rfl ?_
      refine go_sipush (v := 152) dX12_runFrom_44 (by decide) ?_
      refine go_iload_n dX12_runFrom_47 rfl ?_
      refine go_iadd dX12_runFrom_48 ?_
      refine go_iload_n dX12_runFrom_49 rfl ?_
      refine go_iadd dX12_runFrom_50 ?_
      obtain ⟨hi, hF⟩ := hF
      refine go_iald dX12_runFrom_51 sh_274 hi ?_
      refine go_icmp_ne 61 dX12_runFrom_52 rfl ⟨fun hc => ?_, fun hc => ?_⟩
      · have hF := hF.1 hc
        refine go_iload_n dX12_runFrom_61 rfl ?_
        exact go_iret (S := []) dX12_runFrom_62 rfl ⟨_, rfl, hF⟩
      · have hF := hF.2 hc
        obtain ⟨x1, ex1⟩ : ∃ z : Int32, z = l3 + 1 := ⟨_, rfl⟩
        have hF := hF x1 ex1
        refine go_iinc (v := x1) (L' := [.ref (ga G 273), .int l1, .int l2, .int x1]) dX12_runFrom_55 rfl (by rw [ex1]; rfl) (Nat.le_of_ble_eq_true rfl) rfl ?_
        refine go_goto 2 dX12_runFrom_58 rfl ?_
        exact hF
theorem vX12_lies (G : GP) (d : Nat) (a0 : Int32) (m : Mem) (K : Int32 → Mem → Prop) (hF : Evi G (d) mX12_runFrom [.ref (ga G 273), .int 0, .int 0] m (fun r2 m1 => ((¬ a0 = 0) → Gw G (d + 1) mX12_lies 44 [.ref (ga G 273), .int a0, .int r2, .int 0, .int 0, uu] [] m1 (Qi K)) ∧ ((a0 = 0) → ((¬ r2 = (m1.1 274 6)) → K r2 m1) ∧ ((r2 = (m1.1 274 6)) → ((¬ r2 = (m1.1 274 7)) → K r2 m1) ∧ ((r2 = (m1.1 274 7)) → K (-1) m1))))) : Evi G (d + 1) mX12_lies [.ref (ga G 273), .int a0] m K := by
  refine Ev.go [.ref (ga G 273), .int a0, uu, uu, uu, uu] (by decide) (Nat.le_of_ble_eq_true rfl) rfl ?_
  refine go_aload_n dX12_lies_0 rfl ?_
  refine go_iconst (v := 0) dX12_lies_1 (by decide) ?_
  refine go_iconst (v := 0) dX12_lies_2 (by decide) ?_
  refine go_callV mX12_runFrom dX12_lies_3 lm_X12_449 okX12_runFrom isX12_runFrom sh_273 rfl (As := [.int 0, .int 0]) (S := []) rfl rfl (Nat.le_of_ble_eq_true rfl) hF (k_i (fun r2 m1 hF => ?_))
  refine go_istore_n (L' := [.ref (ga G 273), .int a0, .int r2, uu, uu, uu]) dX12_lies_6 (Nat.le_of_ble_eq_true rfl) rfl ?_
  refine go_iload_n dX12_lies_7 rfl ?_
  refine go_if_ne 39 dX12_lies_8 rfl ⟨fun hc => ?_, fun hc => ?_⟩
  · have hF := hF.1 hc
    refine go_iconst (v := 0) dX12_lies_39 (by decide) ?_
    refine go_istore_n (L' := [.ref (ga G 273), .int a0, .int r2, .int 0, uu, uu]) dX12_lies_40 (Nat.le_of_ble_eq_true rfl) rfl ?_
    refine go_iconst (v := 0) dX12_lies_41 (by decide) ?_
    refine go_istore (L' := [.ref (ga G 273), .int a0, .int r2, .int 0, .int 0, uu]) dX12_lies_42 (Nat.le_of_ble_eq_true rfl) rfl ?_
    exact hF
  · have hF := hF.2 hc
    refine go_iload_n dX12_lies_11 rfl ?_
    refine go_aload_n dX12_lies_12 rfl ?_
    refine go_getR (k := 0) (r := 274) dX12_lies_13 sh_273 rfl inX12 (Nat.le_of_ble_eq_true rfl) lf_X12_7 rfl rfl ?_
    refine go_bipush (v := 6) dX12_lies_16 (by decide) ?_
    refine go_ialdK (k := 6) dX12_lies_18 sh_274 (vp_in_dec (by decide)) (by decide) ?_
    refine go_icmp_ne 37 dX12_lies_19 rfl ⟨fun hc => ?_, fun hc => ?_⟩
    · have hF := hF.1 hc
      refine go_iload_n dX12_lies_37 rfl ?_
      exact go_iret (S := []) dX12_lies_38 rfl ⟨_, rfl, hF⟩
    · have hF := hF.2 hc
      refine go_iload_n dX12_lies_22 rfl ?_
      refine go_aload_n dX12_lies_23 rfl ?_
      refine go_getR (k := 0) (r := 274) dX12_lies_24 sh_273 rfl inX12 (Nat.le_of_ble_eq_true rfl) lf_X12_7 rfl rfl ?_
      refine go_bipush (v := 7) dX12_lies_27 (by decide) ?_
      refine go_ialdK (k := 7) dX12_lies_29 sh_274 (vp_in_dec (by decide)) (by decide) ?_
      refine go_icmp_ne 37 dX12_lies_30 rfl ⟨fun hc => ?_, fun hc => ?_⟩
      · have hF := hF.1 hc
        refine go_iload_n dX12_lies_37 rfl ?_
        exact go_iret (S := []) dX12_lies_38 rfl ⟨_, rfl, hF⟩
      · have hF := hF.2 hc
        refine go_iconst (v := -1) dX12_lies_33 (by decide) ?_
        refine go_goto 38 dX12_lies_34 rfl ?_
        exact go_iret (S := []) dX12_lies_38 rfl ⟨_, rfl, hF⟩
theorem vX12_lies_44 (G : GP) (d : Nat) (u1 : Value) (u2 : Value) (l3 : Int32) (l4 : Int32) (u5 : Value) (m : Mem) (K : Int32 → Mem → Prop) (hF : (((m.1 274 6) ≤ l4) → K l3 m) ∧ ((¬ (m.1 274 6) ≤ l4) → Gw G (d + 1) mX12_lies 59 [.ref (ga G 273), uu, uu, .int l3, .int l4, .int 0] [] m (Qi K))) : Gw G (d + 1) mX12_lies 44 [.ref (ga G 273), u1, u2, .int l3, .int l4, u5] [] m (Qi K) := by
  refine Gw.weak (L' := [.ref (ga G 273), uu, uu, .int l3, .int l4, uu]) ⟨Or.inl rfl, Or.inr rfl, Or.inr rfl, Or.inl rfl, Or.inl rfl, Or.inr rfl, trivial⟩ ?_
  refine go_iload dX12_lies_44 rfl ?_
  refine go_aload_n dX12_lies_46 rfl ?_
  refine go_getR (k := 0) (r := 274) dX12_lies_47 sh_273 rfl inX12 (Nat.le_of_ble_eq_true rfl) lf_X12_7 rfl rfl ?_
  refine go_bipush (v := 6) dX12_lies_50 (by decide) ?_
  refine go_ialdK (k := 6) dX12_lies_52 sh_274 (vp_in_dec (by decide)) (by decide) ?_
  refine go_icmp_ge 108 dX12_lies_53 rfl ⟨fun hc => ?_, fun hc => ?_⟩
  · have hF := hF.1 hc
    refine go_iload_n dX12_lies_108 rfl ?_
    exact go_iret (S := []) dX12_lies_109 rfl ⟨_, rfl, hF⟩
  · have hF := hF.2 hc
    refine go_iconst (v := 0) dX12_lies_56 (by decide) ?_
    refine go_istore (L' := [.ref (ga G 273), uu, uu, .int l3, .int l4, .int 0]) dX12_lies_57 (Nat.le_of_ble_eq_true rfl) rfl ?_
    exact hF
theorem vX12_lies_59 (G : GP) (d : Nat) (u1 : Value) (u2 : Value) (l3 : Int32) (l4 : Int32) (l5 : Int32) (m : Mem) (K : Int32 → Mem → Prop) (hF : (((m.1 274 7) ≤ l5) → ∀ x3 : Int32, x3 = l4 + 1 → Gw G (d + 1) mX12_lies 44 [.ref (ga G 273), uu, uu, .int l3, .int x3, .int l5] [] m (Qi K)) ∧ ((¬ (m.1 274 7) ≤ l5) → Evi G (d) mX12_runFrom [.ref (ga G 273), .int l4, .int l5] m (fun r5 m4 => ((r5 ≤ l3) → ∀ x6 : Int32, x6 = l5 + 1 → Gw G (d + 1) mX12_lies 59 [.ref (ga G 273), uu, uu, .int l3, .int l4, .int x6] [] m4 (Qi K)) ∧ ((¬ r5 ≤ l3) → Evi G (d) mX12_runFrom [.ref (ga G 273), .int l4, .int l5] m4 (fun r8 m7 => ∀ x9 : Int32, x9 = l5 + 1 → Gw G (d + 1) mX12_lies 59 [.ref (ga G 273), uu, uu, .int r8, .int l4, .int x9] [] m7 (Qi K)))))) : Gw G (d + 1) mX12_lies 59 [.ref (ga G 273), u1, u2, .int l3, .int l4, .int l5] [] m (Qi K) := by
  refine Gw.weak (L' := [.ref (ga G 273), uu, uu, .int l3, .int l4, .int l5]) ⟨Or.inl rfl, Or.inr rfl, Or.inr rfl, Or.inl rfl, Or.inl rfl, Or.inl rfl, trivial⟩ ?_
  refine go_iload dX12_lies_59 rfl ?_
  refine go_aload_n dX12_lies_61 rfl ?_
  refine go_getR (k := 0) (r := 274) dX12_lies_62 sh_273 rfl inX12 (Nat.le_of_ble_eq_true rfl) lf_X12_7 rfl rfl ?_
  refine go_bipush (v := 7) dX12_lies_65 (by decide) ?_
  refine go_ialdK (k := 7) dX12_lies_67 sh_274 (vp_in_dec (by decide)) (by decide) ?_
  refine go_icmp_ge 102 dX12_lies_68 rfl ⟨fun hc => ?_, fun hc => ?_⟩
  · have hF := hF.1 hc
    obtain ⟨x3, ex3⟩ : ∃ z : Int32, z = l4 + 1 := ⟨_, rfl⟩
    have hF := hF x3 ex3
    refine go_iinc (v := x3) (L' := [.ref (ga G 273), uu, uu, .int l3, .int x3, .int l5]) dX12_lies_102 rfl (by rw [ex3]; rfl) (Nat.le_of_ble_eq_true rfl) rfl ?_
    refine go_goto 44 dX12_lies_105 rfl ?_
    exact hF
  · have hF := hF.2 hc
    refine go_aload_n dX12_lies_71 rfl ?_
    refine go_iload dX12_lies_72 rfl ?_
    refine go_iload dX12_lies_74 rfl ?_
    refine go_callV mX12_runFrom dX12_lies_76 lm_X12_449 okX12_runFrom isX12_runFrom sh_273 rfl (As := [.int l4, .int l5]) (S := []) rfl rfl (Nat.le_of_ble_eq_true rfl) hF (k_i (fun r5 m4 hF => ?_))
    refine go_iload_n dX12_lies_79 rfl ?_
    refine go_icmp_le 94 dX12_lies_80 rfl ⟨fun hc => ?_, fun hc => ?_⟩
    · have hF := hF.1 hc
      refine go_iload_n dX12_lies_94 rfl ?_
      refine go_istore_n (L' := [.ref (ga G 273), uu, uu, .int l3, .int l4, .int l5]) dX12_lies_95 (Nat.le_of_ble_eq_true rfl) rfl ?_
      obtain ⟨x6, ex6⟩ : ∃ z : Int32, z = l5 + 1 := ⟨_, rfl⟩
      have hF := hF x6 ex6
      refine go_iinc (v := x6) (L' := [.ref (ga G 273), uu, uu, .int l3, .int l4, .int x6]) dX12_lies_96 rfl (by rw [ex6]; rfl) (Nat.le_of_ble_eq_true rfl) rfl ?_
      refine go_goto 59 dX12_lies_99 rfl ?_
      exact hF
    · have hF := hF.2 hc
      refine go_aload_n dX12_lies_83 rfl ?_
      refine go_iload dX12_lies_84 rfl ?_
      refine go_iload dX12_lies_86 rfl ?_
      refine go_callV mX12_runFrom dX12_lies_88 lm_X12_449 okX12_runFrom isX12_runFrom sh_273 rfl (As := [.int l4, .int l5]) (S := []) rfl rfl (Nat.le_of_ble_eq_true rfl) hF (k_i (fun r8 m7 hF => ?_))
      refine go_goto 95 dX12_lies_91 rfl ?_
      refine go_istore_n (L' := [.ref (ga G 273), uu, uu, .int r8, .int l4, .int l5]) dX12_lies_95 (Nat.le_of_ble_eq_true rfl) rfl ?_
      obtain ⟨x9, ex9⟩ : ∃ z : Int32, z = l5 + 1 := ⟨_, rfl⟩
      have hF := hF x9 ex9
      refine go_iinc (v := x9) (L' := [.ref (ga G 273), uu, uu, .int r8, .int l4, .int x9]) dX12_lies_96 rfl (by rw [ex9]; rfl) (Nat.le_of_ble_eq_true rfl) rfl ?_
      refine go_goto 59 dX12_lies_99 rfl ?_
      exact hF
theorem vX12_farFrom (G : GP) (d : Nat) (a0 : Int32) (m : Mem) (K : Int32 → Mem → Prop) (hF : Gw G (d + 1) mX12_farFrom 5 [.ref (ga G 273), .int a0, .int 10, .int 0, uu] [] m (Qi K)) : Evi G (d + 1) mX12_farFrom [.ref (ga G 273), .int a0] m K := by
  refine Ev.go [.ref (ga G 273), .int a0, uu, uu, uu] (by decide) (Nat.le_of_ble_eq_true rfl) rfl ?_
  refine go_bipush (v := 10) dX12_farFrom_0 (by decide) ?_
  refine go_istore_n (L' := [.ref (ga G 273), .int a0, .int 10, uu, uu]) dX12_farFrom_2 (Nat.le_of_ble_eq_true rfl) rfl ?_
  refine go_iconst (v := 0) dX12_farFrom_3 (by decide) ?_
  refine go_istore_n (L' := [.ref (ga G 273), .int a0, .int 10, .int 0, uu]) dX12_farFrom_4 (Nat.le_of_ble_eq_true rfl) rfl ?_
  exact hF
theorem vX12_farFrom_5 (G : GP) (d : Nat) (l1 : Int32) (l2 : Int32) (l3 : Int32) (u4 : Value) (m : Mem) (K : Int32 → Mem → Prop) (hF : (((m.1 274 0) ≤ l3) → K l2 m) ∧ ((¬ (m.1 274 0) ≤ l3) → vp_in (((16 : Int32) + (3 : Int32) * l3) + 1) 5968 ∧ ((l1 ≤ (m.1 274 (((16 : Int32) + (3 : Int32) * l3) + 1).toNatClampNeg)) → vp_in (((16 : Int32) + (3 : Int32) * l3) + 1) 5968 ∧ ∀ x1 : Int32, x1 = (m.1 274 (((16 : Int32) + (3 : Int32) * l3) + 1).toNatClampNeg) - l1 → ((l2 ≤ x1) → ∀ x2 : Int32, x2 = l3 + 1 → Gw G (d + 1) mX12_farFrom 5 [.ref (ga G 273), .int l1, .int l2, .int x2, .int x1] [] m (Qi K)) ∧ ((¬ l2 ≤ x1) → ∀ x3 : Int32, x3 = l3 + 1 → Gw G (d + 1) mX12_farFrom 5 [.ref (ga G 273), .int l1, .int x1, .int x3, .int x1] [] m (Qi K))) ∧ ((¬ l1 ≤ (m.1 274 (((16 : Int32) + (3 : Int32) * l3) + 1).toNatClampNeg)) → vp_in (((16 : Int32) + (3 : Int32) * l3) + 1) 5968 ∧ ∀ x4 : Int32, x4 = l1 - (m.1 274 (((16 : Int32) + (3 : Int32) * l3) + 1).toNatClampNeg) → ((l2 ≤ x4) → ∀ x5 : Int32, x5 = l3 + 1 → Gw G (d + 1) mX12_farFrom 5 [.ref (ga G 273), .int l1, .int l2, .int x5, .int x4] [] m (Qi K)) ∧ ((¬ l2 ≤ x4) → ∀ x6 : Int32, x6 = l3 + 1 → Gw G (d + 1) mX12_farFrom 5 [.ref (ga G 273), .int l1, .int x4, .int x6, .int x4] [] m (Qi K))))) : Gw G (d + 1) mX12_farFrom 5 [.ref (ga G 273), .int l1, .int l2, .int l3, u4] [] m (Qi K) := by
  refine Gw.weak (L' := [.ref (ga G 273), .int l1, .int l2, .int l3, uu]) ⟨Or.inl rfl, Or.inl rfl, Or.inl rfl, Or.inl rfl, Or.inr rfl, trivial⟩ ?_
  refine go_iload_n dX12_farFrom_5 rfl ?_
  refine go_aload_n dX12_farFrom_6 rfl ?_
  refine go_getR (k := 0) (r := 274) dX12_farFrom_7 sh_273 rfl inX12 (Nat.le_of_ble_eq_true rfl) lf_X12_7 rfl rfl ?_
  refine go_iconst (v := 0) dX12_farFrom_10 (by decide) ?_
  refine go_ialdK (k := 0) dX12_farFrom_11 sh_274 (vp_in_dec (by decide)) (by decide) ?_
  refine go_icmp_ge 62 dX12_farFrom_12 rfl ⟨fun hc => ?_, fun hc => ?_⟩
  · have hF := hF.1 hc
    refine go_iload_n dX12_farFrom_62 rfl ?_
    exact go_iret (S := []) dX12_farFrom_63 rfl ⟨_, rfl, hF⟩
  · have hF := hF.2 hc
    refine go_iload_n dX12_farFrom_15 rfl ?_
    refine go_aload_n dX12_farFrom_16 rfl ?_
    refine go_iload_n dX12_farFrom_17 rfl ?_
    obtain ⟨ho, hF⟩ := hF
    refine go_callV mX12_pitch dX12_farFrom_18 lm_X12_299 okX12_pitch isX12_pitch sh_273 rfl (As := [.int l3]) (S := [.int l1]) rfl rfl (Nat.le_of_ble_eq_true rfl) (eX12_pitch G _ l3 m (fun r m' => r = m.1 274 (((16 : Int32) + (3 : Int32) * l3) + 1).toNatClampNeg ∧ m = m') ho ⟨rfl, rfl⟩) (k_i (fun r m' hr => ?_))
    obtain ⟨hr1, hr2⟩ := hr
    subst hr1
    subst hr2
    refine go_icmp_le 34 dX12_farFrom_21 rfl ⟨fun hc => ?_, fun hc => ?_⟩
    · have hF := hF.1 hc
      refine go_aload_n dX12_farFrom_34 rfl ?_
      refine go_iload_n dX12_farFrom_35 rfl ?_
      obtain ⟨ho, hF⟩ := hF
      refine go_callV mX12_pitch dX12_farFrom_36 lm_X12_299 okX12_pitch isX12_pitch sh_273 rfl (As := [.int l3]) (S := []) rfl rfl (Nat.le_of_ble_eq_true rfl) (eX12_pitch G _ l3 m (fun r m' => r = m.1 274 (((16 : Int32) + (3 : Int32) * l3) + 1).toNatClampNeg ∧ m = m') ho ⟨rfl, rfl⟩) (k_i (fun r m' hr => ?_))
      obtain ⟨hr1, hr2⟩ := hr
      subst hr1
      subst hr2
      refine go_iload_n dX12_farFrom_39 rfl ?_
      refine go_isub dX12_farFrom_40 ?_
      refine Gw.namei (fun x1 ex1 => ?_)
      have hF := hF x1 ex1
      refine go_istore (L' := [.ref (ga G 273), .int l1, .int l2, .int l3, .int x1]) dX12_farFrom_41 (Nat.le_of_ble_eq_true rfl) rfl ?_
      refine go_iload dX12_farFrom_43 rfl ?_
      refine go_iload_n dX12_farFrom_45 rfl ?_
      refine go_icmp_ge 54 dX12_farFrom_46 rfl ⟨fun hc => ?_, fun hc => ?_⟩
      · have hF := hF.1 hc
        refine go_iload_n dX12_farFrom_54 rfl ?_
        refine go_istore_n (L' := [.ref (ga G 273), .int l1, .int l2, .int l3, .int x1]) dX12_farFrom_55 (Nat.le_of_ble_eq_true rfl) rfl ?_
        obtain ⟨x2, ex2⟩ : ∃ z : Int32, z = l3 + 1 := ⟨_, rfl⟩
        have hF := hF x2 ex2
        refine go_iinc (v := x2) (L' := [.ref (ga G 273), .int l1, .int l2, .int x2, .int x1]) dX12_farFrom_56 rfl (by rw [ex2]; rfl) (Nat.le_of_ble_eq_true rfl) rfl ?_
        refine go_goto 5 dX12_farFrom_59 rfl ?_
        exact hF
      · have hF := hF.2 hc
        refine go_iload dX12_farFrom_49 rfl ?_
        refine go_goto 55 dX12_farFrom_51 rfl ?_
        refine go_istore_n (L' := [.ref (ga G 273), .int l1, .int x1, .int l3, .int x1]) dX12_farFrom_55 (Nat.le_of_ble_eq_true rfl) rfl ?_
        obtain ⟨x3, ex3⟩ : ∃ z : Int32, z = l3 + 1 := ⟨_, rfl⟩
        have hF := hF x3 ex3
        refine go_iinc (v := x3) (L' := [.ref (ga G 273), .int l1, .int x1, .int x3, .int x1]) dX12_farFrom_56 rfl (by rw [ex3]; rfl) (Nat.le_of_ble_eq_true rfl) rfl ?_
        refine go_goto 5 dX12_farFrom_59 rfl ?_
        exact hF
    · have hF := hF.2 hc
      refine go_iload_n dX12_farFrom_24 rfl ?_
      refine go_aload_n dX12_farFrom_25 rfl ?_
      refine go_iload_n dX12_farFrom_26 rfl ?_
      obtain ⟨ho, hF⟩ := hF
      refine go_callV mX12_pitch dX12_farFrom_27 lm_X12_299 okX12_pitch isX12_pitch sh_273 rfl (As := [.int l3]) (S := [.int l1]) rfl rfl (Nat.le_of_ble_eq_true rfl) (eX12_pitch G _ l3 m (fun r m' => r = m.1 274 (((16 : Int32) + (3 : Int32) * l3) + 1).toNatClampNeg ∧ m = m') ho ⟨rfl, rfl⟩) (k_i (fun r m' hr => ?_))
      obtain ⟨hr1, hr2⟩ := hr
      subst hr1
      subst hr2
      refine go_isub dX12_farFrom_30 ?_
      refine go_goto 41 dX12_farFrom_31 rfl ?_
      refine Gw.namei (fun x4 ex4 => ?_)
      have hF := hF x4 ex4
      refine go_istore (L' := [.ref (ga G 273), .int l1, .int l2, .int l3, .int x4]) dX12_farFrom_41 (Nat.le_of_ble_eq_true rfl) rfl ?_
      refine go_iload dX12_farFrom_43 rfl ?_
      refine go_iload_n dX12_farFrom_45 rfl ?_
      refine go_icmp_ge 54 dX12_farFrom_46 rfl ⟨fun hc => ?_, fun hc => ?_⟩
      · have hF := hF.1 hc
        refine go_iload_n dX12_farFrom_54 rfl ?_
        refine go_istore_n (L' := [.ref (ga G 273), .int l1, .int l2, .int l3, .int x4]) dX12_farFrom_55 (Nat.le_of_ble_eq_true rfl) rfl ?_
        obtain ⟨x5, ex5⟩ : ∃ z : Int32, z = l3 + 1 := ⟨_, rfl⟩
        have hF := hF x5 ex5
        refine go_iinc (v := x5) (L' := [.ref (ga G 273), .int l1, .int l2, .int x5, .int x4]) dX12_farFrom_56 rfl (by rw [ex5]; rfl) (Nat.le_of_ble_eq_true rfl) rfl ?_
        refine go_goto 5 dX12_farFrom_59 rfl ?_
        exact hF
      · have hF := hF.2 hc
        refine go_iload dX12_farFrom_49 rfl ?_
        refine go_goto 55 dX12_farFrom_51 rfl ?_
        refine go_istore_n (L' := [.ref (ga G 273), .int l1, .int x4, .int l3, .int x4]) dX12_farFrom_55 (Nat.le_of_ble_eq_true rfl) rfl ?_
        obtain ⟨x6, ex6⟩ : ∃ z : Int32, z = l3 + 1 := ⟨_, rfl⟩
        have hF := hF x6 ex6
        refine go_iinc (v := x6) (L' := [.ref (ga G 273), .int l1, .int x4, .int x6, .int x4]) dX12_farFrom_56 rfl (by rw [ex6]; rfl) (Nat.le_of_ble_eq_true rfl) rfl ?_
        refine go_goto 5 dX12_farFrom_59 rfl ?_
        exact hF
theorem vX12_newBell (G : GP) (d : Nat) (a0 : Int32) (m : Mem) (K : Int32 → Mem → Prop) (hF : Gw G (d + 2) mX12_newBell 2 [.ref (ga G 273), .int a0, .int 0] [] m (Qi K)) : Evi G (d + 2) mX12_newBell [.ref (ga G 273), .int a0] m K := by
  refine Ev.go [.ref (ga G 273), .int a0, uu] (by decide) (Nat.le_of_ble_eq_true rfl) rfl ?_
  refine go_iconst (v := 0) dX12_newBell_0 (by decide) ?_
  refine go_istore_n (L' := [.ref (ga G 273), .int a0, .int 0]) dX12_newBell_1 (Nat.le_of_ble_eq_true rfl) rfl ?_
  exact hF
theorem vX12_newBell_2 (G : GP) (d : Nat) (l1 : Int32) (l2 : Int32) (m : Mem) (K : Int32 → Mem → Prop) (hF : ((10 ≤ l2) → K (-1) m) ∧ ((¬ 10 ≤ l2) → ((1 ≤ l1 ∧ l1 ≤ 9) → Evi G (d + 1) mX12_farFrom [.ref (ga G 273), .int l2] m (fun r2 m1 => ((r2 < l1) → ∀ x3 : Int32, x3 = l2 + 1 → Gw G (d + 2) mX12_newBell 2 [.ref (ga G 273), .int l1, .int x3] [] m1 (Qi K)) ∧ ((¬ r2 < l1) → K l2 m1))) ∧ (¬ (1 ≤ l1 ∧ l1 ≤ 9) → K (-1) m))) : Gw G (d + 2) mX12_newBell 2 [.ref (ga G 273), .int l1, .int l2] [] m (Qi K) := by
  refine go_iload_n dX12_newBell_2 rfl ?_
  refine go_bipush (v := 10) dX12_newBell_3 (by decide) ?_
  refine go_icmp_ge 35 dX12_newBell_5 rfl ⟨fun hc => ?_, fun hc => ?_⟩
  · have hF := hF.1 hc
    refine go_iconst (v := -1) dX12_newBell_35 (by decide) ?_
    exact go_iret (S := []) dX12_newBell_36 rfl ⟨_, rfl, hF⟩
  · have hF := hF.2 hc
    refine go_iload_n dX12_newBell_8 rfl ?_
    refine go_iconst (v := 1) dX12_newBell_9 (by decide) ?_
    refine go_bipush (v := 9) dX12_newBell_10 (by decide) ?_
    rcases Classical.em (1 ≤ l1 ∧ l1 ≤ 9) with hp | hp
    · have hF := hF.1 hp
      refine go_callS mX12_isIn dX12_newBell_12 lm_X12_80 okX12_isIn isX12_isIn (As := [.int l1, .int 1, .int 9]) (S := []) rfl rfl (Nat.le_of_ble_eq_true rfl) (eX12_isIn G _ l1 1 9 m (fun r m' => r = 1 ∧ m = m') ⟨fun _ => ⟨rfl, rfl⟩, fun q => absurd hp q⟩) (k_i (fun r m' hr => ?_))
      obtain ⟨hr1, hr2⟩ := hr
      subst hr1
      subst hr2
      refine go_if_eq 35 dX12_newBell_15 rfl ⟨fun hc => absurd hc (by decide), fun _ => ?_⟩
      refine go_aload_n dX12_newBell_18 rfl ?_
      refine go_iload_n dX12_newBell_19 rfl ?_
      refine go_callV mX12_farFrom dX12_newBell_20 lm_X12_452 okX12_farFrom isX12_farFrom sh_273 rfl (As := [.int l2]) (S := []) rfl rfl (Nat.le_of_ble_eq_true rfl) hF (k_i (fun r2 m1 hF => ?_))
      refine go_iload_n dX12_newBell_23 rfl ?_
      refine go_icmp_lt 29 dX12_newBell_24 rfl ⟨fun hc => ?_, fun hc => ?_⟩
      · have hF := hF.1 hc
        obtain ⟨x3, ex3⟩ : ∃ z : Int32, z = l2 + 1 := ⟨_, rfl⟩
        have hF := hF x3 ex3
        refine go_iinc (v := x3) (L' := [.ref (ga G 273), .int l1, .int x3]) dX12_newBell_29 rfl (by rw [ex3]; rfl) (Nat.le_of_ble_eq_true rfl) rfl ?_
        refine go_goto 2 dX12_newBell_32 rfl ?_
        exact hF
      · have hF := hF.2 hc
        refine go_iload_n dX12_newBell_27 rfl ?_
        exact go_iret (S := []) dX12_newBell_28 rfl ⟨_, rfl, hF⟩
    · have hF := hF.2 hp
      refine go_callS mX12_isIn dX12_newBell_12 lm_X12_80 okX12_isIn isX12_isIn (As := [.int l1, .int 1, .int 9]) (S := []) rfl rfl (Nat.le_of_ble_eq_true rfl) (eX12_isIn G _ l1 1 9 m (fun r m' => r = 0 ∧ m = m') ⟨fun q => absurd q hp, fun _ => ⟨rfl, rfl⟩⟩) (k_i (fun r m' hr => ?_))
      obtain ⟨hr1, hr2⟩ := hr
      subst hr1
      subst hr2
      refine go_if_eq 35 dX12_newBell_15 rfl ⟨fun _ => ?_, fun hc => absurd hc (by decide)⟩
      refine go_iconst (v := -1) dX12_newBell_35 (by decide) ?_
      exact go_iret (S := []) dX12_newBell_36 rfl ⟨_, rfl, hF⟩
theorem vX12_farthest (G : GP) (d : Nat)  (m : Mem) (K : Int32 → Mem → Prop) (hF : Gw G (d + 2) mX12_farthest 4 [.ref (ga G 273), .int 0, .int 0] [] m (Qi K)) : Evi G (d + 2) mX12_farthest [.ref (ga G 273)] m K := by
  refine Ev.go [.ref (ga G 273), uu, uu] (by decide) (Nat.le_of_ble_eq_true rfl) rfl ?_
  refine go_iconst (v := 0) dX12_farthest_0 (by decide) ?_
  refine go_istore_n (L' := [.ref (ga G 273), .int 0, uu]) dX12_farthest_1 (Nat.le_of_ble_eq_true rfl) rfl ?_
  refine go_iconst (v := 0) dX12_farthest_2 (by decide) ?_
  refine go_istore_n (L' := [.ref (ga G 273), .int 0, .int 0]) dX12_farthest_3 (Nat.le_of_ble_eq_true rfl) rfl ?_
  exact hF
theorem vX12_farthest_4 (G : GP) (d : Nat) (l1 : Int32) (l2 : Int32) (m : Mem) (K : Int32 → Mem → Prop) (hF : ((10 ≤ l2) → K l1 m) ∧ ((¬ 10 ≤ l2) → Evi G (d + 1) mX12_farFrom [.ref (ga G 273), .int l2] m (fun r2 m1 => ((r2 ≤ l1) → ∀ x3 : Int32, x3 = l2 + 1 → Gw G (d + 2) mX12_farthest 4 [.ref (ga G 273), .int l1, .int x3] [] m1 (Qi K)) ∧ ((¬ r2 ≤ l1) → Evi G (d + 1) mX12_farFrom [.ref (ga G 273), .int l2] m1 (fun r5 m4 => ∀ x6 : Int32, x6 = l2 + 1 → Gw G (d + 2) mX12_farthest 4 [.ref (ga G 273), .int r5, .int x6] [] m4 (Qi K)))))) : Gw G (d + 2) mX12_farthest 4 [.ref (ga G 273), .int l1, .int l2] [] m (Qi K) := by
  refine go_iload_n dX12_farthest_4 rfl ?_
  refine go_bipush (v := 10) dX12_farthest_5 (by decide) ?_
  refine go_icmp_ge 35 dX12_farthest_7 rfl ⟨fun hc => ?_, fun hc => ?_⟩
  · have hF := hF.1 hc
    refine go_iload_n dX12_farthest_35 rfl ?_
    exact go_iret (S := []) dX12_farthest_36 rfl ⟨_, rfl, hF⟩
  · have hF := hF.2 hc
    refine go_aload_n dX12_farthest_10 rfl ?_
    refine go_iload_n dX12_farthest_11 rfl ?_
    refine go_callV mX12_farFrom dX12_farthest_12 lm_X12_452 okX12_farFrom isX12_farFrom sh_273 rfl (As := [.int l2]) (S := []) rfl rfl (Nat.le_of_ble_eq_true rfl) hF (k_i (fun r2 m1 hF => ?_))
    refine go_iload_n dX12_farthest_15 rfl ?_
    refine go_icmp_le 27 dX12_farthest_16 rfl ⟨fun hc => ?_, fun hc => ?_⟩
    · have hF := hF.1 hc
      refine go_iload_n dX12_farthest_27 rfl ?_
      refine go_istore_n (L' := [.ref (ga G 273), .int l1, .int l2]) dX12_farthest_28 (Nat.le_of_ble_eq_true rfl) rfl ?_
      obtain ⟨x3, ex3⟩ : ∃ z : Int32, z = l2 + 1 := ⟨_, rfl⟩
      have hF := hF x3 ex3
      refine go_iinc (v := x3) (L' := [.ref (ga G 273), .int l1, .int x3]) dX12_farthest_29 rfl (by rw [ex3]; rfl) (Nat.le_of_ble_eq_true rfl) rfl ?_
      refine go_goto 4 dX12_farthest_32 rfl ?_
      exact hF
    · have hF := hF.2 hc
      refine go_aload_n dX12_farthest_19 rfl ?_
      refine go_iload_n dX12_farthest_20 rfl ?_
      refine go_callV mX12_farFrom dX12_farthest_21 lm_X12_452 okX12_farFrom isX12_farFrom sh_273 rfl (As := [.int l2]) (S := []) rfl rfl (Nat.le_of_ble_eq_true rfl) hF (k_i (fun r5 m4 hF => ?_))
      refine go_goto 28 dX12_farthest_24 rfl ?_
      refine go_istore_n (L' := [.ref (ga G 273), .int r5, .int l2]) dX12_farthest_28 (Nat.le_of_ble_eq_true rfl) rfl ?_
      obtain ⟨x6, ex6⟩ : ∃ z : Int32, z = l2 + 1 := ⟨_, rfl⟩
      have hF := hF x6 ex6
      refine go_iinc (v := x6) (L' := [.ref (ga G 273), .int r5, .int x6]) dX12_farthest_29 rfl (by rw [ex6]; rfl) (Nat.le_of_ble_eq_true rfl) rfl ?_
      refine go_goto 4 dX12_farthest_32 rfl ?_
      exact hF
theorem vX12_ropes (G : GP) (d : Nat)  (m : Mem) (K : Int32 → Mem → Prop) (hF : Gw G (d + 1) mX12_ropes 4 [.ref (ga G 273), .int 0, .int 0] [] m (Qi K)) : Evi G (d + 1) mX12_ropes [.ref (ga G 273)] m K := by
  refine Ev.go [.ref (ga G 273), uu, uu] (by decide) (Nat.le_of_ble_eq_true rfl) rfl ?_
  refine go_iconst (v := 0) dX12_ropes_0 (by decide) ?_
  refine go_istore_n (L' := [.ref (ga G 273), .int 0, uu]) dX12_ropes_1 (Nat.le_of_ble_eq_true rfl) rfl ?_
  refine go_iconst (v := 0) dX12_ropes_2 (by decide) ?_
  refine go_istore_n (L' := [.ref (ga G 273), .int 0, .int 0]) dX12_ropes_3 (Nat.le_of_ble_eq_true rfl) rfl ?_
  exact hF
theorem vX12_ropes_4 (G : GP) (d : Nat) (l1 : Int32) (l2 : Int32) (m : Mem) (K : Int32 → Mem → Prop) (hF : (((m.1 274 0) ≤ l2) → K l1 m) ∧ ((¬ (m.1 274 0) ≤ l2) → vp_in (((16 : Int32) + (3 : Int32) * l2) + 2) 5968 ∧ (((m.1 274 11) < (m.1 274 (((16 : Int32) + (3 : Int32) * l2) + 2).toNatClampNeg)) → ∀ x1 : Int32, x1 = l1 ||| 0 → ∀ x2 : Int32, x2 = l2 + 1 → Gw G (d + 1) mX12_ropes 4 [.ref (ga G 273), .int x1, .int x2] [] m (Qi K)) ∧ ((¬ (m.1 274 11) < (m.1 274 (((16 : Int32) + (3 : Int32) * l2) + 2).toNatClampNeg)) → ∀ x3 : Int32, x3 = l1 ||| ((1 : Int32) <<< (l2 &&& 31)) → ∀ x4 : Int32, x4 = l2 + 1 → Gw G (d + 1) mX12_ropes 4 [.ref (ga G 273), .int x3, .int x4] [] m (Qi K)))) : Gw G (d + 1) mX12_ropes 4 [.ref (ga G 273), .int l1, .int l2] [] m (Qi K) := by
  refine go_iload_n dX12_ropes_4 rfl ?_
  refine go_aload_n dX12_ropes_5 rfl ?_
  refine go_getR (k := 0) (r := 274) dX12_ropes_6 sh_273 rfl inX12 (Nat.le_of_ble_eq_true rfl) lf_X12_7 rfl rfl ?_
  refine go_iconst (v := 0) dX12_ropes_9 (by decide) ?_
  refine go_ialdK (k := 0) dX12_ropes_10 sh_274 (vp_in_dec (by decide)) (by decide) ?_
  refine go_icmp_ge 45 dX12_ropes_11 rfl ⟨fun hc => ?_, fun hc => ?_⟩
  · have hF := hF.1 hc
    refine go_iload_n dX12_ropes_45 rfl ?_
    exact go_iret (S := []) dX12_ropes_46 rfl ⟨_, rfl, hF⟩
  · have hF := hF.2 hc
    refine go_iload_n dX12_ropes_14 rfl ?_
    refine go_aload_n dX12_ropes_15 rfl ?_
    refine go_iload_n dX12_ropes_16 rfl ?_
    obtain ⟨ho, hF⟩ := hF
    refine go_callV mX12_men dX12_ropes_17 lm_X12_302 okX12_men isX12_men sh_273 rfl (As := [.int l2]) (S := [.int l1]) rfl rfl (Nat.le_of_ble_eq_true rfl) (eX12_men G _ l2 m (fun r m' => r = m.1 274 (((16 : Int32) + (3 : Int32) * l2) + 2).toNatClampNeg ∧ m = m') ho ⟨rfl, rfl⟩) (k_i (fun r m' hr => ?_))
    obtain ⟨hr1, hr2⟩ := hr
    subst hr1
    subst hr2
    refine go_aload_n dX12_ropes_20 rfl ?_
    refine go_getR (k := 0) (r := 274) dX12_ropes_21 sh_273 rfl inX12 (Nat.le_of_ble_eq_true rfl) lf_X12_7 rfl rfl ?_
    refine go_bipush (v := 11) dX12_ropes_24 (by decide) ?_
    refine go_ialdK (k := 11) dX12_ropes_26 sh_274 (vp_in_dec (by decide)) (by decide) ?_
    refine go_icmp_gt 36 dX12_ropes_27 rfl ⟨fun hc => ?_, fun hc => ?_⟩
    · have hF := hF.1 hc
      refine go_iconst (v := 0) dX12_ropes_36 (by decide) ?_
      refine go_ior dX12_ropes_37 ?_
      refine Gw.namei (fun x1 ex1 => ?_)
      have hF := hF x1 ex1
      refine go_istore_n (L' := [.ref (ga G 273), .int x1, .int l2]) dX12_ropes_38 (Nat.le_of_ble_eq_true rfl) rfl ?_
      obtain ⟨x2, ex2⟩ : ∃ z : Int32, z = l2 + 1 := ⟨_, rfl⟩
      have hF := hF x2 ex2
      refine go_iinc (v := x2) (L' := [.ref (ga G 273), .int x1, .int x2]) dX12_ropes_39 rfl (by rw [ex2]; rfl) (Nat.le_of_ble_eq_true rfl) rfl ?_
      refine go_goto 4 dX12_ropes_42 rfl ?_
      exact hF
    · have hF := hF.2 hc
      refine go_iconst (v := 1) dX12_ropes_30 (by decide) ?_
      refine go_iload_n dX12_ropes_31 rfl ?_
      refine go_ishl dX12_ropes_32 ?_
      refine go_goto 37 dX12_ropes_33 rfl ?_
      refine go_ior dX12_ropes_37 ?_
      refine Gw.namei (fun x3 ex3 => ?_)
      have hF := hF x3 ex3
      refine go_istore_n (L' := [.ref (ga G 273), .int x3, .int l2]) dX12_ropes_38 (Nat.le_of_ble_eq_true rfl) rfl ?_
      obtain ⟨x4, ex4⟩ : ∃ z : Int32, z = l2 + 1 := ⟨_, rfl⟩
      have hF := hF x4 ex4
      refine go_iinc (v := x4) (L' := [.ref (ga G 273), .int x3, .int x4]) dX12_ropes_39 rfl (by rw [ex4]; rfl) (Nat.le_of_ble_eq_true rfl) rfl ?_
      refine go_goto 4 dX12_ropes_42 rfl ?_
      exact hF
theorem vX12_digitOf (G : GP) (d : Nat) (a0 : Int32) (a1 : Int32) (a2 : Int32) (m : Mem) (K : Int32 → Mem → Prop) (hF : ∀ x1 : Int32, x1 = a1 - 1 → Gw G (d) mX12_digitOf 7 [.int a0, .int a1, .int a2, .int a0, .int x1] [] m (Qi K)) : Evi G (d) mX12_digitOf [.int a0, .int a1, .int a2] m K := by
  refine Ev.go [.int a0, .int a1, .int a2, uu, uu] (by decide) (Nat.le_of_ble_eq_true rfl) rfl ?_
  refine go_iload_n dX12_digitOf_0 rfl ?_
  refine go_istore_n (L' := [.int a0, .int a1, .int a2, .int a0, uu]) dX12_digitOf_1 (Nat.le_of_ble_eq_true rfl) rfl ?_
  refine go_iload_n dX12_digitOf_2 rfl ?_
  refine go_iconst (v := 1) dX12_digitOf_3 (by decide) ?_
  refine go_isub dX12_digitOf_4 ?_
  refine Gw.namei (fun x1 ex1 => ?_)
  have hF := hF x1 ex1
  refine go_istore (L' := [.int a0, .int a1, .int a2, .int a0, .int x1]) dX12_digitOf_5 (Nat.le_of_ble_eq_true rfl) rfl ?_
  exact hF
theorem vX12_digitOf_7 (G : GP) (d : Nat) (u0 : Value) (u1 : Value) (l2 : Int32) (l3 : Int32) (l4 : Int32) (m : Mem) (K : Int32 → Mem → Prop) (hF : ((l4 ≤ l2) → K (l3 - l3 / 10 * 10) m) ∧ ((¬ l4 ≤ l2) → ∀ x2 : Int32, x2 = l3 / 10 → ∀ x3 : Int32, x3 = l4 + (-1) → Gw G (d) mX12_digitOf 7 [uu, uu, .int l2, .int x2, .int x3] [] m (Qi K))) : Gw G (d) mX12_digitOf 7 [u0, u1, .int l2, .int l3, .int l4] [] m (Qi K) := by
  refine Gw.weak (L' := [uu, uu, .int l2, .int l3, .int l4]) ⟨Or.inr rfl, Or.inr rfl, Or.inl rfl, Or.inl rfl, Or.inl rfl, trivial⟩ ?_
  refine go_iload dX12_digitOf_7 rfl ?_
  refine go_iload_n dX12_digitOf_9 rfl ?_
  refine go_icmp_le 24 dX12_digitOf_10 rfl ⟨fun hc => ?_, fun hc => ?_⟩
  · have hF := hF.1 hc
    refine go_iload_n dX12_digitOf_24 rfl ?_
    refine go_bipush (v := 10) dX12_digitOf_25 (by decide) ?_
    refine go_irem dX12_digitOf_27 (by decide) ?_
    exact go_iret (S := []) dX12_digitOf_28 rfl ⟨_, rfl, hF⟩
  · have hF := hF.2 hc
    refine go_iload_n dX12_digitOf_13 rfl ?_
    refine go_bipush (v := 10) dX12_digitOf_14 (by decide) ?_
    refine go_idiv dX12_digitOf_16 (by decide) ?_
    refine Gw.namei (fun x2 ex2 => ?_)
    have hF := hF x2 ex2
    refine go_istore_n (L' := [uu, uu, .int l2, .int x2, .int l4]) dX12_digitOf_17 (Nat.le_of_ble_eq_true rfl) rfl ?_
    obtain ⟨x3, ex3⟩ : ∃ z : Int32, z = l4 + (-1) := ⟨_, rfl⟩
    have hF := hF x3 ex3
    refine go_iinc (v := x3) (L' := [uu, uu, .int l2, .int x2, .int x3]) dX12_digitOf_18 rfl (by rw [ex3]; rfl) (Nat.le_of_ble_eq_true rfl) rfl ?_
    refine go_goto 7 dX12_digitOf_21 rfl ?_
    exact hF
theorem vX12_isRow (G : GP) (d : Nat) (a0 : Int32) (a1 : Int32) (m : Mem) (K : Int32 → Mem → Prop) (hF : Gw G (d + 1) mX12_isRow 4 [.int a0, .int a1, .int 0, .int 0] [] m (Qi K)) : Evi G (d + 1) mX12_isRow [.int a0, .int a1] m K := by
  refine Ev.go [.int a0, .int a1, uu, uu] (by decide) (Nat.le_of_ble_eq_true rfl) rfl ?_
  refine go_iconst (v := 0) dX12_isRow_0 (by decide) ?_
  refine go_istore_n (L' := [.int a0, .int a1, .int 0, uu]) dX12_isRow_1 (Nat.le_of_ble_eq_true rfl) rfl ?_
  refine go_iconst (v := 0) dX12_isRow_2 (by decide) ?_
  refine go_istore_n (L' := [.int a0, .int a1, .int 0, .int 0]) dX12_isRow_3 (Nat.le_of_ble_eq_true rfl) rfl ?_
  exact hF
theorem vX12_isRow_4 (G : GP) (d : Nat) (l0 : Int32) (l1 : Int32) (l2 : Int32) (l3 : Int32) (m : Mem) (K : Int32 → Mem → Prop) (hF : ((l1 ≤ l3) → ((¬ l2 = (((1 : Int32) <<< (l1 &&& 31)) - 1)) → K 0 m) ∧ ((l2 = (((1 : Int32) <<< (l1 &&& 31)) - 1)) → K 1 m)) ∧ ((¬ l1 ≤ l3) → Evi G (d) mX12_digitOf [.int l0, .int l1, .int l3] m (fun r2 m1 => ∀ x3 : Int32, x3 = l2 ||| ((1 : Int32) <<< (r2 &&& 31)) → ∀ x4 : Int32, x4 = l3 + 1 → Gw G (d + 1) mX12_isRow 4 [.int l0, .int l1, .int x3, .int x4] [] m1 (Qi K)))) : Gw G (d + 1) mX12_isRow 4 [.int l0, .int l1, .int l2, .int l3] [] m (Qi K) := by
  refine go_iload_n dX12_isRow_4 rfl ?_
  refine go_iload_n dX12_isRow_5 rfl ?_
  refine go_icmp_ge 26 dX12_isRow_6 rfl ⟨fun hc => ?_, fun hc => ?_⟩
  · have hF := hF.1 hc
    refine go_iload_n dX12_isRow_26 rfl ?_
    refine go_iconst (v := 1) dX12_isRow_27 (by decide) ?_
    refine go_iload_n dX12_isRow_28 rfl ?_
    refine go_ishl dX12_isRow_29 ?_
    refine go_iconst (v := 1) dX12_isRow_30 (by decide) ?_
    refine go_isub dX12_isRow_31 ?_
    refine go_icmp_ne 39 dX12_isRow_32 rfl ⟨fun hc => ?_, fun hc => ?_⟩
    · have hF := hF.1 hc
      refine go_iconst (v := 0) dX12_isRow_39 (by decide) ?_
      exact go_zret (S := []) dX12_isRow_40 rfl (by decide) ⟨_, rfl, hF⟩
    · have hF := hF.2 hc
      refine go_iconst (v := 1) dX12_isRow_35 (by decide) ?_
      refine go_goto 40 dX12_isRow_36 rfl ?_
      exact go_zret (S := []) dX12_isRow_40 rfl (by decide) ⟨_, rfl, hF⟩
  · have hF := hF.2 hc
    refine go_iload_n dX12_isRow_9 rfl ?_
    refine go_iconst (v := 1) dX12_isRow_10 (by decide) ?_
    refine go_iload_n dX12_isRow_11 rfl ?_
    refine go_iload_n dX12_isRow_12 rfl ?_
    refine go_iload_n dX12_isRow_13 rfl ?_
    refine go_callS mX12_digitOf dX12_isRow_14 lm_X12_455 okX12_digitOf isX12_digitOf (As := [.int l0, .int l1, .int l3]) (S := [.int 1, .int l2]) rfl rfl (Nat.le_of_ble_eq_true rfl) hF (k_i (fun r2 m1 hF => ?_))
    refine go_ishl dX12_isRow_17 ?_
    refine go_ior dX12_isRow_18 ?_
    refine Gw.namei (fun x3 ex3 => ?_)
    have hF := hF x3 ex3
    refine go_istore_n (L' := [.int l0, .int l1, .int x3, .int l3]) dX12_isRow_19 (Nat.le_of_ble_eq_true rfl) rfl ?_
    obtain ⟨x4, ex4⟩ : ∃ z : Int32, z = l3 + 1 := ⟨_, rfl⟩
    have hF := hF x4 ex4
    refine go_iinc (v := x4) (L' := [.int l0, .int l1, .int x3, .int x4]) dX12_isRow_20 rfl (by rw [ex4]; rfl) (Nat.le_of_ble_eq_true rfl) rfl ?_
    refine go_goto 4 dX12_isRow_23 rfl ?_
    exact hF
theorem vX12_tens (G : GP) (d : Nat) (a0 : Int32) (m : Mem) (K : Int32 → Mem → Prop) (hF : Gw G (d) mX12_tens 4 [.int a0, .int 1, .int 0] [] m (Qi K)) : Evi G (d) mX12_tens [.int a0] m K := by
  refine Ev.go [.int a0, uu, uu] (by decide) (Nat.le_of_ble_eq_true rfl) rfl ?_
  refine go_iconst (v := 1) dX12_tens_0 (by decide) ?_
  refine go_istore_n (L' := [.int a0, .int 1, uu]) dX12_tens_1 (Nat.le_of_ble_eq_true rfl) rfl ?_
  refine go_iconst (v := 0) dX12_tens_2 (by decide) ?_
  refine go_istore_n (L' := [.int a0, .int 1, .int 0]) dX12_tens_3 (Nat.le_of_ble_eq_true rfl) rfl ?_
  exact hF
theorem vX12_tens_4 (G : GP) (d : Nat) (l0 : Int32) (l1 : Int32) (l2 : Int32) (m : Mem) (K : Int32 → Mem → Prop) (hF : ((l0 ≤ l2) → K l1 m) ∧ ((¬ l0 ≤ l2) → ∀ x1 : Int32, x1 = l1 * 10 → ∀ x2 : Int32, x2 = l2 + 1 → Gw G (d) mX12_tens 4 [.int l0, .int x1, .int x2] [] m (Qi K))) : Gw G (d) mX12_tens 4 [.int l0, .int l1, .int l2] [] m (Qi K) := by
  refine go_iload_n dX12_tens_4 rfl ?_
  refine go_iload_n dX12_tens_5 rfl ?_
  refine go_icmp_ge 20 dX12_tens_6 rfl ⟨fun hc => ?_, fun hc => ?_⟩
  · have hF := hF.1 hc
    refine go_iload_n dX12_tens_20 rfl ?_
    exact go_iret (S := []) dX12_tens_21 rfl ⟨_, rfl, hF⟩
  · have hF := hF.2 hc
    refine go_iload_n dX12_tens_9 rfl ?_
    refine go_bipush (v := 10) dX12_tens_10 (by decide) ?_
    refine go_imul dX12_tens_12 ?_
    refine Gw.namei (fun x1 ex1 => ?_)
    have hF := hF x1 ex1
    refine go_istore_n (L' := [.int l0, .int x1, .int l2]) dX12_tens_13 (Nat.le_of_ble_eq_true rfl) rfl ?_
    obtain ⟨x2, ex2⟩ : ∃ z : Int32, z = l2 + 1 := ⟨_, rfl⟩
    have hF := hF x2 ex2
    refine go_iinc (v := x2) (L' := [.int l0, .int x1, .int x2]) dX12_tens_14 rfl (by rw [ex2]; rfl) (Nat.le_of_ble_eq_true rfl) rfl ?_
    refine go_goto 4 dX12_tens_17 rfl ?_
    exact hF
theorem vX12_layRows (G : GP) (d : Nat) (a0 : Int32) (m : Mem) (K : Mem → Prop) (hF : ∀ m1 : Mem, m1 = wI m 273 34 0 → Gw G (d + 2) mX12_layRows 7 [.ref (ga G 273), .int a0, .int 0] [] m1 (Qv K)) : Evv G (d + 2) mX12_layRows [.ref (ga G 273), .int a0] m K := by
  refine Ev.go [.ref (ga G 273), .int a0, uu] (by decide) (Nat.le_of_ble_eq_true rfl) rfl ?_
  refine go_aload_n dX12_layRows_0 rfl ?_
  refine go_iconst (v := 0) dX12_layRows_1 (by decide) ?_
  refine go_putI (k := 34) dX12_layRows_2 sh_273 rfl inX12 (Nat.le_of_ble_eq_true rfl) lf_X12_458 tyX12 tyX12_ok nmX12 rfl rfl (by decide +kernel) ?_
  obtain ⟨m1, em1⟩ : ∃ z : Mem, z = wI m 273 34 0 := ⟨_, rfl⟩
  rw [← em1]
  have hF := hF m1 em1
  refine go_iconst (v := 0) dX12_layRows_5 (by decide) ?_
  refine go_istore_n (L' := [.ref (ga G 273), .int a0, .int 0]) dX12_layRows_6 (Nat.le_of_ble_eq_true rfl) rfl ?_
  exact hF
theorem vX12_layRows_7 (G : GP) (d : Nat) (l1 : Int32) (l2 : Int32) (m : Mem) (K : Mem → Prop) (hF : Evi G (d + 1) mX12_tens [.int l1] m (fun r3 m2 => ((r3 ≤ l2) → K m2) ∧ ((¬ r3 ≤ l2) → Evi G (d + 1) mX12_isRow [.int l2, .int l1] m2 (fun r5 m4 => ((¬ r5 = 0) → vp_in (m4.1 273 34) 120 ∧ ∀ m6 : Mem, m6 = wI m4 291 (m4.1 273 34).toNatClampNeg l2 → vp_in (m6.1 273 34) 120 ∧ ∀ m7 : Mem, m7 = wI m6 292 (m6.1 273 34).toNatClampNeg (-1) → ∀ m8 : Mem, m8 = wI m7 273 34 ((m7.1 273 34) + 1) → ∀ x9 : Int32, x9 = l2 + 1 → Gw G (d + 2) mX12_layRows 7 [.ref (ga G 273), .int l1, .int x9] [] m8 (Qv K)) ∧ ((r5 = 0) → ∀ x10 : Int32, x10 = l2 + 1 → Gw G (d + 2) mX12_layRows 7 [.ref (ga G 273), .int l1, .int x10] [] m4 (Qv K)))))) : Gw G (d + 2) mX12_layRows 7 [.ref (ga G 273), .int l1, .int l2] [] m (Qv K) := by
  refine go_iload_n dX12_layRows_7 rfl ?_
  refine go_iload_n dX12_layRows_8 rfl ?_
  refine go_callS mX12_tens dX12_layRows_9 lm_X12_461 okX12_tens isX12_tens (As := [.int l1]) (S := [.int l2]) rfl rfl (Nat.le_of_ble_eq_true rfl) hF (k_i (fun r3 m2 hF => ?_))
  refine go_icmp_ge 62 dX12_layRows_12 rfl ⟨fun hc => ?_, fun hc => ?_⟩
  · have hF := hF.1 hc
    exact go_vret (S := []) dX12_layRows_62 rfl ⟨rfl, hF⟩
  · have hF := hF.2 hc
    refine go_iload_n dX12_layRows_15 rfl ?_
    refine go_iload_n dX12_layRows_16 rfl ?_
    refine go_callS mX12_isRow dX12_layRows_17 lm_X12_464 okX12_isRow isX12_isRow (As := [.int l2, .int l1]) (S := []) rfl rfl (Nat.le_of_ble_eq_true rfl) hF (k_i (fun r5 m4 hF => ?_))
    refine go_if_ne 26 dX12_layRows_20 rfl ⟨fun hc => ?_, fun hc => ?_⟩
    · have hF := hF.1 hc
      refine go_aload_n dX12_layRows_26 rfl ?_
      refine go_getR (k := 32) (r := 291) dX12_layRows_27 sh_273 rfl inX12 (Nat.le_of_ble_eq_true rfl) lf_X12_70 rfl rfl ?_
      refine go_aload_n dX12_layRows_30 rfl ?_
      refine go_getI (k := 34) dX12_layRows_31 sh_273 rfl inX12 (Nat.le_of_ble_eq_true rfl) lf_X12_458 rfl ?_
      refine go_iload_n dX12_layRows_34 rfl ?_
      obtain ⟨hi, hF⟩ := hF
      refine go_iast dX12_layRows_35 sh_291 hi ?_
      obtain ⟨m6, em6⟩ : ∃ z : Mem, z = wI m4 291 (m4.1 273 34).toNatClampNeg l2 := ⟨_, rfl⟩
      rw [← em6]
      have hF := hF m6 em6
      refine go_aload_n dX12_layRows_36 rfl ?_
      refine go_getR (k := 33) (r := 292) dX12_layRows_37 sh_273 rfl inX12 (Nat.le_of_ble_eq_true rfl) lf_X12_73 rfl rfl ?_
      refine go_aload_n dX12_layRows_40 rfl ?_
      refine go_getI (k := 34) dX12_layRows_41 sh_273 rfl inX12 (Nat.le_of_ble_eq_true rfl) lf_X12_458 rfl ?_
      refine go_iconst (v := -1) dX12_layRows_44 (by decide) ?_
      obtain ⟨hi, hF⟩ := hF
      refine go_iast dX12_layRows_45 sh_292 hi ?_
      obtain ⟨m7, em7⟩ : ∃ z : Mem, z = wI m6 292 (m6.1 273 34).toNatClampNeg (-1) := ⟨_, rfl⟩
      rw [← em7]
      have hF := hF m7 em7
      refine go_aload_n dX12_layRows_46 rfl ?_
      refine go_dup dX12_layRows_47 rfl ?_
      refine go_getI (k := 34) dX12_layRows_48 sh_273 rfl inX12 (Nat.le_of_ble_eq_true rfl) lf_X12_458 rfl ?_
      refine go_iconst (v := 1) dX12_layRows_51 (by decide) ?_
      refine go_iadd dX12_layRows_52 ?_
      refine go_putI (k := 34) dX12_layRows_53 sh_273 rfl inX12 (Nat.le_of_ble_eq_true rfl) lf_X12_458 tyX12 tyX12_ok nmX12 rfl rfl (by decide +kernel) ?_
      obtain ⟨m8, em8⟩ : ∃ z : Mem, z = wI m7 273 34 ((m7.1 273 34) + 1) := ⟨_, rfl⟩
      rw [← em8]
      have hF := hF m8 em8
      obtain ⟨x9, ex9⟩ : ∃ z : Int32, z = l2 + 1 := ⟨_, rfl⟩
      have hF := hF x9 ex9
      refine go_iinc (v := x9) (L' := [.ref (ga G 273), .int l1, .int x9]) dX12_layRows_56 rfl (by rw [ex9]; rfl) (Nat.le_of_ble_eq_true rfl) rfl ?_
      refine go_goto 7 dX12_layRows_59 rfl ?_
      exact hF
    · have hF := hF.2 hc
      refine go_goto 56 dX12_layRows_23 rfl ?_
      obtain ⟨x10, ex10⟩ : ∃ z : Int32, z = l2 + 1 := ⟨_, rfl⟩
      have hF := hF x10 ex10
      refine go_iinc (v := x10) (L' := [.ref (ga G 273), .int l1, .int x10]) dX12_layRows_56 rfl (by rw [ex10]; rfl) (Nat.le_of_ble_eq_true rfl) rfl ?_
      refine go_goto 7 dX12_layRows_59 rfl ?_
      exact hF
theorem vX12_isChange (G : GP) (d : Nat) (a0 : Int32) (a1 : Int32) (a2 : Int32) (m : Mem) (K : Int32 → Mem → Prop) (hF : Gw G (d + 1) mX12_isChange 2 [.int a0, .int a1, .int a2, .int 0] [] m (Qi K)) : Evi G (d + 1) mX12_isChange [.int a0, .int a1, .int a2] m K := by
  refine Ev.go [.int a0, .int a1, .int a2, uu] (by decide) (Nat.le_of_ble_eq_true rfl) rfl ?_
  refine go_iconst (v := 0) dX12_isChange_0 (by decide) ?_
  refine go_istore_n (L' := [.int a0, .int a1, .int a2, .int 0]) dX12_isChange_1 (Nat.le_of_ble_eq_true rfl) rfl ?_
  exact hF
theorem vX12_isChange_2 (G : GP) (d : Nat) (l0 : Int32) (l1 : Int32) (l2 : Int32) (l3 : Int32) (m : Mem) (K : Int32 → Mem → Prop) (hF : ((l2 ≤ l3) → ((l0 = l1) → K 0 m) ∧ ((¬ l0 = l1) → K 1 m)) ∧ ((¬ l2 ≤ l3) → Evi G (d) mX12_digitOf [.int l0, .int l2, .int l3] m (fun r2 m1 => Evi G (d) mX12_digitOf [.int l1, .int l2, .int l3] m1 (fun r4 m3 => ((¬ r2 = r4) → ((l2 ≤ (l3 + 1)) → K 0 m3) ∧ ((¬ l2 ≤ (l3 + 1)) → Evi G (d) mX12_digitOf [.int l0, .int l2, .int l3] m3 (fun r6 m5 => Evi G (d) mX12_digitOf [.int l1, .int l2, .int (l3 + 1)] m5 (fun r8 m7 => ((¬ r6 = r8) → K 0 m7) ∧ ((r6 = r8) → Evi G (d) mX12_digitOf [.int l0, .int l2, .int (l3 + 1)] m7 (fun r10 m9 => Evi G (d) mX12_digitOf [.int l1, .int l2, .int l3] m9 (fun r12 m11 => ((¬ r10 = r12) → K 0 m11) ∧ ((r10 = r12) → ∀ x13 : Int32, x13 = l3 + 2 → Gw G (d + 1) mX12_isChange 2 [.int l0, .int l1, .int l2, .int x13] [] m11 (Qi K))))))))) ∧ ((r2 = r4) → ∀ x14 : Int32, x14 = l3 + 1 → Gw G (d + 1) mX12_isChange 2 [.int l0, .int l1, .int l2, .int x14] [] m3 (Qi K)))))) : Gw G (d + 1) mX12_isChange 2 [.int l0, .int l1, .int l2, .int l3] [] m (Qi K) := by
  refine go_iload_n dX12_isChange_2 rfl ?_
  refine go_iload_n dX12_isChange_3 rfl ?_
  refine go_icmp_ge 77 dX12_isChange_4 rfl ⟨fun hc => ?_, fun hc => ?_⟩
  · have hF := hF.1 hc
    refine go_iload_n dX12_isChange_77 rfl ?_
    refine go_iload_n dX12_isChange_78 rfl ?_
    refine go_icmp_eq 86 dX12_isChange_79 rfl ⟨fun hc => ?_, fun hc => ?_⟩
    · have hF := hF.1 hc
      refine go_iconst (v := 0) dX12_isChange_86 (by decide) ?_
      exact go_zret (S := []) dX12_isChange_87 rfl (by decide) ⟨_, rfl, hF⟩
    · have hF := hF.2 hc
      refine go_iconst (v := 1) dX12_isChange_82 (by decide) ?_
      refine go_goto 87 dX12_isChange_83 rfl ?_
      exact go_zret (S := []) dX12_isChange_87 rfl (by decide) ⟨_, rfl, hF⟩
  · have hF := hF.2 hc
    refine go_iload_n dX12_isChange_7 rfl ?_
    refine go_iload_n dX12_isChange_8 rfl ?_
    refine go_iload_n dX12_isChange_9 rfl ?_
    refine go_callS mX12_digitOf dX12_isChange_10 lm_X12_455 okX12_digitOf isX12_digitOf (As := [.int l0, .int l2, .int l3]) (S := []) rfl rfl (Nat.le_of_ble_eq_true rfl) hF (k_i (fun r2 m1 hF => ?_))
    refine go_iload_n dX12_isChange_13 rfl ?_
    refine go_iload_n dX12_isChange_14 rfl ?_
    refine go_iload_n dX12_isChange_15 rfl ?_
    refine go_callS mX12_digitOf dX12_isChange_16 lm_X12_455 okX12_digitOf isX12_digitOf (As := [.int l1, .int l2, .int l3]) (S := [.int r2]) rfl rfl (Nat.le_of_ble_eq_true rfl) hF (k_i (fun r4 m3 hF => ?_))
    refine go_icmp_ne 28 dX12_isChange_19 rfl ⟨fun hc => ?_, fun hc => ?_⟩
    · have hF := hF.1 hc
      refine go_iload_n dX12_isChange_28 rfl ?_
      refine go_iconst (v := 1) dX12_isChange_29 (by decide) ?_
      refine go_iadd dX12_isChange_30 ?_
      refine go_iload_n dX12_isChange_31 rfl ?_
      refine go_icmp_ge 75 dX12_isChange_32 rfl ⟨fun hc => ?_, fun hc => ?_⟩
      · have hF := hF.1 hc
        refine go_iconst (v := 0) dX12_isChange_75 (by decide) ?_
        exact go_zret (S := []) dX12_isChange_76 rfl (by decide) ⟨_, rfl, hF⟩
      · have hF := hF.2 hc
        refine go_iload_n dX12_isChange_35 rfl ?_
        refine go_iload_n dX12_isChange_36 rfl ?_
        refine go_iload_n dX12_isChange_37 rfl ?_
        refine go_callS mX12_digitOf dX12_isChange_38 lm_X12_455 okX12_digitOf isX12_digitOf (As := [.int l0, .int l2, .int l3]) (S := []) rfl rfl (Nat.le_of_ble_eq_true rfl) hF (k_i (fun r6 m5 hF => ?_))
        refine go_iload_n dX12_isChange_41 rfl ?_
        refine go_iload_n dX12_isChange_42 rfl ?_
        refine go_iload_n dX12_isChange_43 rfl ?_
        refine go_iconst (v := 1) dX12_isChange_44 (by decide) ?_
        refine go_iadd dX12_isChange_45 ?_
        refine go_callS mX12_digitOf dX12_isChange_46 lm_X12_455 okX12_digitOf isX12_digitOf (As := [.int l1, .int l2, .int (l3 + 1)]) (S := [.int r6]) rfl rfl (Nat.le_of_ble_eq_true rfl) hF (k_i (fun r8 m7 hF => ?_))
        refine go_icmp_ne 75 dX12_isChange_49 rfl ⟨fun hc => ?_, fun hc => ?_⟩
        · have hF := hF.1 hc
          refine go_iconst (v := 0) dX12_isChange_75 (by decide) ?_
          exact go_zret (S := []) dX12_isChange_76 rfl (by decide) ⟨_, rfl, hF⟩
        · have hF := hF.2 hc
          refine go_iload_n dX12_isChange_52 rfl ?_
          refine go_iload_n dX12_isChange_53 rfl ?_
          refine go_iload_n dX12_isChange_54 rfl ?_
          refine go_iconst (v := 1) dX12_isChange_55 (by decide) ?_
          refine go_iadd dX12_isChange_56 ?_
          refine go_callS mX12_digitOf dX12_isChange_57 lm_X12_455 okX12_digitOf isX12_digitOf (As := [.int l0, .int l2, .int (l3 + 1)]) (S := []) rfl rfl (Nat.le_of_ble_eq_true rfl) hF (k_i (fun r10 m9 hF => ?_))
          refine go_iload_n dX12_isChange_60 rfl ?_
          refine go_iload_n dX12_isChange_61 rfl ?_
          refine go_iload_n dX12_isChange_62 rfl ?_
          refine go_callS mX12_digitOf dX12_isChange_63 lm_X12_455 okX12_digitOf isX12_digitOf (As := [.int l1, .int l2, .int l3]) (S := [.int r10]) rfl rfl (Nat.le_of_ble_eq_true rfl) hF (k_i (fun r12 m11 hF => ?_))
          refine go_icmp_ne 75 dX12_isChange_66 rfl ⟨fun hc => ?_, fun hc => ?_⟩
          · have hF := hF.1 hc
            refine go_iconst (v := 0) dX12_isChange_75 (by decide) ?_
            exact go_zret (S := []) dX12_isChange_76 rfl (by decide) ⟨_, rfl, hF⟩
          · have hF := hF.2 hc
            obtain ⟨x13, ex13⟩ : ∃ z : Int32, z = l3 + 2 := ⟨_, rfl⟩
            have hF := hF x13 ex13
            refine go_iinc (v := x13) (L' := [.int l0, .int l1, .int l2, .int x13]) dX12_isChange_69 rfl (by rw [ex13]; rfl) (Nat.le_of_ble_eq_true rfl) rfl ?_
            refine go_goto 2 dX12_isChange_72 rfl ?_
            exact hF
    · have hF := hF.2 hc
      obtain ⟨x14, ex14⟩ : ∃ z : Int32, z = l3 + 1 := ⟨_, rfl⟩
      have hF := hF x14 ex14
      refine go_iinc (v := x14) (L' := [.int l0, .int l1, .int l2, .int x14]) dX12_isChange_22 rfl (by rw [ex14]; rfl) (Nat.le_of_ble_eq_true rfl) rfl ?_
      refine go_goto 2 dX12_isChange_25 rfl ?_
      exact hF
theorem vX12_changes (G : GP) (d : Nat) (a0 : Int32) (a1 : Int32) (a2 : Int32) (a3 : Int32) (m : Mem) (K : Int32 → Mem → Prop) (hF : ((2 ≤ a0 ∧ a0 ≤ 5) → Evi G (d + 2) mX12_tens [.int a0] m (fun r2 m1 => ((0 ≤ a1 ∧ a1 ≤ (r2 - 1)) → Evi G (d + 2) mX12_tens [.int a0] m1 (fun r4 m3 => ((0 ≤ a2 ∧ a2 ≤ (r4 - 1)) → Evi G (d + 2) mX12_isRow [.int a1, .int a0] m3 (fun r6 m5 => ((r6 = 0) → K (-1) m5) ∧ ((¬ r6 = 0) → Evi G (d + 2) mX12_isRow [.int a2, .int a0] m5 (fun r8 m7 => ((¬ r8 = 0) → ((¬ a1 = a2) → Evv G (d + 2) mX12_layRows [.ref (ga G 273), .int a0] m7 (fun m9 => Gw G (d + 3) mX12_changes 79 [.ref (ga G 273), .int a0, .int a1, .int a2, .int a3, .int 0, uu, uu] [] m9 (Qi K))) ∧ ((a1 = a2) → ((a3 = 0) → K 0 m7) ∧ ((¬ a3 = 0) → K a1 m7))) ∧ ((r8 = 0) → K (-1) m7))))) ∧ (¬ (0 ≤ a2 ∧ a2 ≤ (r4 - 1)) → K (-1) m3))) ∧ (¬ (0 ≤ a1 ∧ a1 ≤ (r2 - 1)) → K (-1) m1))) ∧ (¬ (2 ≤ a0 ∧ a0 ≤ 5) → K (-1) m)) : Evi G (d + 3) mX12_changes [.ref (ga G 273), .int a0, .int a1, .int a2, .int a3] m K := by
  refine Ev.go [.ref (ga G 273), .int a0, .int a1, .int a2, .int a3, uu, uu, uu] (by decide) (Nat.le_of_ble_eq_true rfl) rfl ?_
  refine go_iload_n dX12_changes_0 rfl ?_
  refine go_iconst (v := 2) dX12_changes_1 (by decide) ?_
  refine go_iconst (v := 5) dX12_changes_2 (by decide) ?_
  rcases Classical.em (2 ≤ a0 ∧ a0 ≤ 5) with hp | hp
  · have hF := hF.1 hp
    refine go_callS mX12_isIn dX12_changes_3 lm_X12_80 okX12_isIn isX12_isIn (As := [.int a0, .int 2, .int 5]) (S := []) rfl rfl (Nat.le_of_ble_eq_true rfl) (eX12_isIn G _ a0 2 5 m (fun r m' => r = 1 ∧ m = m') ⟨fun _ => ⟨rfl, rfl⟩, fun q => absurd hp q⟩) (k_i (fun r m' hr => ?_))
    obtain ⟨hr1, hr2⟩ := hr
    subst hr1
    subst hr2
    refine go_if_eq 53 dX12_changes_6 rfl ⟨fun hc => absurd hc (by decide), fun _ => ?_⟩
    refine go_iload_n dX12_changes_9 rfl ?_
    refine go_iconst (v := 0) dX12_changes_10 (by decide) ?_
    refine go_iload_n dX12_changes_11 rfl ?_
    refine go_callS mX12_tens dX12_changes_12 lm_X12_461 okX12_tens isX12_tens (As := [.int a0]) (S := [.int 0, .int a1]) rfl rfl (Nat.le_of_ble_eq_true rfl) hF (k_i (fun r2 m1 hF => ?_))
    refine go_iconst (v := 1) dX12_changes_15 (by decide) ?_
    refine go_isub dX12_changes_16 ?_
    rcases Classical.em (0 ≤ a1 ∧ a1 ≤ (r2 - 1)) with hp | hp
    · have hF := hF.1 hp
      refine go_callS mX12_isIn dX12_changes_17 lm_X12_80 okX12_isIn isX12_isIn (As := [.int a1, .int 0, .int (r2 - 1)]) (S := []) rfl rfl (Nat.le_of_ble_eq_true rfl) (eX12_isIn G _ a1 0 (r2 - 1) m1 (fun r m' => r = 1 ∧ m1 = m') ⟨fun _ => ⟨rfl, rfl⟩, fun q => absurd hp q⟩) (k_i (fun r m' hr => ?_))
      obtain ⟨hr1, hr2⟩ := hr
      subst hr1
      subst hr2
      refine go_if_eq 53 dX12_changes_20 rfl ⟨fun hc => absurd hc (by decide), fun _ => ?_⟩
      refine go_iload_n dX12_changes_23 rfl ?_
      refine go_iconst (v := 0) dX12_changes_24 (by decide) ?_
      refine go_iload_n dX12_changes_25 rfl ?_
      refine go_callS mX12_tens dX12_changes_26 lm_X12_461 okX12_tens isX12_tens (As := [.int a0]) (S := [.int 0, .int a2]) rfl rfl (Nat.le_of_ble_eq_true rfl) hF (k_i (fun r4 m3 hF => ?_))
      refine go_iconst (v := 1) dX12_changes_29 (by decide) ?_
      refine go_isub dX12_changes_30 ?_
      rcases Classical.em (0 ≤ a2 ∧ a2 ≤ (r4 - 1)) with hp | hp
      · have hF := hF.1 hp
        refine go_callS mX12_isIn dX12_changes_31 lm_X12_80 okX12_isIn isX12_isIn (As := [.int a2, .int 0, .int (r4 - 1)]) (S := []) rfl rfl (Nat.le_of_ble_eq_true rfl) (eX12_isIn G _ a2 0 (r4 - 1) m3 (fun r m' => r = 1 ∧ m3 = m') ⟨fun _ => ⟨rfl, rfl⟩, fun q => absurd hp q⟩) (k_i (fun r m' hr => ?_))
        obtain ⟨hr1, hr2⟩ := hr
        subst hr1
        subst hr2
        refine go_if_eq 53 dX12_changes_34 rfl ⟨fun hc => absurd hc (by decide), fun _ => ?_⟩
        refine go_iload_n dX12_changes_37 rfl ?_
        refine go_iload_n dX12_changes_38 rfl ?_
        refine go_callS mX12_isRow dX12_changes_39 lm_X12_464 okX12_isRow isX12_isRow (As := [.int a1, .int a0]) (S := []) rfl rfl (Nat.le_of_ble_eq_true rfl) hF (k_i (fun r6 m5 hF => ?_))
        refine go_if_eq 53 dX12_changes_42 rfl ⟨fun hc => ?_, fun hc => ?_⟩
        · have hF := hF.1 hc
          refine go_iconst (v := -1) dX12_changes_53 (by decide) ?_
          exact go_iret (S := []) dX12_changes_54 rfl ⟨_, rfl, hF⟩
        · have hF := hF.2 hc
          refine go_iload_n dX12_changes_45 rfl ?_
          refine go_iload_n dX12_changes_46 rfl ?_
          refine go_callS mX12_isRow dX12_changes_47 lm_X12_464 okX12_isRow isX12_isRow (As := [.int a2, .int a0]) (S := []) rfl rfl (Nat.le_of_ble_eq_true rfl) hF (k_i (fun r8 m7 hF => ?_))
          refine go_if_ne 55 dX12_changes_50 rfl ⟨fun hc => ?_, fun hc => ?_⟩
          · have hF := hF.1 hc
            refine go_iload_n dX12_changes_55 rfl ?_
            refine go_iload_n dX12_changes_56 rfl ?_
            refine go_icmp_ne 71 dX12_changes_57 rfl ⟨fun hc => ?_, fun hc => ?_⟩
            · have hF := hF.1 hc
              refine go_aload_n dX12_changes_71 rfl ?_
              refine go_iload_n dX12_changes_72 rfl ?_
              refine go_callV mX12_layRows dX12_changes_73 lm_X12_467 okX12_layRows isX12_layRows sh_273 rfl (As := [.int a0]) (S := []) rfl rfl (Nat.le_of_ble_eq_true rfl) hF (k_v (fun m9 hF => ?_))
              refine go_iconst (v := 0) dX12_changes_76 (by decide) ?_
              refine go_istore (L' := [.ref (ga G 273), .int a0, .int a1, .int a2, .int a3, .int 0, uu, uu]) dX12_changes_77 (Nat.le_of_ble_eq_true rfl) rfl ?_
              exact hF
            · have hF := hF.2 hc
              refine go_iload dX12_changes_60 rfl ?_
              refine go_if_eq 69 dX12_changes_62 rfl ⟨fun hc => ?_, fun hc => ?_⟩
              · have hF := hF.1 hc
                refine go_iconst (v := 0) dX12_changes_69 (by decide) ?_
                exact go_iret (S := []) dX12_changes_70 rfl ⟨_, rfl, hF⟩
              · have hF := hF.2 hc
                refine go_iload_n dX12_changes_65 rfl ?_
                refine go_goto 70 dX12_changes_66 rfl ?_
                exact go_iret (S := []) dX12_changes_70 rfl ⟨_, rfl, hF⟩
          · have hF := hF.2 hc
            refine go_iconst (v := -1) dX12_changes_53 (by decide) ?_
            exact go_iret (S := []) dX12_changes_54 rfl ⟨_, rfl, hF⟩
      · have hF := hF.2 hp
        refine go_callS mX12_isIn dX12_changes_31 lm_X12_80 okX12_isIn isX12_isIn (As := [.int a2, .int 0, .int (r4 - 1)]) (S := []) rfl rfl (Nat.le_of_ble_eq_true rfl) (eX12_isIn G _ a2 0 (r4 - 1) m3 (fun r m' => r = 0 ∧ m3 = m') ⟨fun q => absurd q hp, fun _ => ⟨rfl, rfl⟩⟩) (k_i (fun r m' hr => ?_))
        obtain ⟨hr1, hr2⟩ := hr
        subst hr1
        subst hr2
        refine go_if_eq 53 dX12_changes_34 rfl ⟨fun _ => ?_, fun hc => absurd hc (by decide)⟩
        refine go_iconst (v := -1) dX12_changes_53 (by decide) ?_
        exact go_iret (S := []) dX12_changes_54 rfl ⟨_, rfl, hF⟩
    · have hF := hF.2 hp
      refine go_callS mX12_isIn dX12_changes_17 lm_X12_80 okX12_isIn isX12_isIn (As := [.int a1, .int 0, .int (r2 - 1)]) (S := []) rfl rfl (Nat.le_of_ble_eq_true rfl) (eX12_isIn G _ a1 0 (r2 - 1) m1 (fun r m' => r = 0 ∧ m1 = m') ⟨fun q => absurd q hp, fun _ => ⟨rfl, rfl⟩⟩) (k_i (fun r m' hr => ?_))
      obtain ⟨hr1, hr2⟩ := hr
      subst hr1
      subst hr2
      refine go_if_eq 53 dX12_changes_20 rfl ⟨fun _ => ?_, fun hc => absurd hc (by decide)⟩
      refine go_iconst (v := -1) dX12_changes_53 (by decide) ?_
      exact go_iret (S := []) dX12_changes_54 rfl ⟨_, rfl, hF⟩
  · have hF := hF.2 hp
    refine go_callS mX12_isIn dX12_changes_3 lm_X12_80 okX12_isIn isX12_isIn (As := [.int a0, .int 2, .int 5]) (S := []) rfl rfl (Nat.le_of_ble_eq_true rfl) (eX12_isIn G _ a0 2 5 m (fun r m' => r = 0 ∧ m = m') ⟨fun q => absurd q hp, fun _ => ⟨rfl, rfl⟩⟩) (k_i (fun r m' hr => ?_))
    obtain ⟨hr1, hr2⟩ := hr
    subst hr1
    subst hr2
    refine go_if_eq 53 dX12_changes_6 rfl ⟨fun _ => ?_, fun hc => absurd hc (by decide)⟩
    refine go_iconst (v := -1) dX12_changes_53 (by decide) ?_
    exact go_iret (S := []) dX12_changes_54 rfl ⟨_, rfl, hF⟩
theorem vX12_changes_79 (G : GP) (d : Nat) (l1 : Int32) (l2 : Int32) (l3 : Int32) (l4 : Int32) (l5 : Int32) (u6 : Value) (u7 : Value) (m : Mem) (K : Int32 → Mem → Prop) (hF : (((m.1 273 34) ≤ l5) → Gw G (d + 3) mX12_changes 120 [.ref (ga G 273), .int l1, .int l2, .int l3, .int l4, .int 0, uu, uu] [] m (Qi K)) ∧ ((¬ (m.1 273 34) ≤ l5) → vp_in l5 120 ∧ ((¬ (m.1 291 l5.toNatClampNeg) = l3) → vp_in l5 120 ∧ ∀ m10 : Mem, m10 = wI m 292 l5.toNatClampNeg (-1) → ∀ x11 : Int32, x11 = l5 + 1 → Gw G (d + 3) mX12_changes 79 [.ref (ga G 273), .int l1, .int l2, .int l3, .int l4, .int x11, uu, uu] [] m10 (Qi K)) ∧ (((m.1 291 l5.toNatClampNeg) = l3) → vp_in l5 120 ∧ ∀ m12 : Mem, m12 = wI m 292 l5.toNatClampNeg 0 → ∀ x13 : Int32, x13 = l5 + 1 → Gw G (d + 3) mX12_changes 79 [.ref (ga G 273), .int l1, .int l2, .int l3, .int l4, .int x13, uu, uu] [] m12 (Qi K)))) : Gw G (d + 3) mX12_changes 79 [.ref (ga G 273), .int l1, .int l2, .int l3, .int l4, .int l5, u6, u7] [] m (Qi K) := by
  refine Gw.weak (L' := [.ref (ga G 273), .int l1, .int l2, .int l3, .int l4, .int l5, uu, uu]) ⟨Or.inl rfl, Or.inl rfl, Or.inl rfl, Or.inl rfl, Or.inl rfl, Or.inl rfl, Or.inr rfl, Or.inr rfl, trivial⟩ ?_
  refine go_iload dX12_changes_79 rfl ?_
  refine go_aload_n dX12_changes_81 rfl ?_
  refine go_getI (k := 34) dX12_changes_82 sh_273 rfl inX12 (Nat.le_of_ble_eq_true rfl) lf_X12_458 rfl ?_
  refine go_icmp_ge 117 dX12_changes_85 rfl ⟨fun hc => ?_, fun hc => ?_⟩
  · have hF := hF.1 hc
    refine go_iconst (v := 0) dX12_changes_117 (by decide) ?_
    refine go_istore (L' := [.ref (ga G 273), .int l1, .int l2, .int l3, .int l4, .int 0, uu, uu]) dX12_changes_118 (Nat.le_of_ble_eq_true rfl) rfl ?_
    exact hF
  · have hF := hF.2 hc
    refine go_aload_n dX12_changes_88 rfl ?_
    refine go_getR (k := 33) (r := 292) dX12_changes_89 sh_273 rfl inX12 (Nat.le_of_ble_eq_true rfl) lf_X12_73 rfl rfl ?_
    refine go_iload dX12_changes_92 rfl ?_
    refine go_aload_n dX12_changes_94 rfl ?_
    refine go_getR (k := 32) (r := 291) dX12_changes_95 sh_273 rfl inX12 (Nat.le_of_ble_eq_true rfl) lf_X12_70 rfl rfl ?_
    refine go_iload dX12_changes_98 rfl ?_
    obtain ⟨hi, hF⟩ := hF
    refine go_iald dX12_changes_100 sh_291 hi ?_
    refine go_iload_n dX12_changes_101 rfl ?_
    refine go_icmp_ne 109 dX12_changes_102 rfl ⟨fun hc => ?_, fun hc => ?_⟩
    · have hF := hF.1 hc
      refine go_iconst (v := -1) dX12_changes_109 (by decide) ?_
      obtain ⟨hi, hF⟩ := hF
      refine go_iast dX12_changes_110 sh_292 hi ?_
      obtain ⟨m10, em10⟩ : ∃ z : Mem, z = wI m 292 l5.toNatClampNeg (-1) := ⟨_, rfl⟩
      rw [← em10]
      have hF := hF m10 em10
      obtain ⟨x11, ex11⟩ : ∃ z : Int32, z = l5 + 1 := ⟨_, rfl⟩
      have hF := hF x11 ex11
      refine go_iinc (v := x11) (L' := [.ref (ga G 273), .int l1, .int l2, .int l3, .int l4, .int x11, uu, uu]) dX12_changes_111 rfl (by rw [ex11]; rfl) (Nat.le_of_ble_eq_true rfl) rfl ?_
      refine go_goto 79 dX12_changes_114 rfl ?_
      exact hF
    · have hF := hF.2 hc
      refine go_iconst (v := 0) dX12_changes_105 (by decide) ?_
      refine go_goto 110 dX12_changes_106 rfl ?_
      obtain ⟨hi, hF⟩ := hF
      refine go_iast dX12_changes_110 sh_292 hi ?_
      obtain ⟨m12, em12⟩ : ∃ z : Mem, z = wI m 292 l5.toNatClampNeg 0 := ⟨_, rfl⟩
      rw [← em12]
      have hF := hF m12 em12
      obtain ⟨x13, ex13⟩ : ∃ z : Int32, z = l5 + 1 := ⟨_, rfl⟩
      have hF := hF x13 ex13
      refine go_iinc (v := x13) (L' := [.ref (ga G 273), .int l1, .int l2, .int l3, .int l4, .int x13, uu, uu]) dX12_changes_111 rfl (by rw [ex13]; rfl) (Nat.le_of_ble_eq_true rfl) rfl ?_
      refine go_goto 79 dX12_changes_114 rfl ?_
      exact hF
theorem vX12_changes_120 (G : GP) (d : Nat) (l1 : Int32) (l2 : Int32) (u3 : Value) (l4 : Int32) (l5 : Int32) (u6 : Value) (u7 : Value) (m : Mem) (K : Int32 → Mem → Prop) (hF : (((m.1 273 34) ≤ l5) → K (-1) m) ∧ ((¬ (m.1 273 34) ≤ l5) → Gw G (d + 3) mX12_changes 132 [.ref (ga G 273), .int l1, .int l2, uu, .int l4, .int l5, .int 0, uu] [] m (Qi K))) : Gw G (d + 3) mX12_changes 120 [.ref (ga G 273), .int l1, .int l2, u3, .int l4, .int l5, u6, u7] [] m (Qi K) := by
  refine Gw.weak (L' := [.ref (ga G 273), .int l1, .int l2, uu, .int l4, .int l5, uu, uu]) ⟨Or.inl rfl, Or.inl rfl, Or.inl rfl, Or.inr rfl, Or.inl rfl, Or.inl rfl, Or.inr rfl, Or.inr rfl, trivial⟩ ?_
  refine go_iload dX12_changes_120 rfl ?_
  refine go_aload_n dX12_changes_122 rfl ?_
  refine go_getI (k := 34) dX12_changes_123 sh_273 rfl inX12 (Nat.le_of_ble_eq_true rfl) lf_X12_458 rfl ?_
  refine go_icmp_ge 278 dX12_changes_126 rfl ⟨fun hc => ?_, fun hc => ?_⟩
  · have hF := hF.1 hc
    refine go_iconst (v := -1) dX12_changes_278 (by decide) ?_
    exact go_iret (S := []) dX12_changes_279 rfl ⟨_, rfl, hF⟩
  · have hF := hF.2 hc
    refine go_iconst (v := 0) dX12_changes_129 (by decide) ?_
    refine go_istore (L' := [.ref (ga G 273), .int l1, .int l2, uu, .int l4, .int l5, .int 0, uu]) dX12_changes_130 (Nat.le_of_ble_eq_true rfl) rfl ?_
    exact hF
theorem vX12_changes_132 (G : GP) (d : Nat) (l1 : Int32) (l2 : Int32) (u3 : Value) (l4 : Int32) (l5 : Int32) (l6 : Int32) (u7 : Value) (m : Mem) (K : Int32 → Mem → Prop) (hF : (((m.1 273 34) ≤ l6) → ∀ x14 : Int32, x14 = l5 + 1 → Gw G (d + 3) mX12_changes 120 [.ref (ga G 273), .int l1, .int l2, uu, .int l4, .int x14, .int l6, uu] [] m (Qi K)) ∧ ((¬ (m.1 273 34) ≤ l6) → vp_in l6 120 ∧ ((¬ (m.1 291 l6.toNatClampNeg) = l2) → Gw G (d + 3) mX12_changes 196 [.ref (ga G 273), .int l1, .int l2, uu, .int l4, .int l5, .int l6, .int 0] [] m (Qi K)) ∧ (((m.1 291 l6.toNatClampNeg) = l2) → vp_in l6 120 ∧ (((m.1 292 l6.toNatClampNeg) < 0) → Gw G (d + 3) mX12_changes 196 [.ref (ga G 273), .int l1, .int l2, uu, .int l4, .int l5, .int l6, .int 0] [] m (Qi K)) ∧ ((¬ (m.1 292 l6.toNatClampNeg) < 0) → ((l4 = 0) → vp_in l6 120 ∧ K (m.1 292 l6.toNatClampNeg) m) ∧ ((¬ l4 = 0) → vp_in l6 120 ∧ Evi G (d + 2) mX12_nextOf [.ref (ga G 273), .int l2, .int l1, .int ((m.1 292 l6.toNatClampNeg) - 1)] m (fun r16 m15 => K r16 m15)))))) : Gw G (d + 3) mX12_changes 132 [.ref (ga G 273), .int l1, .int l2, u3, .int l4, .int l5, .int l6, u7] [] m (Qi K) := by
  refine Gw.weak (L' := [.ref (ga G 273), .int l1, .int l2, uu, .int l4, .int l5, .int l6, uu]) ⟨Or.inl rfl, Or.inl rfl, Or.inl rfl, Or.inr rfl, Or.inl rfl, Or.inl rfl, Or.inl rfl, Or.inr rfl, trivial⟩ ?_
  refine go_iload dX12_changes_132 rfl ?_
  refine go_aload_n dX12_changes_134 rfl ?_
  refine go_getI (k := 34) dX12_changes_135 sh_273 rfl inX12 (Nat.le_of_ble_eq_true rfl) lf_X12_458 rfl ?_
  refine go_icmp_ge 272 dX12_changes_138 rfl ⟨fun hc => ?_, fun hc => ?_⟩
  · have hF := hF.1 hc
    obtain ⟨x14, ex14⟩ : ∃ z : Int32, z = l5 + 1 := ⟨_, rfl⟩
    have hF := hF x14 ex14
    refine go_iinc (v := x14) (L' := [.ref (ga G 273), .int l1, .int l2, uu, .int l4, .int x14, .int l6, uu]) dX12_changes_272 rfl (by rw [ex14]; rfl) (Nat.le_of_ble_eq_true rfl) rfl ?_
    refine go_goto 120 dX12_changes_275 rfl ?_
    exact hF
  · have hF := hF.2 hc
    refine go_aload_n dX12_changes_141 rfl ?_
    refine go_getR (k := 32) (r := 291) dX12_changes_142 sh_273 rfl inX12 (Nat.le_of_ble_eq_true rfl) lf_X12_70 rfl rfl ?_
    refine go_iload dX12_changes_145 rfl ?_
    obtain ⟨hi, hF⟩ := hF
    refine go_iald dX12_changes_147 sh_291 hi ?_
    refine go_iload_n dX12_changes_148 rfl ?_
    refine go_icmp_ne 193 dX12_changes_149 rfl ⟨fun hc => ?_, fun hc => ?_⟩
    · have hF := hF.1 hc
      refine go_iconst (v := 0) dX12_changes_193 (by decide) ?_
      refine go_istore (L' := [.ref (ga G 273), .int l1, .int l2, uu, .int l4, .int l5, .int l6, .int 0]) dX12_changes_194 (Nat.le_of_ble_eq_true rfl) rfl ?_
      exact hF
    · have hF := hF.2 hc
      refine go_aload_n dX12_changes_152 rfl ?_
      refine go_getR (k := 33) (r := 292) dX12_changes_153 sh_273 rfl inX12 (Nat.le_of_ble_eq_true rfl) lf_X12_73 rfl rfl ?_
      refine go_iload dX12_changes_156 rfl ?_
      obtain ⟨hi, hF⟩ := hF
      refine go_iald dX12_changes_158 sh_292 hi ?_
      refine go_if_lt 193 dX12_changes_159 rfl ⟨fun hc => ?_, fun hc => ?_⟩
      · have hF := hF.1 hc
        refine go_iconst (v := 0) dX12_changes_193 (by decide) ?_
        refine go_istore (L' := [.ref (ga G 273), .int l1, .int l2, uu, .int l4, .int l5, .int l6, .int 0]) dX12_changes_194 (Nat.le_of_ble_eq_true rfl) rfl ?_
        exact hF
      · have hF := hF.2 hc
        refine go_iload dX12_changes_162 rfl ?_
        refine go_if_eq 185 dX12_changes_164 rfl ⟨fun hc => ?_, fun hc => ?_⟩
        · have hF := hF.1 hc
          refine go_aload_n dX12_changes_185 rfl ?_
          refine go_getR (k := 33) (r := 292) dX12_changes_186 sh_273 rfl inX12 (Nat.le_of_ble_eq_true rfl) lf_X12_73 rfl rfl ?_
          refine go_iload dX12_changes_189 rfl ?_
          obtain ⟨hi, hF⟩ := hF
          refine go_iald dX12_changes_191 sh_292 hi ?_
          exact go_iret (S := []) dX12_changes_192 rfl ⟨_, rfl, hF⟩
        · have hF := hF.2 hc
          refine go_aload_n dX12_changes_167 rfl ?_
          refine go_iload_n dX12_changes_168 rfl ?_
          refine go_iload_n dX12_changes_169 rfl ?_
          refine go_aload_n dX12_changes_170 rfl ?_
          refine go_getR (k := 33) (r := 292) dX12_changes_171 sh_273 rfl inX12 (Nat.le_of_ble_eq_true rfl) lf_X12_73 rfl rfl ?_
          refine go_iload dX12_changes_174 rfl ?_
          obtain ⟨hi, hF⟩ := hF
          refine go_iald dX12_changes_176 sh_292 hi ?_
          refine go_iconst (v := 1) dX12_changes_177 (by decide) ?_
          refine go_isub dX12_changes_178 ?_
          refine go_callV mX12_nextOf dX12_changes_179 lm_X12_470 okX12_nextOf isX12_nextOf sh_273 rfl (As := [.int l2, .int l1, .int ((m.1 292 l6.toNatClampNeg) - 1)]) (S := []) rfl rfl (Nat.le_of_ble_eq_true rfl) hF (k_i (fun r16 m15 hF => ?_))
          refine go_goto 192 dX12_changes_182 rfl ?_
          exact go_iret (S := []) dX12_changes_192 rfl ⟨_, rfl, hF⟩
theorem vX12_changes_196 (G : GP) (d : Nat) (l1 : Int32) (l2 : Int32) (u3 : Value) (l4 : Int32) (l5 : Int32) (l6 : Int32) (l7 : Int32) (m : Mem) (K : Int32 → Mem → Prop) (hF : (((m.1 273 34) ≤ l7) → ∀ x17 : Int32, x17 = l6 + 1 → Gw G (d + 3) mX12_changes 132 [.ref (ga G 273), .int l1, .int l2, uu, .int l4, .int l5, .int x17, .int l7] [] m (Qi K)) ∧ ((¬ (m.1 273 34) ≤ l7) → vp_in l6 120 ∧ ((¬ (m.1 292 l6.toNatClampNeg) = l5) → ∀ x18 : Int32, x18 = l6 + 1 → Gw G (d + 3) mX12_changes 132 [.ref (ga G 273), .int l1, .int l2, uu, .int l4, .int l5, .int x18, .int l7] [] m (Qi K)) ∧ (((m.1 292 l6.toNatClampNeg) = l5) → vp_in l7 120 ∧ ((¬ (m.1 292 l7.toNatClampNeg) = (-1)) → ∀ x19 : Int32, x19 = l7 + 1 → Gw G (d + 3) mX12_changes 196 [.ref (ga G 273), .int l1, .int l2, uu, .int l4, .int l5, .int l6, .int x19] [] m (Qi K)) ∧ (((m.1 292 l7.toNatClampNeg) = (-1)) → vp_in l6 120 ∧ vp_in l7 120 ∧ Evi G (d + 2) mX12_isChange [.int (m.1 291 l6.toNatClampNeg), .int (m.1 291 l7.toNatClampNeg), .int l1] m (fun r21 m20 => ((r21 = 0) → ∀ x22 : Int32, x22 = l7 + 1 → Gw G (d + 3) mX12_changes 196 [.ref (ga G 273), .int l1, .int l2, uu, .int l4, .int l5, .int l6, .int x22] [] m20 (Qi K)) ∧ ((¬ r21 = 0) → vp_in l7 120 ∧ ∀ m23 : Mem, m23 = wI m20 292 l7.toNatClampNeg (l5 + 1) → ∀ x24 : Int32, x24 = l7 + 1 → Gw G (d + 3) mX12_changes 196 [.ref (ga G 273), .int l1, .int l2, uu, .int l4, .int l5, .int l6, .int x24] [] m23 (Qi K))))))) : Gw G (d + 3) mX12_changes 196 [.ref (ga G 273), .int l1, .int l2, u3, .int l4, .int l5, .int l6, .int l7] [] m (Qi K) := by
  refine Gw.weak (L' := [.ref (ga G 273), .int l1, .int l2, uu, .int l4, .int l5, .int l6, .int l7]) ⟨Or.inl rfl, Or.inl rfl, Or.inl rfl, Or.inr rfl, Or.inl rfl, Or.inl rfl, Or.inl rfl, Or.inl rfl, trivial⟩ ?_
  refine go_iload dX12_changes_196 rfl ?_
  refine go_aload_n dX12_changes_198 rfl ?_
  refine go_getI (k := 34) dX12_changes_199 sh_273 rfl inX12 (Nat.le_of_ble_eq_true rfl) lf_X12_458 rfl ?_
  refine go_icmp_ge 266 dX12_changes_202 rfl ⟨fun hc => ?_, fun hc => ?_⟩
  · have hF := hF.1 hc
    obtain ⟨x17, ex17⟩ : ∃ z : Int32, z = l6 + 1 := ⟨_, rfl⟩
    have hF := hF x17 ex17
    refine go_iinc (v := x17) (L' := [.ref (ga G 273), .int l1, .int l2, uu, .int l4, .int l5, .int x17, .int l7]) dX12_changes_266 rfl (by rw [ex17]; rfl) (Nat.le_of_ble_eq_true rfl) rfl ?_
    refine go_goto 132 dX12_changes_269 rfl ?_
    exact hF
  · have hF := hF.2 hc
    refine go_aload_n dX12_changes_205 rfl ?_
    refine go_getR (k := 33) (r := 292) dX12_changes_206 sh_273 rfl inX12 (Nat.le_of_ble_eq_true rfl) lf_X12_73 rfl rfl ?_
    refine go_iload dX12_changes_209 rfl ?_
    obtain ⟨hi, hF⟩ := hF
    refine go_iald dX12_changes_211 sh_292 hi ?_
    refine go_iload dX12_changes_212 rfl ?_
    refine go_icmp_ne 266 dX12_changes_214 rfl ⟨fun hc => ?_, fun hc => ?_⟩
    · have hF := hF.1 hc
      obtain ⟨x18, ex18⟩ : ∃ z : Int32, z = l6 + 1 := ⟨_, rfl⟩
      have hF := hF x18 ex18
      refine go_iinc (v := x18) (L' := [.ref (ga G 273), .int l1, .int l2, uu, .int l4, .int l5, .int x18, .int l7]) dX12_changes_266 rfl (by rw [ex18]; rfl) (Nat.le_of_ble_eq_true rfl) rfl ?_
      refine go_goto 132 dX12_changes_269 rfl ?_
      exact hF
    · have hF := hF.2 hc
      refine go_aload_n dX12_changes_217 rfl ?_
      refine go_getR (k := 33) (r := 292) dX12_changes_218 sh_273 rfl inX12 (Nat.le_of_ble_eq_true rfl) lf_X12_73 rfl rfl ?_
      refine go_iload dX12_changes_221 rfl ?_
      obtain ⟨hi, hF⟩ := hF
      refine go_iald dX12_changes_223 sh_292 hi ?_
      refine go_iconst (v := -1) dX12_changes_224 (by decide) ?_
      refine go_icmp_ne 260 dX12_changes_225 rfl ⟨fun hc => ?_, fun hc => ?_⟩
      · have hF := hF.1 hc
        obtain ⟨x19, ex19⟩ : ∃ z : Int32, z = l7 + 1 := ⟨_, rfl⟩
        have hF := hF x19 ex19
        refine go_iinc (v := x19) (L' := [.ref (ga G 273), .int l1, .int l2, uu, .int l4, .int l5, .int l6, .int x19]) dX12_changes_260 rfl (by rw [ex19]; rfl) (Nat.le_of_ble_eq_true rfl) rfl ?_
        refine go_goto 196 dX12_changes_263 rfl ?_
        exact hF
      · have hF := hF.2 hc
        refine go_aload_n dX12_changes_228 rfl ?_
        refine go_getR (k := 32) (r := 291) dX12_changes_229 sh_273 rfl inX12 (Nat.le_of_ble_eq_true rfl) lf_X12_70 rfl rfl ?_
        refine go_iload dX12_changes_232 rfl ?_
        obtain ⟨hi, hF⟩ := hF
        refine go_iald dX12_changes_234 sh_291 hi ?_
        refine go_aload_n dX12_changes_235 rfl ?_
        refine go_getR (k := 32) (r := 291) dX12_changes_236 sh_273 rfl inX12 (Nat.le_of_ble_eq_true rfl) lf_X12_70 rfl rfl ?_
        refine go_iload dX12_changes_239 rfl ?_
        obtain ⟨hi, hF⟩ := hF
        refine go_iald dX12_changes_241 sh_291 hi ?_
        refine go_iload_n dX12_changes_242 rfl ?_
        refine go_callS mX12_isChange dX12_changes_243 lm_X12_473 okX12_isChange isX12_isChange (As := [.int (m.1 291 l6.toNatClampNeg), .int (m.1 291 l7.toNatClampNeg), .int l1]) (S := []) rfl rfl (Nat.le_of_ble_eq_true rfl) hF (k_i (fun r21 m20 hF => ?_))
        refine go_if_eq 260 dX12_changes_246 rfl ⟨fun hc => ?_, fun hc => ?_⟩
        · have hF := hF.1 hc
          obtain ⟨x22, ex22⟩ : ∃ z : Int32, z = l7 + 1 := ⟨_, rfl⟩
          have hF := hF x22 ex22
          refine go_iinc (v := x22) (L' := [.ref (ga G 273), .int l1, .int l2, uu, .int l4, .int l5, .int l6, .int x22]) dX12_changes_260 rfl (by rw [ex22]; rfl) (Nat.le_of_ble_eq_true rfl) rfl ?_
          refine go_goto 196 dX12_changes_263 rfl ?_
          exact hF
        · have hF := hF.2 hc
          refine go_aload_n dX12_changes_249 rfl ?_
          refine go_getR (k := 33) (r := 292) dX12_changes_250 sh_273 rfl inX12 (Nat.le_of_ble_eq_true rfl) lf_X12_73 rfl rfl ?_
          refine go_iload dX12_changes_253 rfl ?_
          refine go_iload dX12_changes_255 rfl ?_
          refine go_iconst (v := 1) dX12_changes_257 (by decide) ?_
          refine go_iadd dX12_changes_258 ?_
          obtain ⟨hi, hF⟩ := hF
          refine go_iast dX12_changes_259 sh_292 hi ?_
          obtain ⟨m23, em23⟩ : ∃ z : Mem, z = wI m20 292 l7.toNatClampNeg (l5 + 1) := ⟨_, rfl⟩
          rw [← em23]
          have hF := hF m23 em23
          obtain ⟨x24, ex24⟩ : ∃ z : Int32, z = l7 + 1 := ⟨_, rfl⟩
          have hF := hF x24 ex24
          refine go_iinc (v := x24) (L' := [.ref (ga G 273), .int l1, .int l2, uu, .int l4, .int l5, .int l6, .int x24]) dX12_changes_260 rfl (by rw [ex24]; rfl) (Nat.le_of_ble_eq_true rfl) rfl ?_
          refine go_goto 196 dX12_changes_263 rfl ?_
          exact hF
