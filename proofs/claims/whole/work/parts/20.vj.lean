theorem vJ6_bitCount_0f7a4 (G : GP) (d : Nat) (a0 : Int32) (m : Mem) (K : Int32 → Mem → Prop) (hF : ∀ x1 : Int32, x1 = a0 - (((a0.toUInt32 >>> ((1 : Int32).toUInt32 &&& Int32.toUInt32 31)).toInt32) &&& 1431655765) → ∀ x2 : Int32, x2 = (x1 &&& 858993459) + (((x1.toUInt32 >>> ((2 : Int32).toUInt32 &&& Int32.toUInt32 31)).toInt32) &&& 858993459) → ∀ x3 : Int32, x3 = (x2 + ((x2.toUInt32 >>> ((4 : Int32).toUInt32 &&& Int32.toUInt32 31)).toInt32)) &&& 252645135 → ∀ x4 : Int32, x4 = x3 + ((x3.toUInt32 >>> ((8 : Int32).toUInt32 &&& Int32.toUInt32 31)).toInt32) → ∀ x5 : Int32, x5 = x4 + ((x4.toUInt32 >>> ((16 : Int32).toUInt32 &&& Int32.toUInt32 31)).toInt32) → K (x5 &&& 63) m) : Evi G (d) mJ6_bitCount_0f7a4 [.int a0] m K := by
  refine Ev.go [.int a0] (by decide) (Nat.le_of_ble_eq_true rfl) rfl ?_
  refine go_iload_n dJ6_bitCount_0f7a4_0 rfl ?_
  refine go_iload_n dJ6_bitCount_0f7a4_1 rfl ?_
  refine go_iconst (v := 1) dJ6_bitCount_0f7a4_2 (by decide) ?_
  refine go_iushr dJ6_bitCount_0f7a4_3 ?_
  refine go_ldcw (v := 1431655765) dJ6_bitCount_0f7a4_4 lc_J6_265 ?_
  refine go_iand dJ6_bitCount_0f7a4_7 ?_
  refine go_isub dJ6_bitCount_0f7a4_8 ?_
  refine Gw.namei (fun x1 ex1 => ?_)
  have hF := hF x1 ex1
  refine go_istore_n (L' := [.int x1]) dJ6_bitCount_0f7a4_9 (Nat.le_of_ble_eq_true rfl) rfl ?_
  refine go_iload_n dJ6_bitCount_0f7a4_10 rfl ?_
  refine go_ldcw (v := 858993459) dJ6_bitCount_0f7a4_11 lc_J6_266 ?_
  refine go_iand dJ6_bitCount_0f7a4_14 ?_
  refine go_iload_n dJ6_bitCount_0f7a4_15 rfl ?_
  refine go_iconst (v := 2) dJ6_bitCount_0f7a4_16 (by decide) ?_
  refine go_iushr dJ6_bitCount_0f7a4_17 ?_
  refine go_ldcw (v := 858993459) dJ6_bitCount_0f7a4_18 lc_J6_266 ?_
  refine go_iand dJ6_bitCount_0f7a4_21 ?_
  refine go_iadd dJ6_bitCount_0f7a4_22 ?_
  refine Gw.namei (fun x2 ex2 => ?_)
  have hF := hF x2 ex2
  refine go_istore_n (L' := [.int x2]) dJ6_bitCount_0f7a4_23 (Nat.le_of_ble_eq_true rfl) rfl ?_
  refine go_iload_n dJ6_bitCount_0f7a4_24 rfl ?_
  refine go_iload_n dJ6_bitCount_0f7a4_25 rfl ?_
  refine go_iconst (v := 4) dJ6_bitCount_0f7a4_26 (by decide) ?_
  refine go_iushr dJ6_bitCount_0f7a4_27 ?_
  refine go_iadd dJ6_bitCount_0f7a4_28 ?_
  refine go_ldcw (v := 252645135) dJ6_bitCount_0f7a4_29 lc_J6_267 ?_
  refine go_iand dJ6_bitCount_0f7a4_32 ?_
  refine Gw.namei (fun x3 ex3 => ?_)
  have hF := hF x3 ex3
  refine go_istore_n (L' := [.int x3]) dJ6_bitCount_0f7a4_33 (Nat.le_of_ble_eq_true rfl) rfl ?_
  refine go_iload_n dJ6_bitCount_0f7a4_34 rfl ?_
  refine go_iload_n dJ6_bitCount_0f7a4_35 rfl ?_
  refine go_bipush (v := 8) dJ6_bitCount_0f7a4_36 (by decide) ?_
  refine go_iushr dJ6_bitCount_0f7a4_38 ?_
  refine go_iadd dJ6_bitCount_0f7a4_39 ?_
  refine Gw.namei (fun x4 ex4 => ?_)
  have hF := hF x4 ex4
  refine go_istore_n (L' := [.int x4]) dJ6_bitCount_0f7a4_40 (Nat.le_of_ble_eq_true rfl) rfl ?_
  refine go_iload_n dJ6_bitCount_0f7a4_41 rfl ?_
  refine go_iload_n dJ6_bitCount_0f7a4_42 rfl ?_
  refine go_bipush (v := 16) dJ6_bitCount_0f7a4_43 (by decide) ?_
  refine go_iushr dJ6_bitCount_0f7a4_45 ?_
  refine go_iadd dJ6_bitCount_0f7a4_46 ?_
  refine Gw.namei (fun x5 ex5 => ?_)
  have hF := hF x5 ex5
  refine go_istore_n (L' := [.int x5]) dJ6_bitCount_0f7a4_47 (Nat.le_of_ble_eq_true rfl) rfl ?_
  refine go_iload_n dJ6_bitCount_0f7a4_48 rfl ?_
  refine go_bipush (v := 63) dJ6_bitCount_0f7a4_49 (by decide) ?_
  refine go_iand dJ6_bitCount_0f7a4_51 ?_
  exact go_iret (S := []) dJ6_bitCount_0f7a4_52 rfl ⟨_, rfl, hF⟩
theorem vJ7_fill_53178 (G : GP) (d : Nat) (p0 p0l : Nat) (hp0 : SH[p0]? = some (100, p0l, [])) (a1 : Int32) (m : Mem) (K : Mem → Prop) (hF : ∀ x1 : Int32, x1 = Int32.ofNat p0l → Gw G (d) mJ7_fill_53178 5 [.ref (ga G p0), .int a1, .int 0, .int x1] [] m (Qv K)) : Evv G (d) mJ7_fill_53178 [.ref (ga G p0), .int a1] m K := by
  refine Ev.go [.ref (ga G p0), .int a1, uu, uu] (by decide) (Nat.le_of_ble_eq_true rfl) rfl ?_
  refine go_iconst (v := 0) dJ7_fill_53178_0 (by decide) ?_
  refine go_istore_n (L' := [.ref (ga G p0), .int a1, .int 0, uu]) dJ7_fill_53178_1 (Nat.le_of_ble_eq_true rfl) rfl ?_
  refine go_aload_n dJ7_fill_53178_2 rfl ?_
  refine go_alenI dJ7_fill_53178_3 hp0 ?_
  refine Gw.namei (fun x1 ex1 => ?_)
  have hF := hF x1 ex1
  refine go_istore_n (L' := [.ref (ga G p0), .int a1, .int 0, .int x1]) dJ7_fill_53178_4 (Nat.le_of_ble_eq_true rfl) rfl ?_
  exact hF
theorem vJ7_fill_53178_5 (G : GP) (d : Nat) (p0 p0l : Nat) (hp0 : SH[p0]? = some (100, p0l, [])) (l1 : Int32) (l2 : Int32) (l3 : Int32) (m : Mem) (K : Mem → Prop) (hF : ((l3 ≤ l2) → K m) ∧ ((¬ l3 ≤ l2) → vp_in l2 p0l ∧ ∀ m2 : Mem, m2 = wI m p0 l2.toNatClampNeg l1 → ∀ x3 : Int32, x3 = l2 + 1 → Gw G (d) mJ7_fill_53178 5 [.ref (ga G p0), .int l1, .int x3, .int l3] [] m2 (Qv K))) : Gw G (d) mJ7_fill_53178 5 [.ref (ga G p0), .int l1, .int l2, .int l3] [] m (Qv K) := by
  refine go_iload_n dJ7_fill_53178_5 rfl ?_
  refine go_iload_n dJ7_fill_53178_6 rfl ?_
  refine go_icmp_ge 20 dJ7_fill_53178_7 rfl ⟨fun hc => ?_, fun hc => ?_⟩
  · have hF := hF.1 hc
    exact go_vret (S := []) dJ7_fill_53178_20 rfl ⟨rfl, hF⟩
  · have hF := hF.2 hc
    refine go_aload_n dJ7_fill_53178_10 rfl ?_
    refine go_iload_n dJ7_fill_53178_11 rfl ?_
    refine go_iload_n dJ7_fill_53178_12 rfl ?_
    obtain ⟨hi, hF⟩ := hF
    refine go_iast dJ7_fill_53178_13 hp0 hi ?_
    obtain ⟨m2, em2⟩ : ∃ z : Mem, z = wI m p0 l2.toNatClampNeg l1 := ⟨_, rfl⟩
    rw [← em2]
    have hF := hF m2 em2
    obtain ⟨x3, ex3⟩ : ∃ z : Int32, z = l2 + 1 := ⟨_, rfl⟩
    have hF := hF x3 ex3
    refine go_iinc (v := x3) (L' := [.ref (ga G p0), .int l1, .int x3, .int l3]) dJ7_fill_53178_14 rfl (by rw [ex3]; rfl) (Nat.le_of_ble_eq_true rfl) rfl ?_
    refine go_goto 5 dJ7_fill_53178_17 rfl ?_
    exact hF
