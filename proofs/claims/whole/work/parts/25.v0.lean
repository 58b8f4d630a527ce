theorem vX0_listen (G : GP) (d : Nat)  (m : Mem) (K : Mem → Prop) (hF : ∀ m1 : Mem, m1 = wI m 266 2 0 → Gw G (d) mX0_listen 15 [.ref (ga G 266), .ref (ga G 12), .int 0] [] m1 (Qv K)) : Evv G (d) mX0_listen [.ref (ga G 266)] m K := by
  refine Ev.go [.ref (ga G 266), uu, uu] (by decide) (Nat.le_of_ble_eq_true rfl) rfl ?_
  refine go_aload_n dX0_listen_0 rfl ?_
  refine go_getR (k := 0) (r := 1) dX0_listen_1 sh_266 rfl inX0 (Nat.le_of_ble_eq_true rfl) lf_X0_30 rfl rfl ?_
  refine go_getR (k := 1) (r := 12) dX0_listen_4 sh_1 rfl inX10 (Nat.le_of_ble_eq_true rfl) lf_X0_38 rfl rfl ?_
  refine go_astore_n (L' := [.ref (ga G 266), .ref (ga G 12), uu]) dX0_listen_7 (Nat.le_of_ble_eq_true rfl) rfl ?_
  refine go_aload_n dX0_listen_8 rfl ?_
  refine go_iconst (v := 0) dX0_listen_9 (by decide) ?_
  refine go_putI (k := 2) dX0_listen_10 sh_266 rfl inX0 (Nat.le_of_ble_eq_true rfl) lf_X0_44 tyX0 tyX0_ok nmX0 rfl rfl (by decide +kernel) ?_
  obtain ⟨m1, em1⟩ : ∃ z : Mem, z = wI m 266 2 0 := ⟨_, rfl⟩
  rw [← em1]
  have hF := hF m1 em1
  refine go_iconst (v := 0) dX0_listen_13 (by decide) ?_
  refine go_istore_n (L' := [.ref (ga G 266), .ref (ga G 12), .int 0]) dX0_listen_14 (Nat.le_of_ble_eq_true rfl) rfl ?_
  exact hF
theorem vX0_listen_15 (G : GP) (d : Nat) (l2 : Int32) (m : Mem) (K : Mem → Prop) (hF : (((m.1 12 4) ≤ l2) → K m) ∧ ((¬ (m.1 12 4) ≤ l2) → vp_in l2 24 ∧ (((m.1 13 l2.toNatClampNeg) < 10) → ∀ x2 : Int32, x2 = l2 + 1 → Gw G (d) mX0_listen 15 [.ref (ga G 266), .ref (ga G 12), .int x2] [] m (Qv K)) ∧ ((¬ (m.1 13 l2.toNatClampNeg) < 10) → vp_in l2 24 ∧ vp_in (m.1 266 2) 24 ∧ ∀ m3 : Mem, m3 = wI m 267 (m.1 266 2).toNatClampNeg ((m.1 13 l2.toNatClampNeg) - 10) → ∀ m4 : Mem, m4 = wI m3 266 2 ((m3.1 266 2) + 1) → ∀ x5 : Int32, x5 = l2 + 1 → Gw G (d) mX0_listen 15 [.ref (ga G 266), .ref (ga G 12), .int x5] [] m4 (Qv K)))) : Gw G (d) mX0_listen 15 [.ref (ga G 266), .ref (ga G 12), .int l2] [] m (Qv K) := by
  refine go_iload_n dX0_listen_15 rfl ?_
  refine go_aload_n dX0_listen_16 rfl ?_
  refine go_getI (k := 4) dX0_listen_17 sh_12 rfl inX5 (Nat.le_of_ble_eq_true rfl) lf_X0_48 rfl ?_
  refine go_icmp_ge 68 dX0_listen_20 rfl ⟨fun hc => ?_, fun hc => ?_⟩
  · have hF := hF.1 hc
    exact go_vret (S := []) dX0_listen_68 rfl ⟨rfl, hF⟩
  · have hF := hF.2 hc
    refine go_aload_n dX0_listen_23 rfl ?_
    refine go_getR (k := 5) (r := 13) dX0_listen_24 sh_12 rfl inX5 (Nat.le_of_ble_eq_true rfl) lf_X0_53 rfl rfl ?_
    refine go_iload_n dX0_listen_27 rfl ?_
    obtain ⟨hi, hF⟩ := hF
    refine go_iald dX0_listen_28 sh_13 hi ?_
    refine go_bipush (v := 10) dX0_listen_29 (by decide) ?_
    refine go_icmp_lt 62 dX0_listen_31 rfl ⟨fun hc => ?_, fun hc => ?_⟩
    · have hF := hF.1 hc
      obtain ⟨x2, ex2⟩ : ∃ z : Int32, z = l2 + 1 := ⟨_, rfl⟩
      have hF := hF x2 ex2
      refine go_iinc (v := x2) (L' := [.ref (ga G 266), .ref (ga G 12), .int x2]) dX0_listen_62 rfl (by rw [ex2]; rfl) (Nat.le_of_ble_eq_true rfl) rfl ?_
      refine go_goto 15 dX0_listen_65 rfl ?_
      exact hF
    · have hF := hF.2 hc
      refine go_aload_n dX0_listen_34 rfl ?_
      refine go_getR (k := 3) (r := 267) dX0_listen_35 sh_266 rfl inX0 (Nat.le_of_ble_eq_true rfl) lf_X0_9 rfl rfl ?_
      refine go_aload_n dX0_listen_38 rfl ?_
      refine go_getI (k := 2) dX0_listen_39 sh_266 rfl inX0 (Nat.le_of_ble_eq_true rfl) lf_X0_44 rfl ?_
      refine go_aload_n dX0_listen_42 rfl ?_
      refine go_getR (k := 5) (r := 13) dX0_listen_43 sh_12 rfl inX5 (Nat.le_of_ble_eq_true rfl) lf_X0_53 rfl rfl ?_
      refine go_iload_n dX0_listen_46 rfl ?_
      obtain ⟨hi, hF⟩ := hF
      refine go_iald dX0_listen_47 sh_13 hi ?_
      refine go_bipush (v := 10) dX0_listen_48 (by decide) ?_
      refine go_isub dX0_listen_50 ?_
      obtain ⟨hi, hF⟩ := hF
      refine go_iast dX0_listen_51 sh_267 hi ?_
      obtain ⟨m3, em3⟩ : ∃ z : Mem, z = wI m 267 (m.1 266 2).toNatClampNeg ((m.1 13 l2.toNatClampNeg) - 10) := ⟨_, rfl⟩
      rw [← em3]
      have hF := hF m3 em3
      refine go_aload_n dX0_listen_52 rfl ?_
      refine go_dup dX0_listen_53 rfl ?_
      refine go_getI (k := 2) dX0_listen_54 sh_266 rfl inX0 (Nat.le_of_ble_eq_true rfl) lf_X0_44 rfl ?_
      refine go_iconst (v := 1) dX0_listen_57 (by decide) ?_
      refine go_iadd dX0_listen_58 ?_
      refine go_putI (k := 2) dX0_listen_59 sh_266 rfl inX0 (Nat.le_of_ble_eq_true rfl) lf_X0_44 tyX0 tyX0_ok nmX0 rfl rfl (by decide +kernel) ?_
      obtain ⟨m4, em4⟩ : ∃ z : Mem, z = wI m3 266 2 ((m3.1 266 2) + 1) := ⟨_, rfl⟩
      rw [← em4]
      have hF := hF m4 em4
      obtain ⟨x5, ex5⟩ : ∃ z : Int32, z = l2 + 1 := ⟨_, rfl⟩
      have hF := hF x5 ex5
      refine go_iinc (v := x5) (L' := [.ref (ga G 266), .ref (ga G 12), .int x5]) dX0_listen_62 rfl (by rw [ex5]; rfl) (Nat.le_of_ble_eq_true rfl) rfl ?_
      refine go_goto 15 dX0_listen_65 rfl ?_
      exact hF
theorem vX0_waysToRead (G : GP) (d : Nat) (a0 : Int32) (m : Mem) (K : Int32 → Mem → Prop) (hF : Evv G (d + 4) mX0_listen [.ref (ga G 266)] m (fun m1 => Evv G (d + 4) mX0_layWords [.ref (ga G 266)] m1 (fun m2 => ((a0 = 0) → K (m2.1 270 0) m2) ∧ ((¬ a0 = 0) → (((m2.1 266 2) = 0) → K (m2.1 270 0) m2) ∧ ((¬ (m2.1 266 2) = 0) → Evi G (d + 4) mX1_hasGrammar [.ref (ga G 262)] m2 (fun r4 m3 => ((¬ r4 = 0) → ∀ x5 : Int32, x5 = m3.1 266 2 → Gw G (d + 5) mX0_waysToRead 49 [.ref (ga G 266), .int a0, .ref (ga G 2), .int x5, uu, uu, uu, uu] [] m3 (Qi K)) ∧ ((r4 = 0) → K (m3.1 270 0) m3))))))) : Evi G (d + 5) mX0_waysToRead [.ref (ga G 266), .int a0] m K := by
  refine Ev.go [.ref (ga G 266), .int a0, uu, uu, uu, uu, uu, uu] (by decide) (Nat.le_of_ble_eq_true rfl) rfl ?_
  refine go_aload_n dX0_waysToRead_0 rfl ?_
  refine go_callV mX0_listen dX0_waysToRead_1 lm_X0_54 okX0_listen isX0_listen sh_266 rfl (As := []) (S := []) rfl rfl (Nat.le_of_ble_eq_true rfl) hF (k_v (fun m1 hF => ?_))
  refine go_aload_n dX0_waysToRead_4 rfl ?_
  refine go_callV mX0_layWords dX0_waysToRead_5 lm_X0_57 okX0_layWords isX0_layWords sh_266 rfl (As := []) (S := []) rfl rfl (Nat.le_of_ble_eq_true rfl) hF (k_v (fun m2 hF => ?_))
  refine go_iload_n dX0_waysToRead_8 rfl ?_
  refine go_if_eq 29 dX0_waysToRead_9 rfl ⟨fun hc => ?_, fun hc => ?_⟩
  · have hF := hF.1 hc
    refine go_aload_n dX0_waysToRead_29 rfl ?_
    refine go_getR (k := 6) (r := 270) dX0_waysToRead_30 sh_266 rfl inX0 (Nat.le_of_ble_eq_true rfl) lf_X0_21 rfl rfl ?_
    refine go_iconst (v := 0) dX0_waysToRead_33 (by decide) ?_
    refine go_ialdK (k := 0) dX0_waysToRead_34 sh_270 (vp_in_dec (by decide)) (by decide) ?_
    exact go_iret (S := []) dX0_waysToRead_35 rfl ⟨_, rfl, hF⟩
  · have hF := hF.2 hc
    refine go_aload_n dX0_waysToRead_12 rfl ?_
    refine go_getI (k := 2) dX0_waysToRead_13 sh_266 rfl inX0 (Nat.le_of_ble_eq_true rfl) lf_X0_44 rfl ?_
    refine go_if_eq 29 dX0_waysToRead_16 rfl ⟨fun hc => ?_, fun hc => ?_⟩
    · have hF := hF.1 hc
      refine go_aload_n dX0_waysToRead_29 rfl ?_
      refine go_getR (k := 6) (r := 270) dX0_waysToRead_30 sh_266 rfl inX0 (Nat.le_of_ble_eq_true rfl) lf_X0_21 rfl rfl ?_
      refine go_iconst (v := 0) dX0_waysToRead_33 (by decide) ?_
      refine go_ialdK (k := 0) dX0_waysToRead_34 sh_270 (vp_in_dec (by decide)) (by decide) ?_
      exact go_iret (S := []) dX0_waysToRead_35 rfl ⟨_, rfl, hF⟩
    · have hF := hF.2 hc
      refine go_aload_n dX0_waysToRead_19 rfl ?_
      refine go_getR (k := 1) (r := 262) dX0_waysToRead_20 sh_266 rfl inX0 (Nat.le_of_ble_eq_true rfl) lf_X0_34 rfl rfl ?_
      refine go_callV mX1_hasGrammar dX0_waysToRead_23 lm_X0_60 okX1_hasGrammar isX1_hasGrammar sh_262 rfl (As := []) (S := []) rfl rfl (Nat.le_of_ble_eq_true rfl) hF (k_i (fun r4 m3 hF => ?_))
      refine go_if_ne 36 dX0_waysToRead_26 rfl ⟨fun hc => ?_, fun hc => ?_⟩
      · have hF := hF.1 hc
        refine go_aload_n dX0_waysToRead_36 rfl ?_
        refine go_getR (k := 0) (r := 1) dX0_waysToRead_37 sh_266 rfl inX0 (Nat.le_of_ble_eq_true rfl) lf_X0_30 rfl rfl ?_
        refine go_getR (k := 0) (r := 2) dX0_waysToRead_40 sh_1 rfl inX10 (Nat.le_of_ble_eq_true rfl) lf_X0_66 rfl rfl ?_
        refine go_astore_n (L' := [.ref (ga G 266), .int a0, .ref (ga G 2), uu, uu, uu, uu, uu]) dX0_waysToRead_43 (Nat.le_of_ble_eq_true rfl) rfl ?_
        refine go_aload_n dX0_waysToRead_44 rfl ?_
        refine go_getI (k := 2) dX0_waysToRead_45 sh_266 rfl inX0 (Nat.le_of_ble_eq_true rfl) lf_X0_44 rfl ?_
        refine Gw.namei (fun x5 ex5 => ?_)
        have hF := hF x5 ex5
        refine go_istore_n (L' := [.ref (ga G 266), .int a0, .ref (ga G 2), .int x5, uu, uu, uu, uu]) dX0_waysToRead_48 (Nat.le_of_ble_eq_true rfl) rfl ?_
        exact hF
      · have hF := hF.2 hc
        refine go_aload_n dX0_waysToRead_29 rfl ?_
        refine go_getR (k := 6) (r := 270) dX0_waysToRead_30 sh_266 rfl inX0 (Nat.le_of_ble_eq_true rfl) lf_X0_21 rfl rfl ?_
        refine go_iconst (v := 0) dX0_waysToRead_33 (by decide) ?_
        refine go_ialdK (k := 0) dX0_waysToRead_34 sh_270 (vp_in_dec (by decide)) (by decide) ?_
        exact go_iret (S := []) dX0_waysToRead_35 rfl ⟨_, rfl, hF⟩
theorem vX0_waysToRead_49 (G : GP) (d : Nat) (u1 : Value) (l3 : Int32) (u4 : Value) (u5 : Value) (u6 : Value) (u7 : Value) (m : Mem) (K : Int32 → Mem → Prop) (hF : ((l3 ≤ 0) → Evi G (d + 4) mX0_waysBehind [.ref (ga G 266), .int 0, .int 0, .int (-1)] m (fun r7 m6 => K r7 m6)) ∧ ((¬ l3 ≤ 0) → Gw G (d + 5) mX0_waysToRead 56 [.ref (ga G 266), uu, .ref (ga G 2), .int l3, .int 0, uu, uu, uu] [] m (Qi K))) : Gw G (d + 5) mX0_waysToRead 49 [.ref (ga G 266), u1, .ref (ga G 2), .int l3, u4, u5, u6, u7] [] m (Qi K) := by
  refine Gw.weak (L' := [.ref (ga G 266), uu, .ref (ga G 2), .int l3, uu, uu, uu, uu]) ⟨Or.inl rfl, Or.inr rfl, Or.inl rfl, Or.inl rfl, Or.inr rfl, Or.inr rfl, Or.inr rfl, Or.inr rfl, trivial⟩ ?_
  refine go_iload_n dX0_waysToRead_49 rfl ?_
  refine go_if_le 177 dX0_waysToRead_50 rfl ⟨fun hc => ?_, fun hc => ?_⟩
  · have hF := hF.1 hc
    refine go_aload_n dX0_waysToRead_177 rfl ?_
    refine go_iconst (v := 0) dX0_waysToRead_178 (by decide) ?_
    refine go_iconst (v := 0) dX0_waysToRead_179 (by decide) ?_
    refine go_iconst (v := -1) dX0_waysToRead_180 (by decide) ?_
    refine go_callV mX0_waysBehind dX0_waysToRead_181 lm_X0_86 okX0_waysBehind isX0_waysBehind sh_266 rfl (As := [.int 0, .int 0, .int (-1)]) (S := []) rfl rfl (Nat.le_of_ble_eq_true rfl) hF (k_i (fun r7 m6 hF => ?_))
    exact go_iret (S := []) dX0_waysToRead_184 rfl ⟨_, rfl, hF⟩
  · have hF := hF.2 hc
    refine go_iconst (v := 0) dX0_waysToRead_53 (by decide) ?_
    refine go_istore (L' := [.ref (ga G 266), uu, .ref (ga G 2), .int l3, .int 0, uu, uu, uu]) dX0_waysToRead_54 (Nat.le_of_ble_eq_true rfl) rfl ?_
    exact hF
theorem vX0_waysToRead_56 (G : GP) (d : Nat) (u1 : Value) (l3 : Int32) (l4 : Int32) (u5 : Value) (u6 : Value) (u7 : Value) (m : Mem) (K : Int32 → Mem → Prop) (hF : (((m.1 2 4) ≤ l4) → ∀ x8 : Int32, x8 = l3 + (-1) → Gw G (d + 5) mX0_waysToRead 49 [.ref (ga G 266), uu, .ref (ga G 2), .int x8, .int l4, uu, uu, uu] [] m (Qi K)) ∧ ((¬ (m.1 2 4) ≤ l4) → vp_in l3 25 ∧ (((m.1 270 l3.toNatClampNeg) ≤ 0) → ∀ x9 : Int32, x9 = l3 + (-1) → Gw G (d + 5) mX0_waysToRead 49 [.ref (ga G 266), uu, .ref (ga G 2), .int x9, .int l4, uu, uu, uu] [] m (Qi K)) ∧ ((¬ (m.1 270 l3.toNatClampNeg) ≤ 0) → vp_in l4 10 ∧ ∀ x10 : Int32, x10 = l3 - (m.1 7 l4.toNatClampNeg) → ((x10 < 0) → Gw G (d + 5) mX0_waysToRead 117 [.ref (ga G 266), uu, .ref (ga G 2), .int l3, .int l4, .int x10, .int 0, .int 0] [] m (Qi K)) ∧ ((¬ x10 < 0) → vp_in x10 25 ∧ ((¬ (m.1 268 x10.toNatClampNeg >>> (l4 &&& 31)) &&& 1 = 0) → vp_in x10 25 ∧ ∀ x11 : Int32, x11 = m.1 269 x10.toNatClampNeg → Gw G (d + 5) mX0_waysToRead 117 [.ref (ga G 266), uu, .ref (ga G 2), .int l3, .int l4, .int x10, .int x11, .int 0] [] m (Qi K)) ∧ (¬ (¬ (m.1 268 x10.toNatClampNeg >>> (l4 &&& 31)) &&& 1 = 0) → Gw G (d + 5) mX0_waysToRead 117 [.ref (ga G 266), uu, .ref (ga G 2), .int l3, .int l4, .int x10, .int 0, .int 0] [] m (Qi K)))))) : Gw G (d + 5) mX0_waysToRead 56 [.ref (ga G 266), u1, .ref (ga G 2), .int l3, .int l4, u5, u6, u7] [] m (Qi K) := by
  refine Gw.weak (L' := [.ref (ga G 266), uu, .ref (ga G 2), .int l3, .int l4, uu, uu, uu]) ⟨Or.inl rfl, Or.inr rfl, Or.inl rfl, Or.inl rfl, Or.inl rfl, Or.inr rfl, Or.inr rfl, Or.inr rfl, trivial⟩ ?_
  refine go_iload dX0_waysToRead_56 rfl ?_
  refine go_aload_n dX0_waysToRead_58 rfl ?_
  refine go_getI (k := 4) dX0_waysToRead_59 sh_2 rfl inX2 (Nat.le_of_ble_eq_true rfl) lf_X0_70 rfl ?_
  refine go_icmp_ge 171 dX0_waysToRead_62 rfl ⟨fun hc => ?_, fun hc => ?_⟩
  · have hF := hF.1 hc
    obtain ⟨x8, ex8⟩ : ∃ z : Int32, z = l3 + (-1) := ⟨_, rfl⟩
    have hF := hF x8 ex8
    refine go_iinc (v := x8) (L' := [.ref (ga G 266), uu, .ref (ga G 2), .int x8, .int l4, uu, uu, uu]) dX0_waysToRead_171 rfl (by rw [ex8]; rfl) (Nat.le_of_ble_eq_true rfl) rfl ?_
    refine go_goto 49 dX0_waysToRead_174 rfl ?_
    exact hF
  · have hF := hF.2 hc
    refine go_aload_n dX0_waysToRead_65 rfl ?_
    refine go_getR (k := 6) (r := 270) dX0_waysToRead_66 sh_266 rfl inX0 (Nat.le_of_ble_eq_true rfl) lf_X0_21 rfl rfl ?_
    refine go_iload_n dX0_waysToRead_69 rfl ?_
    obtain ⟨hi, hF⟩ := hF
    refine go_iald dX0_waysToRead_70 sh_270 hi ?_
    refine go_if_le 171 dX0_waysToRead_71 rfl ⟨fun hc => ?_, fun hc => ?_⟩
    · have hF := hF.1 hc
      obtain ⟨x9, ex9⟩ : ∃ z : Int32, z = l3 + (-1) := ⟨_, rfl⟩
      have hF := hF x9 ex9
      refine go_iinc (v := x9) (L' := [.ref (ga G 266), uu, .ref (ga G 2), .int x9, .int l4, uu, uu, uu]) dX0_waysToRead_171 rfl (by rw [ex9]; rfl) (Nat.le_of_ble_eq_true rfl) rfl ?_
      refine go_goto 49 dX0_waysToRead_174 rfl ?_
      exact hF
    · have hF := hF.2 hc
      refine go_iload_n dX0_waysToRead_74 rfl ?_
      refine go_aload_n dX0_waysToRead_75 rfl ?_
      refine go_getR (k := 6) (r := 7) dX0_waysToRead_76 sh_2 rfl inX2 (Nat.le_of_ble_eq_true rfl) lf_X0_75 rfl rfl ?_
      refine go_iload dX0_waysToRead_79 rfl ?_
      obtain ⟨hi, hF⟩ := hF
      refine go_iald dX0_waysToRead_81 sh_7 hi ?_
      refine go_isub dX0_waysToRead_82 ?_
      refine Gw.namei (fun x10 ex10 => ?_)
      have hF := hF x10 ex10
      refine go_istore (L' := [.ref (ga G 266), uu, .ref (ga G 2), .int l3, .int l4, .int x10, uu, uu]) dX0_waysToRead_83 (Nat.le_of_ble_eq_true rfl) rfl ?_
      refine go_iload dX0_waysToRead_85 rfl ?_
      refine go_if_lt 111 dX0_waysToRead_87 rfl ⟨fun hc => ?_, fun hc => ?_⟩
      · have hF := hF.1 hc
        refine go_iconst (v := 0) dX0_waysToRead_111 (by decide) ?_
        refine go_istore (L' := [.ref (ga G 266), uu, .ref (ga G 2), .int l3, .int l4, .int x10, .int 0, uu]) dX0_waysToRead_112 (Nat.le_of_ble_eq_true rfl) rfl ?_
        refine go_iconst (v := 0) dX0_waysToRead_114 (by decide) ?_
        refine go_istore (L' := [.ref (ga G 266), uu, .ref (ga G 2), .int l3, .int l4, .int x10, .int 0, .int 0]) dX0_waysToRead_115 (Nat.le_of_ble_eq_true rfl) rfl ?_
        exact hF
      · have hF := hF.2 hc
        refine go_aload_n dX0_waysToRead_90 rfl ?_
        refine go_iload dX0_waysToRead_91 rfl ?_
        refine go_iload dX0_waysToRead_93 rfl ?_
        obtain ⟨ho, hF⟩ := hF
        rcases Classical.em (¬ (m.1 268 x10.toNatClampNeg >>> (l4 &&& 31)) &&& 1 = 0) with hp | hp
        · have hF := hF.1 hp
          refine go_callV mX0_fitsAt dX0_waysToRead_95 lm_X0_78 okX0_fitsAt isX0_fitsAt sh_266 rfl (As := [.int x10, .int l4]) (S := []) rfl rfl (Nat.le_of_ble_eq_true rfl) (eX0_fitsAt G _ x10 l4 m (fun r m' => r = 1 ∧ m = m') ho ⟨fun _ => ⟨rfl, rfl⟩, fun q => absurd hp q⟩) (k_i (fun r m' hr => ?_))
          obtain ⟨hr1, hr2⟩ := hr
          subst hr1
          subst hr2
          refine go_if_eq 111 dX0_waysToRead_98 rfl ⟨fun hc => absurd hc (by decide), fun _ => ?_⟩
          refine go_aload_n dX0_waysToRead_101 rfl ?_
          refine go_getR (k := 5) (r := 269) dX0_waysToRead_102 sh_266 rfl inX0 (Nat.le_of_ble_eq_true rfl) lf_X0_18 rfl rfl ?_
          refine go_iload dX0_waysToRead_105 rfl ?_
          obtain ⟨hi, hF⟩ := hF
          refine go_iald dX0_waysToRead_107 sh_269 hi ?_
          refine go_goto 112 dX0_waysToRead_108 rfl ?_
          refine Gw.namei (fun x11 ex11 => ?_)
          have hF := hF x11 ex11
          refine go_istore (L' := [.ref (ga G 266), uu, .ref (ga G 2), .int l3, .int l4, .int x10, .int x11, uu]) dX0_waysToRead_112 (Nat.le_of_ble_eq_true rfl) rfl ?_
          refine go_iconst (v := 0) dX0_waysToRead_114 (by decide) ?_
          refine go_istore (L' := [.ref (ga G 266), uu, .ref (ga G 2), .int l3, .int l4, .int x10, .int x11, .int 0]) dX0_waysToRead_115 (Nat.le_of_ble_eq_true rfl) rfl ?_
          exact hF
        · have hF := hF.2 hp
          refine go_callV mX0_fitsAt dX0_waysToRead_95 lm_X0_78 okX0_fitsAt isX0_fitsAt sh_266 rfl (As := [.int x10, .int l4]) (S := []) rfl rfl (Nat.le_of_ble_eq_true rfl) (eX0_fitsAt G _ x10 l4 m (fun r m' => r = 0 ∧ m = m') ho ⟨fun q => absurd q hp, fun _ => ⟨rfl, rfl⟩⟩) (k_i (fun r m' hr => ?_))
          obtain ⟨hr1, hr2⟩ := hr
          subst hr1
          subst hr2
          refine go_if_eq 111 dX0_waysToRead_98 rfl ⟨fun _ => ?_, fun hc => absurd hc (by decide)⟩
          refine go_iconst (v := 0) dX0_waysToRead_111 (by decide) ?_
          refine go_istore (L' := [.ref (ga G 266), uu, .ref (ga G 2), .int l3, .int l4, .int x10, .int 0, uu]) dX0_waysToRead_112 (Nat.le_of_ble_eq_true rfl) rfl ?_
          refine go_iconst (v := 0) dX0_waysToRead_114 (by decide) ?_
          refine go_istore (L' := [.ref (ga G 266), uu, .ref (ga G 2), .int l3, .int l4, .int x10, .int 0, .int 0]) dX0_waysToRead_115 (Nat.le_of_ble_eq_true rfl) rfl ?_
          exact hF
theorem vX0_waysToRead_117 (G : GP) (d : Nat) (u1 : Value) (l3 : Int32) (l4 : Int32) (u5 : Value) (l6 : Int32) (l7 : Int32) (m : Mem) (K : Int32 → Mem → Prop) (hF : ((l3 ≤ l7) → ∀ x12 : Int32, x12 = l4 + 1 → Gw G (d + 5) mX0_waysToRead 56 [.ref (ga G 266), uu, .ref (ga G 2), .int l3, .int x12, uu, .int l6, .int l7] [] m (Qi K)) ∧ ((¬ l3 ≤ l7) → ((((l6 >>> (l7 &&& 31)) &&& 1) = 0) → ∀ x13 : Int32, x13 = l7 + 1 → Gw G (d + 5) mX0_waysToRead 117 [.ref (ga G 266), uu, .ref (ga G 2), .int l3, .int l4, uu, .int l6, .int x13] [] m (Qi K)) ∧ ((¬ ((l6 >>> (l7 &&& 31)) &&& 1) = 0) → Evi G (d + 4) mX0_waysBehind [.ref (ga G 266), .int l3, .int (l7 + 1), .int l4] m (fun r15 m14 => vp_in (((l3 * 25 + (l7 + 1)) * 10) + l4) 6250 ∧ ∀ m16 : Mem, m16 = wI m14 271 (((l3 * 25 + (l7 + 1)) * 10) + l4).toNatClampNeg r15 → ∀ x17 : Int32, x17 = l7 + 1 → Gw G (d + 5) mX0_waysToRead 117 [.ref (ga G 266), uu, .ref (ga G 2), .int l3, .int l4, uu, .int l6, .int x17] [] m16 (Qi K))))) : Gw G (d + 5) mX0_waysToRead 117 [.ref (ga G 266), u1, .ref (ga G 2), .int l3, .int l4, u5, .int l6, .int l7] [] m (Qi K) := by
  refine Gw.weak (L' := [.ref (ga G 266), uu, .ref (ga G 2), .int l3, .int l4, uu, .int l6, .int l7]) ⟨Or.inl rfl, Or.inr rfl, Or.inl rfl, Or.inl rfl, Or.inl rfl, Or.inr rfl, Or.inl rfl, Or.inl rfl, trivial⟩ ?_
  refine go_iload dX0_waysToRead_117 rfl ?_
  refine go_iload_n dX0_waysToRead_119 rfl ?_
  refine go_icmp_ge 165 dX0_waysToRead_120 rfl ⟨fun hc => ?_, fun hc => ?_⟩
  · have hF := hF.1 hc
    obtain ⟨x12, ex12⟩ : ∃ z : Int32, z = l4 + 1 := ⟨_, rfl⟩
    have hF := hF x12 ex12
    refine go_iinc (v := x12) (L' := [.ref (ga G 266), uu, .ref (ga G 2), .int l3, .int x12, uu, .int l6, .int l7]) dX0_waysToRead_165 rfl (by rw [ex12]; rfl) (Nat.le_of_ble_eq_true rfl) rfl ?_
    refine go_goto 56 dX0_waysToRead_168 rfl ?_
    exact hF
  · have hF := hF.2 hc
    refine go_iload dX0_waysToRead_123 rfl ?_
    refine go_iload dX0_waysToRead_125 rfl ?_
    refine go_ishr dX0_waysToRead_127 ?_
    refine go_iconst (v := 1) dX0_waysToRead_128 (by decide) ?_
    refine go_iand dX0_waysToRead_129 ?_
    refine go_if_eq 159 dX0_waysToRead_130 rfl ⟨fun hc => ?_, fun hc => ?_⟩
    · have hF := hF.1 hc
      obtain ⟨x13, ex13⟩ : ∃ z : Int32, z = l7 + 1 := ⟨_, rfl⟩
      have hF := hF x13 ex13
      refine go_iinc (v := x13) (L' := [.ref (ga G 266), uu, .ref (ga G 2), .int l3, .int l4, uu, .int l6, .int x13]) dX0_waysToRead_159 rfl (by rw [ex13]; rfl) (Nat.le_of_ble_eq_true rfl) rfl ?_
      refine go_goto 117 dX0_waysToRead_162 rfl ?_
      exact hF
    · have hF := hF.2 hc
      refine go_aload_n dX0_waysToRead_133 rfl ?_
      refine go_getR (k := 7) (r := 271) dX0_waysToRead_134 sh_266 rfl inX0 (Nat.le_of_ble_eq_true rfl) lf_X0_24 rfl rfl ?_
      refine go_iload_n dX0_waysToRead_137 rfl ?_
      refine go_iload dX0_waysToRead_138 rfl ?_
      refine go_iconst (v := 1) dX0_waysToRead_140 (by decide) ?_
      refine go_iadd dX0_waysToRead_141 ?_
      refine go_iload dX0_waysToRead_142 rfl ?_
      refine go_callS mX0_cell dX0_waysToRead_144 lm_X0_82 okX0_cell isX0_cell (As := [.int l3, .int (l7 + 1), .int l4]) (S := [.ref (ga G 271)]) rfl rfl (Nat.le_of_ble_eq_true rfl) (eX0_cell G _ l3 (l7 + 1) l4 m (fun r m' => r = ((l3 * 25 + (l7 + 1)) * 10) + l4 ∧ m = m') ⟨rfl, rfl⟩) (k_i (fun r m' hr => ?_))
      obtain ⟨hr1, hr2⟩ := hr
      subst hr1
      subst hr2
      refine go_aload_n dX0_waysToRead_147 rfl ?_
      refine go_iload_n dX0_waysToRead_148 rfl ?_
      refine go_iload dX0_waysToRead_149 rfl ?_
      refine go_iconst (v := 1) dX0_waysToRead_151 (by decide) ?_
      refine go_iadd dX0_waysToRead_152 ?_
      refine go_iload dX0_waysToRead_153 rfl ?_
      refine go_callV mX0_waysBehind dX0_waysToRead_155 lm_X0_86 okX0_waysBehind isX0_waysBehind sh_266 rfl (As := [.int l3, .int (l7 + 1), .int l4]) (S := [.int (((l3 * 25 + (l7 + 1)) * 10) + l4), .ref (ga G 271)]) rfl rfl (Nat.le_of_ble_eq_true rfl) hF (k_i (fun r15 m14 hF => ?_))
      obtain ⟨hi, hF⟩ := hF
      refine go_iast dX0_waysToRead_158 sh_271 hi ?_
      obtain ⟨m16, em16⟩ : ∃ z : Mem, z = wI m14 271 (((l3 * 25 + (l7 + 1)) * 10) + l4).toNatClampNeg r15 := ⟨_, rfl⟩
      rw [← em16]
      have hF := hF m16 em16
      obtain ⟨x17, ex17⟩ : ∃ z : Int32, z = l7 + 1 := ⟨_, rfl⟩
      have hF := hF x17 ex17
      refine go_iinc (v := x17) (L' := [.ref (ga G 266), uu, .ref (ga G 2), .int l3, .int l4, uu, .int l6, .int x17]) dX0_waysToRead_159 rfl (by rw [ex17]; rfl) (Nat.le_of_ble_eq_true rfl) rfl ?_
      refine go_goto 117 dX0_waysToRead_162 rfl ?_
      exact hF
theorem vX0_waysBehind (G : GP) (d : Nat) (a0 : Int32) (a1 : Int32) (a2 : Int32) (m : Mem) (K : Int32 → Mem → Prop) (hF : ((¬ a0 = (m.1 266 2)) → Gw G (d + 4) mX0_waysBehind 16 [.ref (ga G 266), .int a0, .int a1, .int a2, .int 0, .int 0, uu, uu] [] m (Qi K)) ∧ ((a0 = (m.1 266 2)) → K 1 m)) : Evi G (d + 4) mX0_waysBehind [.ref (ga G 266), .int a0, .int a1, .int a2] m K := by
  refine Ev.go [.ref (ga G 266), .int a0, .int a1, .int a2, uu, uu, uu, uu] (by decide) (Nat.le_of_ble_eq_true rfl) rfl ?_
  refine go_iload_n dX0_waysBehind_0 rfl ?_
  refine go_aload_n dX0_waysBehind_1 rfl ?_
  refine go_getI (k := 2) dX0_waysBehind_2 sh_266 rfl inX0 (Nat.le_of_ble_eq_true rfl) lf_X0_44 rfl ?_
  refine go_icmp_ne 10 dX0_waysBehind_5 rfl ⟨fun hc => ?_, fun hc => ?_⟩
  · have hF := hF.1 hc
    refine go_iconst (v := 0) dX0_waysBehind_10 (by decide) ?_
    refine go_istore (L' := [.ref (ga G 266), .int a0, .int a1, .int a2, .int 0, uu, uu, uu]) dX0_waysBehind_11 (Nat.le_of_ble_eq_true rfl) rfl ?_
    refine go_iconst (v := 0) dX0_waysBehind_13 (by decide) ?_
    refine go_istore (L' := [.ref (ga G 266), .int a0, .int a1, .int a2, .int 0, .int 0, uu, uu]) dX0_waysBehind_14 (Nat.le_of_ble_eq_true rfl) rfl ?_
    exact hF
  · have hF := hF.2 hc
    refine go_iconst (v := 1) dX0_waysBehind_8 (by decide) ?_
    exact go_iret (S := []) dX0_waysBehind_9 rfl ⟨_, rfl, hF⟩
theorem vX0_waysBehind_16 (G : GP) (d : Nat) (l1 : Int32) (l2 : Int32) (l3 : Int32) (l4 : Int32) (l5 : Int32) (u6 : Value) (u7 : Value) (m : Mem) (K : Int32 → Mem → Prop) (hF : (((m.1 2 4) ≤ l5) → K l4 m) ∧ ((¬ (m.1 2 4) ≤ l5) → vp_in l5 10 ∧ ∀ x1 : Int32, x1 = l1 + (m.1 7 l5.toNatClampNeg) → vp_in l1 25 ∧ ((¬ (m.1 268 l1.toNatClampNeg >>> (l5 &&& 31)) &&& 1 = 0) → vp_in x1 25 ∧ (((m.1 270 x1.toNatClampNeg) ≤ 0) → ∀ x2 : Int32, x2 = l5 + 1 → Gw G (d + 4) mX0_waysBehind 16 [.ref (ga G 266), .int l1, .int l2, .int l3, .int l4, .int x2, .int x1, uu] [] m (Qi K)) ∧ ((¬ (m.1 270 x1.toNatClampNeg) ≤ 0) → vp_in (((x1 * 25 + (l2 + 1)) * 10) + l5) 6250 ∧ ∀ x3 : Int32, x3 = m.1 271 (((x1 * 25 + (l2 + 1)) * 10) + l5).toNatClampNeg → ((x3 ≤ 0) → ∀ x4 : Int32, x4 = l5 + 1 → Gw G (d + 4) mX0_waysBehind 16 [.ref (ga G 266), .int l1, .int l2, .int l3, .int l4, .int x4, .int x1, .int x3] [] m (Qi K)) ∧ ((¬ x3 ≤ 0) → Evi G (d + 3) mX1_mayStand [.ref (ga G 262), .int l3, .int l5, .int l2] m (fun r6 m5 => ((r6 = 0) → ∀ x7 : Int32, x7 = l5 + 1 → Gw G (d + 4) mX0_waysBehind 16 [.ref (ga G 266), .int l1, .int l2, .int l3, .int l4, .int x7, .int x1, .int x3] [] m5 (Qi K)) ∧ ((¬ r6 = 0) → ∀ x8 : Int32, x8 = imin 1000000 (l4 + x3) → ∀ x9 : Int32, x9 = l5 + 1 → Gw G (d + 4) mX0_waysBehind 16 [.ref (ga G 266), .int l1, .int l2, .int l3, .int x8, .int x9, .int x1, .int x3] [] m5 (Qi K)))))) ∧ (¬ (¬ (m.1 268 l1.toNatClampNeg >>> (l5 &&& 31)) &&& 1 = 0) → ∀ x10 : Int32, x10 = l5 + 1 → Gw G (d + 4) mX0_waysBehind 16 [.ref (ga G 266), .int l1, .int l2, .int l3, .int l4, .int x10, .int x1, uu] [] m (Qi K)))) : Gw G (d + 4) mX0_waysBehind 16 [.ref (ga G 266), .int l1, .int l2, .int l3, .int l4, .int l5, u6, u7] [] m (Qi K) := by
  refine Gw.weak (L' := [.ref (ga G 266), .int l1, .int l2, .int l3, .int l4, .int l5, uu, uu]) ⟨Or.inl rfl, Or.inl rfl, Or.inl rfl, Or.inl rfl, Or.inl rfl, Or.inl rfl, Or.inr rfl, Or.inr rfl, trivial⟩ ?_
  refine go_iload dX0_waysBehind_16 rfl ?_
  refine go_aload_n dX0_waysBehind_18 rfl ?_
  refine go_getR (k := 0) (r := 1) dX0_waysBehind_19 sh_266 rfl inX0 (Nat.le_of_ble_eq_true rfl) lf_X0_30 rfl rfl ?_
  refine go_getR (k := 0) (r := 2) dX0_waysBehind_22 sh_1 rfl inX10 (Nat.le_of_ble_eq_true rfl) lf_X0_66 rfl rfl ?_
  refine go_getI (k := 4) dX0_waysBehind_25 sh_2 rfl inX2 (Nat.le_of_ble_eq_true rfl) lf_X0_70 rfl ?_
  refine go_icmp_ge 122 dX0_waysBehind_28 rfl ⟨fun hc => ?_, fun hc => ?_⟩
  · have hF := hF.1 hc
    refine go_iload dX0_waysBehind_122 rfl ?_
    exact go_iret (S := []) dX0_waysBehind_124 rfl ⟨_, rfl, hF⟩
  · have hF := hF.2 hc
    refine go_iload_n dX0_waysBehind_31 rfl ?_
    refine go_aload_n dX0_waysBehind_32 rfl ?_
    refine go_getR (k := 0) (r := 1) dX0_waysBehind_33 sh_266 rfl inX0 (Nat.le_of_ble_eq_true rfl) lf_X0_30 rfl rfl ?_
    refine go_getR (k := 0) (r := 2) dX0_waysBehind_36 sh_1 rfl inX10 (Nat.le_of_ble_eq_true rfl) lf_X0_66 rfl rfl ?_
    refine go_getR (k := 6) (r := 7) dX0_waysBehind_39 sh_2 rfl inX2 (Nat.le_of_ble_eq_true rfl) lf_X0_75 rfl rfl ?_
    refine go_iload dX0_waysBehind_42 rfl ?_
    obtain ⟨hi, hF⟩ := hF
    refine go_iald dX0_waysBehind_44 sh_7 hi ?_
    refine go_iadd dX0_waysBehind_45 ?_
    refine Gw.namei (fun x1 ex1 => ?_)
    have hF := hF x1 ex1
    refine go_istore (L' := [.ref (ga G 266), .int l1, .int l2, .int l3, .int l4, .int l5, .int x1, uu]) dX0_waysBehind_46 (Nat.le_of_ble_eq_true rfl) rfl ?_
    refine go_aload_n dX0_waysBehind_48 rfl ?_
    refine go_iload_n dX0_waysBehind_49 rfl ?_
    refine go_iload dX0_waysBehind_50 rfl ?_
    obtain ⟨ho, hF⟩ := hF
    rcases Classical.em (¬ (m.1 268 l1.toNatClampNeg >>> (l5 &&& 31)) &&& 1 = 0) with hp | hp
    · have hF := hF.1 hp
      refine go_callV mX0_fitsAt dX0_waysBehind_52 lm_X0_78 okX0_fitsAt isX0_fitsAt sh_266 rfl (As := [.int l1, .int l5]) (S := []) rfl rfl (Nat.le_of_ble_eq_true rfl) (eX0_fitsAt G _ l1 l5 m (fun r m' => r = 1 ∧ m = m') ho ⟨fun _ => ⟨rfl, rfl⟩, fun q => absurd hp q⟩) (k_i (fun r m' hr => ?_))
      obtain ⟨hr1, hr2⟩ := hr
      subst hr1
      subst hr2
      refine go_if_eq 116 dX0_waysBehind_55 rfl ⟨fun hc => absurd hc (by decide), fun _ => ?_⟩
      refine go_aload_n dX0_waysBehind_58 rfl ?_
      refine go_getR (k := 6) (r := 270) dX0_waysBehind_59 sh_266 rfl inX0 (Nat.le_of_ble_eq_true rfl) lf_X0_21 rfl rfl ?_
      refine go_iload dX0_waysBehind_62 rfl ?_
      obtain ⟨hi, hF⟩ := hF
      refine go_iald dX0_waysBehind_64 sh_270 hi ?_
      refine go_if_le 116 dX0_waysBehind_65 rfl ⟨fun hc => ?_, fun hc => ?_⟩
      · have hF := hF.1 hc
        obtain ⟨x2, ex2⟩ : ∃ z : Int32, z = l5 + 1 := ⟨_, rfl⟩
        have hF := hF x2 ex2
        refine go_iinc (v := x2) (L' := [.ref (ga G 266), .int l1, .int l2, .int l3, .int l4, .int x2, .int x1, uu]) dX0_waysBehind_116 rfl (by rw [ex2]; rfl) (Nat.le_of_ble_eq_true rfl) rfl ?_
        refine go_goto 16 dX0_waysBehind_119 rfl ?_
        exact hF
      · have hF := hF.2 hc
        refine go_aload_n dX0_waysBehind_68 rfl ?_
        refine go_getR (k := 7) (r := 271) dX0_waysBehind_69 sh_266 rfl inX0 (Nat.le_of_ble_eq_true rfl) lf_X0_24 rfl rfl ?_
        refine go_iload dX0_waysBehind_72 rfl ?_
        refine go_iload_n dX0_waysBehind_74 rfl ?_
        refine go_iconst (v := 1) dX0_waysBehind_75 (by decide) ?_
        refine go_iadd dX0_waysBehind_76 ?_
        refine go_iload dX0_waysBehind_77 rfl ?_
        refine go_callS mX0_cell dX0_waysBehind_79 lm_X0_82 okX0_cell isX0_cell (As := [.int x1, .int (l2 + 1), .int l5]) (S := [.ref (ga G 271)]) rfl rfl (Nat.le_of_ble_eq_true rfl) (eX0_cell G _ x1 (l2 + 1) l5 m (fun r m' => r = ((x1 * 25 + (l2 + 1)) * 10) + l5 ∧ m = m') ⟨rfl, rfl⟩) (k_i (fun r m' hr => ?_))
        obtain ⟨hr1, hr2⟩ := hr
        subst hr1
        subst hr2
        obtain ⟨hi, hF⟩ := hF
        refine go_iald dX0_waysBehind_82 sh_271 hi ?_
        refine Gw.namei (fun x3 ex3 => ?_)
        have hF := hF x3 ex3
        refine go_istore (L' := [.ref (ga G 266), .int l1, .int l2, .int l3, .int l4, .int l5, .int x1, .int x3]) dX0_waysBehind_83 (Nat.le_of_ble_eq_true rfl) rfl ?_
        refine go_iload dX0_waysBehind_85 rfl ?_
        refine go_if_le 116 dX0_waysBehind_87 rfl ⟨fun hc => ?_, fun hc => ?_⟩
        · have hF := hF.1 hc
          obtain ⟨x4, ex4⟩ : ∃ z : Int32, z = l5 + 1 := ⟨_, rfl⟩
          have hF := hF x4 ex4
          refine go_iinc (v := x4) (L' := [.ref (ga G 266), .int l1, .int l2, .int l3, .int l4, .int x4, .int x1, .int x3]) dX0_waysBehind_116 rfl (by rw [ex4]; rfl) (Nat.le_of_ble_eq_true rfl) rfl ?_
          refine go_goto 16 dX0_waysBehind_119 rfl ?_
          exact hF
        · have hF := hF.2 hc
          refine go_aload_n dX0_waysBehind_90 rfl ?_
          refine go_getR (k := 1) (r := 262) dX0_waysBehind_91 sh_266 rfl inX0 (Nat.le_of_ble_eq_true rfl) lf_X0_34 rfl rfl ?_
          refine go_iload_n dX0_waysBehind_94 rfl ?_
          refine go_iload dX0_waysBehind_95 rfl ?_
          refine go_iload_n dX0_waysBehind_97 rfl ?_
          refine go_callV mX1_mayStand dX0_waysBehind_98 lm_X0_89 okX1_mayStand isX1_mayStand sh_262 rfl (As := [.int l3, .int l5, .int l2]) (S := []) rfl rfl (Nat.le_of_ble_eq_true rfl) hF (k_i (fun r6 m5 hF => ?_))
          refine go_if_eq 116 dX0_waysBehind_101 rfl ⟨fun hc => ?_, fun hc => ?_⟩
          · have hF := hF.1 hc
            obtain ⟨x7, ex7⟩ : ∃ z : Int32, z = l5 + 1 := ⟨_, rfl⟩
            have hF := hF x7 ex7
            refine go_iinc (v := x7) (L' := [.ref (ga G 266), .int l1, .int l2, .int l3, .int l4, .int x7, .int x1, .int x3]) dX0_waysBehind_116 rfl (by rw [ex7]; rfl) (Nat.le_of_ble_eq_true rfl) rfl ?_
            refine go_goto 16 dX0_waysBehind_119 rfl ?_
            exact hF
          · have hF := hF.2 hc
            refine go_ldc (v := 1000000) dX0_waysBehind_104 lc_X0_93 ?_
            refine go_iload dX0_waysBehind_106 rfl ?_
            refine go_iload dX0_waysBehind_108 rfl ?_
            refine go_iadd dX0_waysBehind_110 ?_
            refine go_mmin dX0_waysBehind_111 lm_X0_94 (Nat.le_of_ble_eq_true rfl) ?_
            refine Gw.namei (fun x8 ex8 => ?_)
            have hF := hF x8 ex8
            refine go_istore (L' := [.ref (ga G 266), .int l1, .int l2, .int l3, .int x8, .int l5, .int x1, .int x3]) dX0_waysBehind_114 (Nat.le_of_ble_eq_true rfl) rfl ?_
            obtain ⟨x9, ex9⟩ : ∃ z : Int32, z = l5 + 1 := ⟨_, rfl⟩
            have hF := hF x9 ex9
            refine go_iinc (v := x9) (L' := [.ref (ga G 266), .int l1, .int l2, .int l3, .int x8, .int x9, .int x1, .int x3]) dX0_waysBehind_116 rfl (by rw [ex9]; rfl) (Nat.le_of_ble_eq_true rfl) rfl ?_
            refine go_goto 16 dX0_waysBehind_119 rfl ?_
            exact hF
    · have hF := hF.2 hp
      refine go_callV mX0_fitsAt dX0_waysBehind_52 lm_X0_78 okX0_fitsAt isX0_fitsAt sh_266 rfl (As := [.int l1, .int l5]) (S := []) rfl rfl (Nat.le_of_ble_eq_true rfl) (eX0_fitsAt G _ l1 l5 m (fun r m' => r = 0 ∧ m = m') ho ⟨fun q => absurd q hp, fun _ => ⟨rfl, rfl⟩⟩) (k_i (fun r m' hr => ?_))
      obtain ⟨hr1, hr2⟩ := hr
      subst hr1
      subst hr2
      refine go_if_eq 116 dX0_waysBehind_55 rfl ⟨fun _ => ?_, fun hc => absurd hc (by decide)⟩
      obtain ⟨x10, ex10⟩ : ∃ z : Int32, z = l5 + 1 := ⟨_, rfl⟩
      have hF := hF x10 ex10
      refine go_iinc (v := x10) (L' := [.ref (ga G 266), .int l1, .int l2, .int l3, .int l4, .int x10, .int x1, uu]) dX0_waysBehind_116 rfl (by rw [ex10]; rfl) (Nat.le_of_ble_eq_true rfl) rfl ?_
      refine go_goto 16 dX0_waysBehind_119 rfl ?_
      exact hF
theorem vX0_layWords (G : GP) (d : Nat)  (m : Mem) (K : Mem → Prop) (hF : Evv G (d + 2) mJ7_fill_53178 [.ref (ga G 269), .int 0] m (fun m1 => ∀ m2 : Mem, m2 = wI m1 269 0 1 → Gw G (d + 3) mX0_layWords 25 [.ref (ga G 266), .ref (ga G 2), .int 0, uu, uu] [] m2 (Qv K))) : Evv G (d + 3) mX0_layWords [.ref (ga G 266)] m K := by
  refine Ev.go [.ref (ga G 266), uu, uu, uu, uu] (by decide) (Nat.le_of_ble_eq_true rfl) rfl ?_
  refine go_aload_n dX0_layWords_0 rfl ?_
  refine go_getR (k := 0) (r := 1) dX0_layWords_1 sh_266 rfl inX0 (Nat.le_of_ble_eq_true rfl) lf_X0_30 rfl rfl ?_
  refine go_getR (k := 0) (r := 2) dX0_layWords_4 sh_1 rfl inX10 (Nat.le_of_ble_eq_true rfl) lf_X0_66 rfl rfl ?_
  refine go_astore_n (L' := [.ref (ga G 266), .ref (ga G 2), uu, uu, uu]) dX0_layWords_7 (Nat.le_of_ble_eq_true rfl) rfl ?_
  refine go_aload_n dX0_layWords_8 rfl ?_
  refine go_getR (k := 5) (r := 269) dX0_layWords_9 sh_266 rfl inX0 (Nat.le_of_ble_eq_true rfl) lf_X0_18 rfl rfl ?_
  refine go_iconst (v := 0) dX0_layWords_12 (by decide) ?_
  refine go_callS mJ7_fill_53178 dX0_layWords_13 lm_X0_100 okJ7_fill_53178 isJ7_fill_53178 (As := [.ref (ga G 269), .int 0]) (S := []) rfl rfl (Nat.le_of_ble_eq_true rfl) hF (k_v (fun m1 hF => ?_))
  refine go_aload_n dX0_layWords_16 rfl ?_
  refine go_getR (k := 5) (r := 269) dX0_layWords_17 sh_266 rfl inX0 (Nat.le_of_ble_eq_true rfl) lf_X0_18 rfl rfl ?_
  refine go_iconst (v := 0) dX0_layWords_20 (by decide) ?_
  refine go_iconst (v := 1) dX0_layWords_21 (by decide) ?_
  refine go_iastK (k := 0) dX0_layWords_22 sh_269 (vp_in_dec (by decide)) (by decide) ?_
  obtain ⟨m2, em2⟩ : ∃ z : Mem, z = wI m1 269 0 1 := ⟨_, rfl⟩
  rw [← em2]
  have hF := hF m2 em2
  refine go_iconst (v := 0) dX0_layWords_23 (by decide) ?_
  refine go_istore_n (L' := [.ref (ga G 266), .ref (ga G 2), .int 0, uu, uu]) dX0_layWords_24 (Nat.le_of_ble_eq_true rfl) rfl ?_
  exact hF
theorem vX0_layWords_25 (G : GP) (d : Nat) (l2 : Int32) (u3 : Value) (u4 : Value) (m : Mem) (K : Mem → Prop) (hF : (((m.1 266 2) < l2) → vp_in (m.1 266 2) 25 ∧ ∀ m3 : Mem, m3 = wI m 270 (m.1 266 2).toNatClampNeg 1 → ∀ x4 : Int32, x4 = (m3.1 266 2) - 1 → Gw G (d + 3) mX0_layWords 124 [.ref (ga G 266), .ref (ga G 2), .int x4, uu, uu] [] m3 (Qv K)) ∧ ((¬ (m.1 266 2) < l2) → vp_in l2 25 ∧ ∀ m5 : Mem, m5 = wI m 268 l2.toNatClampNeg 0 → Gw G (d + 3) mX0_layWords 42 [.ref (ga G 266), .ref (ga G 2), .int l2, .int 0, uu] [] m5 (Qv K))) : Gw G (d + 3) mX0_layWords 25 [.ref (ga G 266), .ref (ga G 2), .int l2, u3, u4] [] m (Qv K) := by
  refine Gw.weak (L' := [.ref (ga G 266), .ref (ga G 2), .int l2, uu, uu]) ⟨Or.inl rfl, Or.inl rfl, Or.inl rfl, Or.inr rfl, Or.inr rfl, trivial⟩ ?_
  refine go_iload_n dX0_layWords_25 rfl ?_
  refine go_aload_n dX0_layWords_26 rfl ?_
  refine go_getI (k := 2) dX0_layWords_27 sh_266 rfl inX0 (Nat.le_of_ble_eq_true rfl) lf_X0_44 rfl ?_
  refine go_icmp_gt 107 dX0_layWords_30 rfl ⟨fun hc => ?_, fun hc => ?_⟩
  · have hF := hF.1 hc
    refine go_aload_n dX0_layWords_107 rfl ?_
    refine go_getR (k := 6) (r := 270) dX0_layWords_108 sh_266 rfl inX0 (Nat.le_of_ble_eq_true rfl) lf_X0_21 rfl rfl ?_
    refine go_aload_n dX0_layWords_111 rfl ?_
    refine go_getI (k := 2) dX0_layWords_112 sh_266 rfl inX0 (Nat.le_of_ble_eq_true rfl) lf_X0_44 rfl ?_
    refine go_iconst (v := 1) dX0_layWords_115 (by decide) ?_
    obtain ⟨hi, hF⟩ := hF
    refine go_iast dX0_layWords_116 sh_270 hi ?_
    obtain ⟨m3, em3⟩ : ∃ z : Mem, z = wI m 270 (m.1 266 2).toNatClampNeg 1 := ⟨_, rfl⟩
    rw [← em3]
    have hF := hF m3 em3
    refine go_aload_n dX0_layWords_117 rfl ?_
    refine go_getI (k := 2) dX0_layWords_118 sh_266 rfl inX0 (Nat.le_of_ble_eq_true rfl) lf_X0_44 rfl ?_
    refine go_iconst (v := 1) dX0_layWords_121 (by decide) ?_
    refine go_isub dX0_layWords_122 ?_
    refine Gw.namei (fun x4 ex4 => ?_)
    have hF := hF x4 ex4
    refine go_istore_n (L' := [.ref (ga G 266), .ref (ga G 2), .int x4, uu, uu]) dX0_layWords_123 (Nat.le_of_ble_eq_true rfl) rfl ?_
    exact hF
  · have hF := hF.2 hc
    refine go_aload_n dX0_layWords_33 rfl ?_
    refine go_getR (k := 4) (r := 268) dX0_layWords_34 sh_266 rfl inX0 (Nat.le_of_ble_eq_true rfl) lf_X0_15 rfl rfl ?_
    refine go_iload_n dX0_layWords_37 rfl ?_
    refine go_iconst (v := 0) dX0_layWords_38 (by decide) ?_
    obtain ⟨hi, hF⟩ := hF
    refine go_iast dX0_layWords_39 sh_268 hi ?_
    obtain ⟨m5, em5⟩ : ∃ z : Mem, z = wI m 268 l2.toNatClampNeg 0 := ⟨_, rfl⟩
    rw [← em5]
    have hF := hF m5 em5
    refine go_iconst (v := 0) dX0_layWords_40 (by decide) ?_
    refine go_istore_n (L' := [.ref (ga G 266), .ref (ga G 2), .int l2, .int 0, uu]) dX0_layWords_41 (Nat.le_of_ble_eq_true rfl) rfl ?_
    exact hF
theorem vX0_layWords_124 (G : GP) (d : Nat) (l2 : Int32) (u3 : Value) (u4 : Value) (m : Mem) (K : Mem → Prop) (hF : ((l2 < 0) → K m) ∧ ((¬ l2 < 0) → vp_in l2 25 ∧ ∀ m6 : Mem, m6 = wI m 270 l2.toNatClampNeg 0 → Gw G (d + 3) mX0_layWords 137 [.ref (ga G 266), .ref (ga G 2), .int l2, .int 0, uu] [] m6 (Qv K))) : Gw G (d + 3) mX0_layWords 124 [.ref (ga G 266), .ref (ga G 2), .int l2, u3, u4] [] m (Qv K) := by
  refine Gw.weak (L' := [.ref (ga G 266), .ref (ga G 2), .int l2, uu, uu]) ⟨Or.inl rfl, Or.inl rfl, Or.inl rfl, Or.inr rfl, Or.inr rfl, trivial⟩ ?_
  refine go_iload_n dX0_layWords_124 rfl ?_
  refine go_if_lt 201 dX0_layWords_125 rfl ⟨fun hc => ?_, fun hc => ?_⟩
  · have hF := hF.1 hc
    exact go_vret (S := []) dX0_layWords_201 rfl ⟨rfl, hF⟩
  · have hF := hF.2 hc
    refine go_aload_n dX0_layWords_128 rfl ?_
    refine go_getR (k := 6) (r := 270) dX0_layWords_129 sh_266 rfl inX0 (Nat.le_of_ble_eq_true rfl) lf_X0_21 rfl rfl ?_
    refine go_iload_n dX0_layWords_132 rfl ?_
    refine go_iconst (v := 0) dX0_layWords_133 (by decide) ?_
    obtain ⟨hi, hF⟩ := hF
    refine go_iast dX0_layWords_134 sh_270 hi ?_
    obtain ⟨m6, em6⟩ : ∃ z : Mem, z = wI m 270 l2.toNatClampNeg 0 := ⟨_, rfl⟩
    rw [← em6]
    have hF := hF m6 em6
    refine go_iconst (v := 0) dX0_layWords_135 (by decide) ?_
    refine go_istore_n (L' := [.ref (ga G 266), .ref (ga G 2), .int l2, .int 0, uu]) dX0_layWords_136 (Nat.le_of_ble_eq_true rfl) rfl ?_
    exact hF
theorem vX0_layWords_42 (G : GP) (d : Nat) (l2 : Int32) (l3 : Int32) (u4 : Value) (m : Mem) (K : Mem → Prop) (hF : (((m.1 2 4) ≤ l3) → ∀ x7 : Int32, x7 = l2 + 1 → Gw G (d + 3) mX0_layWords 25 [.ref (ga G 266), .ref (ga G 2), .int x7, .int l3, uu] [] m (Qv K)) ∧ ((¬ (m.1 2 4) ≤ l3) → Evi G (d + 2) mX0_stands [.ref (ga G 266), .int l3, .int l2] m (fun r9 m8 => ((r9 = 0) → ∀ x10 : Int32, x10 = l3 + 1 → Gw G (d + 3) mX0_layWords 42 [.ref (ga G 266), .ref (ga G 2), .int l2, .int x10, uu] [] m8 (Qv K)) ∧ ((¬ r9 = 0) → vp_in l2 25 ∧ vp_in l2 25 ∧ ∀ m11 : Mem, m11 = wI m8 268 l2.toNatClampNeg ((m8.1 268 l2.toNatClampNeg) ||| ((1 : Int32) <<< (l3 &&& 31))) → vp_in l3 10 ∧ vp_in (l2 + (m11.1 7 l3.toNatClampNeg)) 25 ∧ vp_in l2 25 ∧ vp_in (l2 + (m11.1 7 l3.toNatClampNeg)) 25 ∧ ∀ m12 : Mem, m12 = wI m11 269 (l2 + (m11.1 7 l3.toNatClampNeg)).toNatClampNeg ((m11.1 269 (l2 + (m11.1 7 l3.toNatClampNeg)).toNatClampNeg) ||| ((m11.1 269 l2.toNatClampNeg) <<< (1 &&& 31))) → ∀ x13 : Int32, x13 = l3 + 1 → Gw G (d + 3) mX0_layWords 42 [.ref (ga G 266), .ref (ga G 2), .int l2, .int x13, uu] [] m12 (Qv K))))) : Gw G (d + 3) mX0_layWords 42 [.ref (ga G 266), .ref (ga G 2), .int l2, .int l3, u4] [] m (Qv K) := by
  refine Gw.weak (L' := [.ref (ga G 266), .ref (ga G 2), .int l2, .int l3, uu]) ⟨Or.inl rfl, Or.inl rfl, Or.inl rfl, Or.inl rfl, Or.inr rfl, trivial⟩ ?_
  refine go_iload_n dX0_layWords_42 rfl ?_
  refine go_aload_n dX0_layWords_43 rfl ?_
  refine go_getI (k := 4) dX0_layWords_44 sh_2 rfl inX2 (Nat.le_of_ble_eq_true rfl) lf_X0_70 rfl ?_
  refine go_icmp_ge 101 dX0_layWords_47 rfl ⟨fun hc => ?_, fun hc => ?_⟩
  · have hF := hF.1 hc
    obtain ⟨x7, ex7⟩ : ∃ z : Int32, z = l2 + 1 := ⟨_, rfl⟩
    have hF := hF x7 ex7
    refine go_iinc (v := x7) (L' := [.ref (ga G 266), .ref (ga G 2), .int x7, .int l3, uu]) dX0_layWords_101 rfl (by rw [ex7]; rfl) (Nat.le_of_ble_eq_true rfl) rfl ?_
    refine go_goto 25 dX0_layWords_104 rfl ?_
    exact hF
  · have hF := hF.2 hc
    refine go_aload_n dX0_layWords_50 rfl ?_
    refine go_iload_n dX0_layWords_51 rfl ?_
    refine go_iload_n dX0_layWords_52 rfl ?_
    refine go_callV mX0_stands dX0_layWords_53 lm_X0_106 okX0_stands isX0_stands sh_266 rfl (As := [.int l3, .int l2]) (S := []) rfl rfl (Nat.le_of_ble_eq_true rfl) hF (k_i (fun r9 m8 hF => ?_))
    refine go_if_eq 95 dX0_layWords_56 rfl ⟨fun hc => ?_, fun hc => ?_⟩
    · have hF := hF.1 hc
      obtain ⟨x10, ex10⟩ : ∃ z : Int32, z = l3 + 1 := ⟨_, rfl⟩
      have hF := hF x10 ex10
      refine go_iinc (v := x10) (L' := [.ref (ga G 266), .ref (ga G 2), .int l2, .int x10, uu]) dX0_layWords_95 rfl (by rw [ex10]; rfl) (Nat.le_of_ble_eq_true rfl) rfl ?_
      refine go_goto 42 dX0_layWords_98 rfl ?_
      exact hF
    · have hF := hF.2 hc
      refine go_aload_n dX0_layWords_59 rfl ?_
      refine go_getR (k := 4) (r := 268) dX0_layWords_60 sh_266 rfl inX0 (Nat.le_of_ble_eq_true rfl) lf_X0_15 rfl rfl ?_
      refine go_iload_n dX0_layWords_63 rfl ?_
      refine go_dup2 dX0_layWords_64 rfl rfl ?_
      obtain ⟨hi, hF⟩ := hF
      refine go_iald dX0_layWords_65 sh_268 hi ?_
      refine go_iconst (v := 1) dX0_layWords_66 (by decide) ?_
      refine go_iload_n dX0_layWords_67 rfl ?_
      refine go_ishl dX0_layWords_68 ?_
      refine go_ior dX0_layWords_69 ?_
      obtain ⟨hi, hF⟩ := hF
      refine go_iast dX0_layWords_70 sh_268 hi ?_
      obtain ⟨m11, em11⟩ : ∃ z : Mem, z = wI m8 268 l2.toNatClampNeg ((m8.1 268 l2.toNatClampNeg) ||| ((1 : Int32) <<< (l3 &&& 31))) := ⟨_, rfl⟩
      rw [← em11]
      have hF := hF m11 em11
      refine go_aload_n dX0_layWords_71 rfl ?_
      refine go_getR (k := 5) (r := 269) dX0_layWords_72 sh_266 rfl inX0 (Nat.le_of_ble_eq_true rfl) lf_X0_18 rfl rfl ?_
      refine go_iload_n dX0_layWords_75 rfl ?_
      refine go_aload_n dX0_layWords_76 rfl ?_
      refine go_getR (k := 6) (r := 7) dX0_layWords_77 sh_2 rfl inX2 (Nat.le_of_ble_eq_true rfl) lf_X0_75 rfl rfl ?_
      refine go_iload_n dX0_layWords_80 rfl ?_
      obtain ⟨hi, hF⟩ := hF
      refine go_iald dX0_layWords_81 sh_7 hi ?_
      refine go_iadd dX0_layWords_82 ?_
      refine go_dup2 dX0_layWords_83 rfl rfl ?_
      obtain ⟨hi, hF⟩ := hF
      refine go_iald dX0_layWords_84 sh_269 hi ?_
      refine go_aload_n dX0_layWords_85 rfl ?_
      refine go_getR (k := 5) (r := 269) dX0_layWords_86 sh_266 rfl inX0 (Nat.le_of_ble_eq_true rfl) lf_X0_18 rfl rfl ?_
      refine go_iload_n dX0_layWords_89 rfl ?_
      obtain ⟨hi, hF⟩ := hF
      refine go_iald dX0_layWords_90 sh_269 hi ?_
      refine go_iconst (v := 1) dX0_layWords_91 (by decide) ?_
      refine go_ishl dX0_layWords_92 ?_
      refine go_ior dX0_layWords_93 ?_
      obtain ⟨hi, hF⟩ := hF
      refine go_iast dX0_layWords_94 sh_269 hi ?_
      obtain ⟨m12, em12⟩ : ∃ z : Mem, z = wI m11 269 (l2 + (m11.1 7 l3.toNatClampNeg)).toNatClampNeg ((m11.1 269 (l2 + (m11.1 7 l3.toNatClampNeg)).toNatClampNeg) ||| ((m11.1 269 l2.toNatClampNeg) <<< (1 &&& 31))) := ⟨_, rfl⟩
      rw [← em12]
      have hF := hF m12 em12
      obtain ⟨x13, ex13⟩ : ∃ z : Int32, z = l3 + 1 := ⟨_, rfl⟩
      have hF := hF x13 ex13
      refine go_iinc (v := x13) (L' := [.ref (ga G 266), .ref (ga G 2), .int l2, .int x13, uu]) dX0_layWords_95 rfl (by rw [ex13]; rfl) (Nat.le_of_ble_eq_true rfl) rfl ?_
      refine go_goto 42 dX0_layWords_98 rfl ?_
      exact hF
theorem vX0_layWords_137 (G : GP) (d : Nat) (l2 : Int32) (l3 : Int32) (u4 : Value) (m : Mem) (K : Mem → Prop) (hF : (((m.1 2 4) ≤ l3) → ∀ x14 : Int32, x14 = l2 + (-1) → Gw G (d + 3) mX0_layWords 124 [.ref (ga G 266), .ref (ga G 2), .int x14, .int l3, uu] [] m (Qv K)) ∧ ((¬ (m.1 2 4) ≤ l3) → vp_in l2 25 ∧ ((¬ (m.1 268 l2.toNatClampNeg >>> (l3 &&& 31)) &&& 1 = 0) → vp_in l3 10 ∧ vp_in (l2 + (m.1 7 l3.toNatClampNeg)) 25 ∧ ∀ x15 : Int32, x15 = m.1 270 (l2 + (m.1 7 l3.toNatClampNeg)).toNatClampNeg → vp_in l2 25 ∧ vp_in l2 25 ∧ ∀ m16 : Mem, m16 = wI m 270 l2.toNatClampNeg (imin 1000000 ((m.1 270 l2.toNatClampNeg) + x15)) → ∀ x17 : Int32, x17 = l3 + 1 → Gw G (d + 3) mX0_layWords 137 [.ref (ga G 266), .ref (ga G 2), .int l2, .int x17, .int x15] [] m16 (Qv K)) ∧ (¬ (¬ (m.1 268 l2.toNatClampNeg >>> (l3 &&& 31)) &&& 1 = 0) → ∀ x18 : Int32, x18 = l3 + 1 → Gw G (d + 3) mX0_layWords 137 [.ref (ga G 266), .ref (ga G 2), .int l2, .int x18, uu] [] m (Qv K)))) : Gw G (d + 3) mX0_layWords 137 [.ref (ga G 266), .ref (ga G 2), .int l2, .int l3, u4] [] m (Qv K) := by
  refine Gw.weak (L' := [.ref (ga G 266), .ref (ga G 2), .int l2, .int l3, uu]) ⟨Or.inl rfl, Or.inl rfl, Or.inl rfl, Or.inl rfl, Or.inr rfl, trivial⟩ ?_
  refine go_iload_n dX0_layWords_137 rfl ?_
  refine go_aload_n dX0_layWords_138 rfl ?_
  refine go_getI (k := 4) dX0_layWords_139 sh_2 rfl inX2 (Nat.le_of_ble_eq_true rfl) lf_X0_70 rfl ?_
  refine go_icmp_ge 195 dX0_layWords_142 rfl ⟨fun hc => ?_, fun hc => ?_⟩
  · have hF := hF.1 hc
    obtain ⟨x14, ex14⟩ : ∃ z : Int32, z = l2 + (-1) := ⟨_, rfl⟩
    have hF := hF x14 ex14
    refine go_iinc (v := x14) (L' := [.ref (ga G 266), .ref (ga G 2), .int x14, .int l3, uu]) dX0_layWords_195 rfl (by rw [ex14]; rfl) (Nat.le_of_ble_eq_true rfl) rfl ?_
    refine go_goto 124 dX0_layWords_198 rfl ?_
    exact hF
  · have hF := hF.2 hc
    refine go_aload_n dX0_layWords_145 rfl ?_
    refine go_iload_n dX0_layWords_146 rfl ?_
    refine go_iload_n dX0_layWords_147 rfl ?_
    obtain ⟨ho, hF⟩ := hF
    rcases Classical.em (¬ (m.1 268 l2.toNatClampNeg >>> (l3 &&& 31)) &&& 1 = 0) with hp | hp
    · have hF := hF.1 hp
      refine go_callV mX0_fitsAt dX0_layWords_148 lm_X0_78 okX0_fitsAt isX0_fitsAt sh_266 rfl (As := [.int l2, .int l3]) (S := []) rfl rfl (Nat.le_of_ble_eq_true rfl) (eX0_fitsAt G _ l2 l3 m (fun r m' => r = 1 ∧ m = m') ho ⟨fun _ => ⟨rfl, rfl⟩, fun q => absurd hp q⟩) (k_i (fun r m' hr => ?_))
      obtain ⟨hr1, hr2⟩ := hr
      subst hr1
      subst hr2
      refine go_if_eq 189 dX0_layWords_151 rfl ⟨fun hc => absurd hc (by decide), fun _ => ?_⟩
      refine go_aload_n dX0_layWords_154 rfl ?_
      refine go_getR (k := 6) (r := 270) dX0_layWords_155 sh_266 rfl inX0 (Nat.le_of_ble_eq_true rfl) lf_X0_21 rfl rfl ?_
      refine go_iload_n dX0_layWords_158 rfl ?_
      refine go_aload_n dX0_layWords_159 rfl ?_
      refine go_getR (k := 6) (r := 7) dX0_layWords_160 sh_2 rfl inX2 (Nat.le_of_ble_eq_true rfl) lf_X0_75 rfl rfl ?_
      refine go_iload_n dX0_layWords_163 rfl ?_
      obtain ⟨hi, hF⟩ := hF
      refine go_iald dX0_layWords_164 sh_7 hi ?_
      refine go_iadd dX0_layWords_165 ?_
      obtain ⟨hi, hF⟩ := hF
      refine go_iald dX0_layWords_166 sh_270 hi ?_
      refine Gw.namei (fun x15 ex15 => ?_)
      have hF := hF x15 ex15
      refine go_istore (L' := [.ref (ga G 266), .ref (ga G 2), .int l2, .int l3, .int x15]) dX0_layWords_167 (Nat.le_of_ble_eq_true rfl) rfl ?_
      refine go_aload_n dX0_layWords_169 rfl ?_
      refine go_getR (k := 6) (r := 270) dX0_layWords_170 sh_266 rfl inX0 (Nat.le_of_ble_eq_true rfl) lf_X0_21 rfl rfl ?_
      refine go_iload_n dX0_layWords_173 rfl ?_
      refine go_ldc (v := 1000000) dX0_layWords_174 lc_X0_93 ?_
      refine go_aload_n dX0_layWords_176 rfl ?_
      refine go_getR (k := 6) (r := 270) dX0_layWords_177 sh_266 rfl inX0 (Nat.le_of_ble_eq_true rfl) lf_X0_21 rfl rfl ?_
      refine go_iload_n dX0_layWords_180 rfl ?_
      obtain ⟨hi, hF⟩ := hF
      refine go_iald dX0_layWords_181 sh_270 hi ?_
      refine go_iload dX0_layWords_182 rfl ?_
      refine go_iadd dX0_layWords_184 ?_
      refine go_mmin dX0_layWords_185 lm_X0_94 (Nat.le_of_ble_eq_true rfl) ?_
      obtain ⟨hi, hF⟩ := hF
      refine go_iast dX0_layWords_188 sh_270 hi ?_
      obtain ⟨m16, em16⟩ : ∃ z : Mem, z = wI m 270 l2.toNatClampNeg (imin 1000000 ((m.1 270 l2.toNatClampNeg) + x15)) := ⟨_, rfl⟩
      rw [← em16]
      have hF := hF m16 em16
      obtain ⟨x17, ex17⟩ : ∃ z : Int32, z = l3 + 1 := ⟨_, rfl⟩
      have hF := hF x17 ex17
      refine go_iinc (v := x17) (L' := [.ref (ga G 266), .ref (ga G 2), .int l2, .int x17, .int x15]) dX0_layWords_189 rfl (by rw [ex17]; rfl) (Nat.le_of_ble_eq_true rfl) rfl ?_
      refine go_goto 137 dX0_layWords_192 rfl ?_
      exact hF
    · have hF := hF.2 hp
      refine go_callV mX0_fitsAt dX0_layWords_148 lm_X0_78 okX0_fitsAt isX0_fitsAt sh_266 rfl (As := [.int l2, .int l3]) (S := []) rfl rfl (Nat.le_of_ble_eq_true rfl) (eX0_fitsAt G _ l2 l3 m (fun r m' => r = 0 ∧ m = m') ho ⟨fun q => absurd q hp, fun _ => ⟨rfl, rfl⟩⟩) (k_i (fun r m' hr => ?_))
      obtain ⟨hr1, hr2⟩ := hr
      subst hr1
      subst hr2
      refine go_if_eq 189 dX0_layWords_151 rfl ⟨fun _ => ?_, fun hc => absurd hc (by decide)⟩
      obtain ⟨x18, ex18⟩ : ∃ z : Int32, z = l3 + 1 := ⟨_, rfl⟩
      have hF := hF x18 ex18
      refine go_iinc (v := x18) (L' := [.ref (ga G 266), .ref (ga G 2), .int l2, .int x18, uu]) dX0_layWords_189 rfl (by rw [ex18]; rfl) (Nat.le_of_ble_eq_true rfl) rfl ?_
      refine go_goto 137 dX0_layWords_192 rfl ?_
      exact hF
theorem vX0_stands (G : GP) (d : Nat) (a0 : Int32) (a1 : Int32) (m : Mem) (K : Int32 → Mem → Prop) (hF : vp_in a0 10 ∧ ∀ x1 : Int32, x1 = m.1 7 a0.toNatClampNeg → (((a1 + x1) ≤ (m.1 266 2)) → Gw G (d + 2) mX0_stands 28 [.ref (ga G 266), .int a0, .int a1, .int x1, .int 0] [] m (Qi K)) ∧ ((¬ (a1 + x1) ≤ (m.1 266 2)) → K 0 m)) : Evi G (d + 2) mX0_stands [.ref (ga G 266), .int a0, .int a1] m K := by
  refine Ev.go [.ref (ga G 266), .int a0, .int a1, uu, uu] (by decide) (Nat.le_of_ble_eq_true rfl) rfl ?_
  refine go_aload_n dX0_stands_0 rfl ?_
  refine go_getR (k := 0) (r := 1) dX0_stands_1 sh_266 rfl inX0 (Nat.le_of_ble_eq_true rfl) lf_X0_30 rfl rfl ?_
  refine go_getR (k := 0) (r := 2) dX0_stands_4 sh_1 rfl inX10 (Nat.le_of_ble_eq_true rfl) lf_X0_66 rfl rfl ?_
  refine go_getR (k := 6) (r := 7) dX0_stands_7 sh_2 rfl inX2 (Nat.le_of_ble_eq_true rfl) lf_X0_75 rfl rfl ?_
  refine go_iload_n dX0_stands_10 rfl ?_
  obtain ⟨hi, hF⟩ := hF
  refine go_iald dX0_stands_11 sh_7 hi ?_
  refine Gw.namei (fun x1 ex1 => ?_)
  have hF := hF x1 ex1
  refine go_istore_n (L' := [.ref (ga G 266), .int a0, .int a1, .int x1, uu]) dX0_stands_12 (Nat.le_of_ble_eq_true rfl) rfl ?_
  refine go_iload_n dX0_stands_13 rfl ?_
  refine go_iload_n dX0_stands_14 rfl ?_
  refine go_iadd dX0_stands_15 ?_
  refine go_aload_n dX0_stands_16 rfl ?_
  refine go_getI (k := 2) dX0_stands_17 sh_266 rfl inX0 (Nat.le_of_ble_eq_true rfl) lf_X0_44 rfl ?_
  refine go_icmp_le 25 dX0_stands_20 rfl ⟨fun hc => ?_, fun hc => ?_⟩
  · have hF := hF.1 hc
    refine go_iconst (v := 0) dX0_stands_25 (by decide) ?_
    refine go_istore (L' := [.ref (ga G 266), .int a0, .int a1, .int x1, .int 0]) dX0_stands_26 (Nat.le_of_ble_eq_true rfl) rfl ?_
    exact hF
  · have hF := hF.2 hc
    refine go_iconst (v := 0) dX0_stands_23 (by decide) ?_
    exact go_zret (S := []) dX0_stands_24 rfl (by decide) ⟨_, rfl, hF⟩
theorem vX0_stands_28 (G : GP) (d : Nat) (l1 : Int32) (l2 : Int32) (l3 : Int32) (l4 : Int32) (m : Mem) (K : Int32 → Mem → Prop) (hF : ((l3 ≤ l4) → K 1 m) ∧ ((¬ l3 ≤ l4) → vp_in (l2 + l4) 24 ∧ ((0 ≤ l1 ∧ l1 < m.1 2 4) ∧ (0 ≤ l4 ∧ l4 ≤ 3) → vp_in (l1 * 4 + l4) 40) ∧ (((m.1 267 (l2 + l4).toNatClampNeg) = (strC m l1 l4)) → ∀ x2 : Int32, x2 = l4 + 1 → Gw G (d + 2) mX0_stands 28 [.ref (ga G 266), .int l1, .int l2, .int l3, .int x2] [] m (Qi K)) ∧ ((¬ (m.1 267 (l2 + l4).toNatClampNeg) = (strC m l1 l4)) → K 0 m))) : Gw G (d + 2) mX0_stands 28 [.ref (ga G 266), .int l1, .int l2, .int l3, .int l4] [] m (Qi K) := by
  refine go_iload dX0_stands_28 rfl ?_
  refine go_iload_n dX0_stands_30 rfl ?_
  refine go_icmp_ge 67 dX0_stands_31 rfl ⟨fun hc => ?_, fun hc => ?_⟩
  · have hF := hF.1 hc
    refine go_iconst (v := 1) dX0_stands_67 (by decide) ?_
    exact go_zret (S := []) dX0_stands_68 rfl (by decide) ⟨_, rfl, hF⟩
  · have hF := hF.2 hc
    refine go_aload_n dX0_stands_34 rfl ?_
    refine go_getR (k := 3) (r := 267) dX0_stands_35 sh_266 rfl inX0 (Nat.le_of_ble_eq_true rfl) lf_X0_9 rfl rfl ?_
    refine go_iload_n dX0_stands_38 rfl ?_
    refine go_iload dX0_stands_39 rfl ?_
    refine go_iadd dX0_stands_41 ?_
    obtain ⟨hi, hF⟩ := hF
    refine go_iald dX0_stands_42 sh_267 hi ?_
    refine go_aload_n dX0_stands_43 rfl ?_
    refine go_getR (k := 0) (r := 1) dX0_stands_44 sh_266 rfl inX0 (Nat.le_of_ble_eq_true rfl) lf_X0_30 rfl rfl ?_
    refine go_getR (k := 0) (r := 2) dX0_stands_47 sh_1 rfl inX10 (Nat.le_of_ble_eq_true rfl) lf_X0_66 rfl rfl ?_
    refine go_iload_n dX0_stands_50 rfl ?_
    refine go_iload dX0_stands_51 rfl ?_
    obtain ⟨ho, hF⟩ := hF
    refine go_callV mX2_strokeOf dX0_stands_53 lm_X0_109 okX2_strokeOf isX2_strokeOf sh_2 rfl (As := [.int l1, .int l4]) (S := [.int (m.1 267 (l2 + l4).toNatClampNeg)]) rfl rfl (Nat.le_of_ble_eq_true rfl) (eX2_strokeOf G _ l1 l4 m (fun r m' => r = strC m l1 l4 ∧ m = m') ho ⟨rfl, rfl⟩) (k_i (fun r m' hr => ?_))
    obtain ⟨hr1, hr2⟩ := hr
    subst hr1
    subst hr2
    refine go_icmp_eq 61 dX0_stands_56 rfl ⟨fun hc => ?_, fun hc => ?_⟩
    · have hF := hF.1 hc
      obtain ⟨x2, ex2⟩ : ∃ z : Int32, z = l4 + 1 := ⟨_, rfl⟩
      have hF := hF x2 ex2
      refine go_iinc (v := x2) (L' := [.ref (ga G 266), .int l1, .int l2, .int l3, .int x2]) dX0_stands_61 rfl (by rw [ex2]; rfl) (Nat.le_of_ble_eq_true rfl) rfl ?_
      refine go_goto 28 dX0_stands_64 rfl ?_
      exact hF
    · have hF := hF.2 hc
      refine go_iconst (v := 0) dX0_stands_59 (by decide) ?_
      exact go_zret (S := []) dX0_stands_60 rfl (by decide) ⟨_, rfl, hF⟩
theorem vX0_firstReading (G : GP) (d : Nat) (a0 : Int32) (a1 : Int32) (m : Mem) (K : Int32 → Mem → Prop) (hF : ((a1 < (-1)) → K (-2) m) ∧ ((¬ a1 < (-1)) → Evi G (d + 5) mX0_waysToRead [.ref (ga G 266), .int a0] m (fun r2 m1 => ((¬ r2 = 0) → ((a0 = 0) → Gw G (d + 6) mX0_firstReading 45 [.ref (ga G 266), .int a0, .int a1, .int 0, .int 0, .int (-1), .int 0] [] m1 (Qi K)) ∧ ((¬ a0 = 0) → Evi G (d + 5) mX1_hasGrammar [.ref (ga G 262)] m1 (fun r4 m3 => ((r4 = 0) → Gw G (d + 6) mX0_firstReading 45 [.ref (ga G 266), .int a0, .int a1, .int 0, .int 0, .int (-1), .int 0] [] m3 (Qi K)) ∧ ((¬ r4 = 0) → Gw G (d + 6) mX0_firstReading 45 [.ref (ga G 266), .int a0, .int a1, .int 1, .int 0, .int (-1), .int 0] [] m3 (Qi K))))) ∧ ((r2 = 0) → K (-2) m1)))) : Evi G (d + 6) mX0_firstReading [.ref (ga G 266), .int a0, .int a1] m K := by
  refine Ev.go [.ref (ga G 266), .int a0, .int a1, uu, uu, uu, uu] (by decide) (Nat.le_of_ble_eq_true rfl) rfl ?_
  refine go_iload_n dX0_firstReading_0 rfl ?_
  refine go_iconst (v := -1) dX0_firstReading_1 (by decide) ?_
  refine go_icmp_lt 13 dX0_firstReading_2 rfl ⟨fun hc => ?_, fun hc => ?_⟩
  · have hF := hF.1 hc
    refine go_bipush (v := -2) dX0_firstReading_13 (by decide) ?_
    exact go_iret (S := []) dX0_firstReading_15 rfl ⟨_, rfl, hF⟩
  · have hF := hF.2 hc
    refine go_aload_n dX0_firstReading_5 rfl ?_
    refine go_iload_n dX0_firstReading_6 rfl ?_
    refine go_callV mX0_waysToRead dX0_firstReading_7 lm_X0_112 okX0_waysToRead isX0_waysToRead sh_266 rfl (As := [.int a0]) (S := []) rfl rfl (Nat.le_of_ble_eq_true rfl) hF (k_i (fun r2 m1 hF => ?_))
    refine go_if_ne 16 dX0_firstReading_10 rfl ⟨fun hc => ?_, fun hc => ?_⟩
    · have hF := hF.1 hc
      refine go_iload_n dX0_firstReading_16 rfl ?_
      refine go_if_eq 34 dX0_firstReading_17 rfl ⟨fun hc => ?_, fun hc => ?_⟩
      · have hF := hF.1 hc
        refine go_iconst (v := 0) dX0_firstReading_34 (by decide) ?_
        refine go_istore_n (L' := [.ref (ga G 266), .int a0, .int a1, .int 0, uu, uu, uu]) dX0_firstReading_35 (Nat.le_of_ble_eq_true rfl) rfl ?_
        refine go_iconst (v := 0) dX0_firstReading_36 (by decide) ?_
        refine go_istore (L' := [.ref (ga G 266), .int a0, .int a1, .int 0, .int 0, uu, uu]) dX0_firstReading_37 (Nat.le_of_ble_eq_true rfl) rfl ?_
        refine go_iconst (v := -1) dX0_firstReading_39 (by decide) ?_
        refine go_istore (L' := [.ref (ga G 266), .int a0, .int a1, .int 0, .int 0, .int (-1), uu]) dX0_firstReading_40 (Nat.le_of_ble_eq_true rfl) rfl ?_
        refine go_iconst (v := 0) dX0_firstReading_42 (by decide) ?_
        refine go_istore (L' := [.ref (ga G 266), .int a0, .int a1, .int 0, .int 0, .int (-1), .int 0]) dX0_firstReading_43 (Nat.le_of_ble_eq_true rfl) rfl ?_
        exact hF
      · have hF := hF.2 hc
        refine go_aload_n dX0_firstReading_20 rfl ?_
        refine go_getR (k := 1) (r := 262) dX0_firstReading_21 sh_266 rfl inX0 (Nat.le_of_ble_eq_true rfl) lf_X0_34 rfl rfl ?_
        refine go_callV mX1_hasGrammar dX0_firstReading_24 lm_X0_60 okX1_hasGrammar isX1_hasGrammar sh_262 rfl (As := []) (S := []) rfl rfl (Nat.le_of_ble_eq_true rfl) hF (k_i (fun r4 m3 hF => ?_))
        refine go_if_eq 34 dX0_firstReading_27 rfl ⟨fun hc => ?_, fun hc => ?_⟩
        · have hF := hF.1 hc
          refine go_iconst (v := 0) dX0_firstReading_34 (by decide) ?_
          refine go_istore_n (L' := [.ref (ga G 266), .int a0, .int a1, .int 0, uu, uu, uu]) dX0_firstReading_35 (Nat.le_of_ble_eq_true rfl) rfl ?_
          refine go_iconst (v := 0) dX0_firstReading_36 (by decide) ?_
          refine go_istore (L' := [.ref (ga G 266), .int a0, .int a1, .int 0, .int 0, uu, uu]) dX0_firstReading_37 (Nat.le_of_ble_eq_true rfl) rfl ?_
          refine go_iconst (v := -1) dX0_firstReading_39 (by decide) ?_
          refine go_istore (L' := [.ref (ga G 266), .int a0, .int a1, .int 0, .int 0, .int (-1), uu]) dX0_firstReading_40 (Nat.le_of_ble_eq_true rfl) rfl ?_
          refine go_iconst (v := 0) dX0_firstReading_42 (by decide) ?_
          refine go_istore (L' := [.ref (ga G 266), .int a0, .int a1, .int 0, .int 0, .int (-1), .int 0]) dX0_firstReading_43 (Nat.le_of_ble_eq_true rfl) rfl ?_
          exact hF
        · have hF := hF.2 hc
          refine go_iconst (v := 1) dX0_firstReading_30 (by decide) ?_
          refine go_goto 35 dX0_firstReading_31 rfl ?_
          refine go_istore_n (L' := [.ref (ga G 266), .int a0, .int a1, .int 1, uu, uu, uu]) dX0_firstReading_35 (Nat.le_of_ble_eq_true rfl) rfl ?_
          refine go_iconst (v := 0) dX0_firstReading_36 (by decide) ?_
          refine go_istore (L' := [.ref (ga G 266), .int a0, .int a1, .int 1, .int 0, uu, uu]) dX0_firstReading_37 (Nat.le_of_ble_eq_true rfl) rfl ?_
          refine go_iconst (v := -1) dX0_firstReading_39 (by decide) ?_
          refine go_istore (L' := [.ref (ga G 266), .int a0, .int a1, .int 1, .int 0, .int (-1), uu]) dX0_firstReading_40 (Nat.le_of_ble_eq_true rfl) rfl ?_
          refine go_iconst (v := 0) dX0_firstReading_42 (by decide) ?_
          refine go_istore (L' := [.ref (ga G 266), .int a0, .int a1, .int 1, .int 0, .int (-1), .int 0]) dX0_firstReading_43 (Nat.le_of_ble_eq_true rfl) rfl ?_
          exact hF
    · have hF := hF.2 hc
      refine go_bipush (v := -2) dX0_firstReading_13 (by decide) ?_
      exact go_iret (S := []) dX0_firstReading_15 rfl ⟨_, rfl, hF⟩
theorem vX0_firstReading_45 (G : GP) (d : Nat) (u1 : Value) (l2 : Int32) (l3 : Int32) (l4 : Int32) (l5 : Int32) (l6 : Int32) (m : Mem) (K : Int32 → Mem → Prop) (hF : ((24 ≤ l6) → ((¬ l2 = (-1)) → K (-2) m) ∧ ((l2 = (-1)) → K l6 m)) ∧ ((¬ 24 ≤ l6) → (((m.1 266 2) ≤ l4) → ((¬ l2 = (-1)) → K (-2) m) ∧ ((l2 = (-1)) → K l6 m)) ∧ ((¬ (m.1 266 2) ≤ l4) → Evi G (d + 5) mX0_lowestAt [.ref (ga G 266), .int l3, .int l4, .int l6, .int l5] m (fun r6 m5 => ((¬ r6 = (-1)) → ((¬ l6 = l2) → vp_in r6 10 ∧ ∀ x7 : Int32, x7 = l4 + (m5.1 7 r6.toNatClampNeg) → ∀ x8 : Int32, x8 = l6 + 1 → Gw G (d + 6) mX0_firstReading 45 [.ref (ga G 266), uu, .int l2, .int l3, .int x7, .int r6, .int x8] [] m5 (Qi K)) ∧ ((l6 = l2) → K r6 m5)) ∧ ((r6 = (-1)) → K (-2) m5))))) : Gw G (d + 6) mX0_firstReading 45 [.ref (ga G 266), u1, .int l2, .int l3, .int l4, .int l5, .int l6] [] m (Qi K) := by
  refine Gw.weak (L' := [.ref (ga G 266), uu, .int l2, .int l3, .int l4, .int l5, .int l6]) ⟨Or.inl rfl, Or.inr rfl, Or.inl rfl, Or.inl rfl, Or.inl rfl, Or.inl rfl, Or.inl rfl, trivial⟩ ?_
  refine go_iload dX0_firstReading_45 rfl ?_
  refine go_bipush (v := 24) dX0_firstReading_47 (by decide) ?_
  refine go_icmp_ge 116 dX0_firstReading_49 rfl ⟨fun hc => ?_, fun hc => ?_⟩
  · have hF := hF.1 hc
    refine go_iload_n dX0_firstReading_116 rfl ?_
    refine go_iconst (v := -1) dX0_firstReading_117 (by decide) ?_
    refine go_icmp_ne 126 dX0_firstReading_118 rfl ⟨fun hc => ?_, fun hc => ?_⟩
    · have hF := hF.1 hc
      refine go_bipush (v := -2) dX0_firstReading_126 (by decide) ?_
      exact go_iret (S := []) dX0_firstReading_128 rfl ⟨_, rfl, hF⟩
    · have hF := hF.2 hc
      refine go_iload dX0_firstReading_121 rfl ?_
      refine go_goto 128 dX0_firstReading_123 rfl ?_
      exact go_iret (S := []) dX0_firstReading_128 rfl ⟨_, rfl, hF⟩
  · have hF := hF.2 hc
    refine go_iload dX0_firstReading_52 rfl ?_
    refine go_aload_n dX0_firstReading_54 rfl ?_
    refine go_getI (k := 2) dX0_firstReading_55 sh_266 rfl inX0 (Nat.le_of_ble_eq_true rfl) lf_X0_44 rfl ?_
    refine go_icmp_ge 116 dX0_firstReading_58 rfl ⟨fun hc => ?_, fun hc => ?_⟩
    · have hF := hF.1 hc
      refine go_iload_n dX0_firstReading_116 rfl ?_
      refine go_iconst (v := -1) dX0_firstReading_117 (by decide) ?_
      refine go_icmp_ne 126 dX0_firstReading_118 rfl ⟨fun hc => ?_, fun hc => ?_⟩
      · have hF := hF.1 hc
        refine go_bipush (v := -2) dX0_firstReading_126 (by decide) ?_
        exact go_iret (S := []) dX0_firstReading_128 rfl ⟨_, rfl, hF⟩
      · have hF := hF.2 hc
        refine go_iload dX0_firstReading_121 rfl ?_
        refine go_goto 128 dX0_firstReading_123 rfl ?_
        exact go_iret (S := []) dX0_firstReading_128 rfl ⟨_, rfl, hF⟩
    · have hF := hF.2 hc
      refine go_aload_n dX0_firstReading_61 rfl ?_
      refine go_iload_n dX0_firstReading_62 rfl ?_
      refine go_iload dX0_firstReading_63 rfl ?_
      refine go_iload dX0_firstReading_65 rfl ?_
      refine go_iload dX0_firstReading_67 rfl ?_
      refine go_callV mX0_lowestAt dX0_firstReading_69 lm_X0_116 okX0_lowestAt isX0_lowestAt sh_266 rfl (As := [.int l3, .int l4, .int l6, .int l5]) (S := []) rfl rfl (Nat.le_of_ble_eq_true rfl) hF (k_i (fun r6 m5 hF => ?_))
      refine go_istore (L' := [.ref (ga G 266), uu, .int l2, .int l3, .int l4, .int r6, .int l6]) dX0_firstReading_72 (Nat.le_of_ble_eq_true rfl) rfl ?_
      refine go_iload dX0_firstReading_74 rfl ?_
      refine go_iconst (v := -1) dX0_firstReading_76 (by decide) ?_
      refine go_icmp_ne 83 dX0_firstReading_77 rfl ⟨fun hc => ?_, fun hc => ?_⟩
      · have hF := hF.1 hc
        refine go_iload dX0_firstReading_83 rfl ?_
        refine go_iload_n dX0_firstReading_85 rfl ?_
        refine go_icmp_ne 92 dX0_firstReading_86 rfl ⟨fun hc => ?_, fun hc => ?_⟩
        · have hF := hF.1 hc
          refine go_iload dX0_firstReading_92 rfl ?_
          refine go_aload_n dX0_firstReading_94 rfl ?_
          refine go_getR (k := 0) (r := 1) dX0_firstReading_95 sh_266 rfl inX0 (Nat.le_of_ble_eq_true rfl) lf_X0_30 rfl rfl ?_
          refine go_getR (k := 0) (r := 2) dX0_firstReading_98 sh_1 rfl inX10 (Nat.le_of_ble_eq_true rfl) lf_X0_66 rfl rfl ?_
          refine go_getR (k := 6) (r := 7) dX0_firstReading_101 sh_2 rfl inX2 (Nat.le_of_ble_eq_true rfl) lf_X0_75 rfl rfl ?_
          refine go_iload dX0_firstReading_104 rfl ?_
          obtain ⟨hi, hF⟩ := hF
          refine go_iald dX0_firstReading_106 sh_7 hi ?_
          refine go_iadd dX0_firstReading_107 ?_
          refine Gw.namei (fun x7 ex7 => ?_)
          have hF := hF x7 ex7
          refine go_istore (L' := [.ref (ga G 266), uu, .int l2, .int l3, .int x7, .int r6, .int l6]) dX0_firstReading_108 (Nat.le_of_ble_eq_true rfl) rfl ?_
          obtain ⟨x8, ex8⟩ : ∃ z : Int32, z = l6 + 1 := ⟨_, rfl⟩
          have hF := hF x8 ex8
          refine go_iinc (v := x8) (L' := [.ref (ga G 266), uu, .int l2, .int l3, .int x7, .int r6, .int x8]) dX0_firstReading_110 rfl (by rw [ex8]; rfl) (Nat.le_of_ble_eq_true rfl) rfl ?_
          refine go_goto 45 dX0_firstReading_113 rfl ?_
          exact hF
        · have hF := hF.2 hc
          refine go_iload dX0_firstReading_89 rfl ?_
          exact go_iret (S := []) dX0_firstReading_91 rfl ⟨_, rfl, hF⟩
      · have hF := hF.2 hc
        refine go_bipush (v := -2) dX0_firstReading_80 (by decide) ?_
        exact go_iret (S := []) dX0_firstReading_82 rfl ⟨_, rfl, hF⟩
theorem vX0_lowestAt (G : GP) (d : Nat) (a0 : Int32) (a1 : Int32) (a2 : Int32) (a3 : Int32) (m : Mem) (K : Int32 → Mem → Prop) (hF : Gw G (d + 4) mX0_lowestAt 3 [.ref (ga G 266), .int a0, .int a1, .int a2, .int a3, .int 0, uu, uu] [] m (Qi K)) : Evi G (d + 4) mX0_lowestAt [.ref (ga G 266), .int a0, .int a1, .int a2, .int a3] m K := by
  refine Ev.go [.ref (ga G 266), .int a0, .int a1, .int a2, .int a3, uu, uu, uu] (by decide) (Nat.le_of_ble_eq_true rfl) rfl ?_
  refine go_iconst (v := 0) dX0_lowestAt_0 (by decide) ?_
  refine go_istore (L' := [.ref (ga G 266), .int a0, .int a1, .int a2, .int a3, .int 0, uu, uu]) dX0_lowestAt_1 (Nat.le_of_ble_eq_true rfl) rfl ?_
  exact hF
theorem vX0_lowestAt_3 (G : GP) (d : Nat) (l1 : Int32) (l2 : Int32) (l3 : Int32) (l4 : Int32) (l5 : Int32) (u6 : Value) (u7 : Value) (m : Mem) (K : Int32 → Mem → Prop) (hF : (((m.1 2 4) ≤ l5) → K (-1) m) ∧ ((¬ (m.1 2 4) ≤ l5) → vp_in l5 10 ∧ ∀ x1 : Int32, x1 = l2 + (m.1 7 l5.toNatClampNeg) → vp_in l2 25 ∧ ((¬ (m.1 268 l2.toNatClampNeg >>> (l5 &&& 31)) &&& 1 = 0) → vp_in x1 25 ∧ (((m.1 270 x1.toNatClampNeg) ≤ 0) → ∀ x2 : Int32, x2 = l5 + 1 → Gw G (d + 4) mX0_lowestAt 3 [.ref (ga G 266), .int l1, .int l2, .int l3, .int l4, .int x2, .int x1, .int 0] [] m (Qi K)) ∧ ((¬ (m.1 270 x1.toNatClampNeg) ≤ 0) → ((l1 = 0) → K l5 m) ∧ ((¬ l1 = 0) → vp_in (((x1 * 25 + (l3 + 1)) * 10) + l5) 6250 ∧ (((m.1 271 (((x1 * 25 + (l3 + 1)) * 10) + l5).toNatClampNeg) ≤ 0) → ∀ x3 : Int32, x3 = l5 + 1 → Gw G (d + 4) mX0_lowestAt 3 [.ref (ga G 266), .int l1, .int l2, .int l3, .int l4, .int x3, .int x1, .int 0] [] m (Qi K)) ∧ ((¬ (m.1 271 (((x1 * 25 + (l3 + 1)) * 10) + l5).toNatClampNeg) ≤ 0) → Evi G (d + 3) mX1_mayStand [.ref (ga G 262), .int l4, .int l5, .int l3] m (fun r5 m4 => ((r5 = 0) → ∀ x6 : Int32, x6 = l5 + 1 → Gw G (d + 4) mX0_lowestAt 3 [.ref (ga G 266), .int l1, .int l2, .int l3, .int l4, .int x6, .int x1, .int 0] [] m4 (Qi K)) ∧ ((¬ r5 = 0) → K l5 m4)))))) ∧ (¬ (¬ (m.1 268 l2.toNatClampNeg >>> (l5 &&& 31)) &&& 1 = 0) → ∀ x7 : Int32, x7 = l5 + 1 → Gw G (d + 4) mX0_lowestAt 3 [.ref (ga G 266), .int l1, .int l2, .int l3, .int l4, .int x7, .int x1, .int 0] [] m (Qi K)))) : Gw G (d + 4) mX0_lowestAt 3 [.ref (ga G 266), .int l1, .int l2, .int l3, .int l4, .int l5, u6, u7] [] m (Qi K) := by
  refine Gw.weak (L' := [.ref (ga G 266), .int l1, .int l2, .int l3, .int l4, .int l5, uu, uu]) ⟨Or.inl rfl, Or.inl rfl, Or.inl rfl, Or.inl rfl, Or.inl rfl, Or.inl rfl, Or.inr rfl, Or.inr rfl, trivial⟩ ?_
  refine go_iload dX0_lowestAt_3 rfl ?_
  refine go_aload_n dX0_lowestAt_5 rfl ?_
  refine go_getR (k := 0) (r := 1) dX0_lowestAt_6 sh_266 rfl inX0 (Nat.le_of_ble_eq_true rfl) lf_X0_30 rfl rfl ?_
  refine go_getR (k := 0) (r := 2) dX0_lowestAt_9 sh_1 rfl inX10 (Nat.le_of_ble_eq_true rfl) lf_X0_66 rfl rfl ?_
  refine go_getI (k := 4) dX0_lowestAt_12 sh_2 rfl inX2 (Nat.le_of_ble_eq_true rfl) lf_X0_70 rfl ?_
  refine go_icmp_ge 125 dX0_lowestAt_15 rfl ⟨fun hc => ?_, fun hc => ?_⟩
  · have hF := hF.1 hc
    refine go_iconst (v := -1) dX0_lowestAt_125 (by decide) ?_
    exact go_iret (S := []) dX0_lowestAt_126 rfl ⟨_, rfl, hF⟩
  · have hF := hF.2 hc
    refine go_iload_n dX0_lowestAt_18 rfl ?_
    refine go_aload_n dX0_lowestAt_19 rfl ?_
    refine go_getR (k := 0) (r := 1) dX0_lowestAt_20 sh_266 rfl inX0 (Nat.le_of_ble_eq_true rfl) lf_X0_30 rfl rfl ?_
    refine go_getR (k := 0) (r := 2) dX0_lowestAt_23 sh_1 rfl inX10 (Nat.le_of_ble_eq_true rfl) lf_X0_66 rfl rfl ?_
    refine go_getR (k := 6) (r := 7) dX0_lowestAt_26 sh_2 rfl inX2 (Nat.le_of_ble_eq_true rfl) lf_X0_75 rfl rfl ?_
    refine go_iload dX0_lowestAt_29 rfl ?_
    obtain ⟨hi, hF⟩ := hF
    refine go_iald dX0_lowestAt_31 sh_7 hi ?_
    refine go_iadd dX0_lowestAt_32 ?_
    refine Gw.namei (fun x1 ex1 => ?_)
    have hF := hF x1 ex1
    refine go_istore (L' := [.ref (ga G 266), .int l1, .int l2, .int l3, .int l4, .int l5, .int x1, uu]) dX0_lowestAt_33 (Nat.le_of_ble_eq_true rfl) rfl ?_
    refine go_aload_n dX0_lowestAt_35 rfl ?_
    refine go_iload_n dX0_lowestAt_36 rfl ?_
    refine go_iload dX0_lowestAt_37 rfl ?_
    obtain ⟨ho, hF⟩ := hF
    rcases Classical.em (¬ (m.1 268 l2.toNatClampNeg >>> (l5 &&& 31)) &&& 1 = 0) with hp | hp
    · have hF := hF.1 hp
      refine go_callV mX0_fitsAt dX0_lowestAt_39 lm_X0_78 okX0_fitsAt isX0_fitsAt sh_266 rfl (As := [.int l2, .int l5]) (S := []) rfl rfl (Nat.le_of_ble_eq_true rfl) (eX0_fitsAt G _ l2 l5 m (fun r m' => r = 1 ∧ m = m') ho ⟨fun _ => ⟨rfl, rfl⟩, fun q => absurd hp q⟩) (k_i (fun r m' hr => ?_))
      obtain ⟨hr1, hr2⟩ := hr
      subst hr1
      subst hr2
      refine go_if_eq 59 dX0_lowestAt_42 rfl ⟨fun hc => absurd hc (by decide), fun _ => ?_⟩
      refine go_aload_n dX0_lowestAt_45 rfl ?_
      refine go_getR (k := 6) (r := 270) dX0_lowestAt_46 sh_266 rfl inX0 (Nat.le_of_ble_eq_true rfl) lf_X0_21 rfl rfl ?_
      refine go_iload dX0_lowestAt_49 rfl ?_
      obtain ⟨hi, hF⟩ := hF
      refine go_iald dX0_lowestAt_51 sh_270 hi ?_
      refine go_if_le 59 dX0_lowestAt_52 rfl ⟨fun hc => ?_, fun hc => ?_⟩
      · have hF := hF.1 hc
        refine go_iconst (v := 0) dX0_lowestAt_59 (by decide) ?_
        refine go_istore (L' := [.ref (ga G 266), .int l1, .int l2, .int l3, .int l4, .int l5, .int x1, .int 0]) dX0_lowestAt_60 (Nat.le_of_ble_eq_true rfl) rfl ?_
        refine go_iload dX0_lowestAt_62 rfl ?_
        refine go_if_eq 111 dX0_lowestAt_64 rfl ⟨fun _ => ?_, fun hc => absurd hc (by decide)⟩
        refine go_iload dX0_lowestAt_111 rfl ?_
        refine go_if_eq 119 dX0_lowestAt_113 rfl ⟨fun _ => ?_, fun hc => absurd hc (by decide)⟩
        obtain ⟨x2, ex2⟩ : ∃ z : Int32, z = l5 + 1 := ⟨_, rfl⟩
        have hF := hF x2 ex2
        refine go_iinc (v := x2) (L' := [.ref (ga G 266), .int l1, .int l2, .int l3, .int l4, .int x2, .int x1, .int 0]) dX0_lowestAt_119 rfl (by rw [ex2]; rfl) (Nat.le_of_ble_eq_true rfl) rfl ?_
        refine go_goto 3 dX0_lowestAt_122 rfl ?_
        exact hF
      · have hF := hF.2 hc
        refine go_iconst (v := 1) dX0_lowestAt_55 (by decide) ?_
        refine go_goto 60 dX0_lowestAt_56 rfl ?_
        refine go_istore (L' := [.ref (ga G 266), .int l1, .int l2, .int l3, .int l4, .int l5, .int x1, .int 1]) dX0_lowestAt_60 (Nat.le_of_ble_eq_true rfl) rfl ?_
        refine go_iload dX0_lowestAt_62 rfl ?_
        refine go_if_eq 111 dX0_lowestAt_64 rfl ⟨fun hc => absurd hc (by decide), fun _ => ?_⟩
        refine go_iload_n dX0_lowestAt_67 rfl ?_
        refine go_if_eq 111 dX0_lowestAt_68 rfl ⟨fun hc => ?_, fun hc => ?_⟩
        · have hF := hF.1 hc
          refine go_iload dX0_lowestAt_111 rfl ?_
          refine go_if_eq 119 dX0_lowestAt_113 rfl ⟨fun hc => absurd hc (by decide), fun _ => ?_⟩
          refine go_iload dX0_lowestAt_116 rfl ?_
          exact go_iret (S := []) dX0_lowestAt_118 rfl ⟨_, rfl, hF⟩
        · have hF := hF.2 hc
          refine go_aload_n dX0_lowestAt_71 rfl ?_
          refine go_getR (k := 7) (r := 271) dX0_lowestAt_72 sh_266 rfl inX0 (Nat.le_of_ble_eq_true rfl) lf_X0_24 rfl rfl ?_
          refine go_iload dX0_lowestAt_75 rfl ?_
          refine go_iload_n dX0_lowestAt_77 rfl ?_
          refine go_iconst (v := 1) dX0_lowestAt_78 (by decide) ?_
          refine go_iadd dX0_lowestAt_79 ?_
          refine go_iload dX0_lowestAt_80 rfl ?_
          refine go_callS mX0_cell dX0_lowestAt_82 lm_X0_82 okX0_cell isX0_cell (As := [.int x1, .int (l3 + 1), .int l5]) (S := [.ref (ga G 271)]) rfl rfl (Nat.le_of_ble_eq_true rfl) (eX0_cell G _ x1 (l3 + 1) l5 m (fun r m' => r = ((x1 * 25 + (l3 + 1)) * 10) + l5 ∧ m = m') ⟨rfl, rfl⟩) (k_i (fun r m' hr => ?_))
          obtain ⟨hr1, hr2⟩ := hr
          subst hr1
          subst hr2
          obtain ⟨hi, hF⟩ := hF
          refine go_iald dX0_lowestAt_85 sh_271 hi ?_
          refine go_if_le 108 dX0_lowestAt_86 rfl ⟨fun hc => ?_, fun hc => ?_⟩
          · have hF := hF.1 hc
            refine go_iconst (v := 0) dX0_lowestAt_108 (by decide) ?_
            refine go_istore (L' := [.ref (ga G 266), .int l1, .int l2, .int l3, .int l4, .int l5, .int x1, .int 0]) dX0_lowestAt_109 (Nat.le_of_ble_eq_true rfl) rfl ?_
            refine go_iload dX0_lowestAt_111 rfl ?_
            refine go_if_eq 119 dX0_lowestAt_113 rfl ⟨fun _ => ?_, fun hc => absurd hc (by decide)⟩
            obtain ⟨x3, ex3⟩ : ∃ z : Int32, z = l5 + 1 := ⟨_, rfl⟩
            have hF := hF x3 ex3
            refine go_iinc (v := x3) (L' := [.ref (ga G 266), .int l1, .int l2, .int l3, .int l4, .int x3, .int x1, .int 0]) dX0_lowestAt_119 rfl (by rw [ex3]; rfl) (Nat.le_of_ble_eq_true rfl) rfl ?_
            refine go_goto 3 dX0_lowestAt_122 rfl ?_
            exact hF
          · have hF := hF.2 hc
            refine go_aload_n dX0_lowestAt_89 rfl ?_
            refine go_getR (k := 1) (r := 262) dX0_lowestAt_90 sh_266 rfl inX0 (Nat.le_of_ble_eq_true rfl) lf_X0_34 rfl rfl ?_
            refine go_iload dX0_lowestAt_93 rfl ?_
            refine go_iload dX0_lowestAt_95 rfl ?_
            refine go_iload_n dX0_lowestAt_97 rfl ?_
            refine go_callV mX1_mayStand dX0_lowestAt_98 lm_X0_89 okX1_mayStand isX1_mayStand sh_262 rfl (As := [.int l4, .int l5, .int l3]) (S := []) rfl rfl (Nat.le_of_ble_eq_true rfl) hF (k_i (fun r5 m4 hF => ?_))
            refine go_if_eq 108 dX0_lowestAt_101 rfl ⟨fun hc => ?_, fun hc => ?_⟩
            · have hF := hF.1 hc
              refine go_iconst (v := 0) dX0_lowestAt_108 (by decide) ?_
              refine go_istore (L' := [.ref (ga G 266), .int l1, .int l2, .int l3, .int l4, .int l5, .int x1, .int 0]) dX0_lowestAt_109 (Nat.le_of_ble_eq_true rfl) rfl ?_
              refine go_iload dX0_lowestAt_111 rfl ?_
              refine go_if_eq 119 dX0_lowestAt_113 rfl ⟨fun _ => ?_, fun hc => absurd hc (by decide)⟩
              obtain ⟨x6, ex6⟩ : ∃ z : Int32, z = l5 + 1 := ⟨_, rfl⟩
              have hF := hF x6 ex6
              refine go_iinc (v := x6) (L' := [.ref (ga G 266), .int l1, .int l2, .int l3, .int l4, .int x6, .int x1, .int 0]) dX0_lowestAt_119 rfl (by rw [ex6]; rfl) (Nat.le_of_ble_eq_true rfl) rfl ?_
              refine go_goto 3 dX0_lowestAt_122 rfl ?_
              exact hF
            · have hF := hF.2 hc
              refine go_iconst (v := 1) dX0_lowestAt_104 (by decide) ?_
              refine go_goto 109 dX0_lowestAt_105 rfl ?_
              refine go_istore (L' := [.ref (ga G 266), .int l1, .int l2, .int l3, .int l4, .int l5, .int x1, .int 1]) dX0_lowestAt_109 (Nat.le_of_ble_eq_true rfl) rfl ?_
              refine go_iload dX0_lowestAt_111 rfl ?_
              refine go_if_eq 119 dX0_lowestAt_113 rfl ⟨fun hc => absurd hc (by decide), fun _ => ?_⟩
              refine go_iload dX0_lowestAt_116 rfl ?_
              exact go_iret (S := []) dX0_lowestAt_118 rfl ⟨_, rfl, hF⟩
    · have hF := hF.2 hp
      refine go_callV mX0_fitsAt dX0_lowestAt_39 lm_X0_78 okX0_fitsAt isX0_fitsAt sh_266 rfl (As := [.int l2, .int l5]) (S := []) rfl rfl (Nat.le_of_ble_eq_true rfl) (eX0_fitsAt G _ l2 l5 m (fun r m' => r = 0 ∧ m = m') ho ⟨fun q => absurd q hp, fun _ => ⟨rfl, rfl⟩⟩) (k_i (fun r m' hr => ?_))
      obtain ⟨hr1, hr2⟩ := hr
      subst hr1
      subst hr2
      refine go_if_eq 59 dX0_lowestAt_42 rfl ⟨fun _ => ?_, fun hc => absurd hc (by decide)⟩
      refine go_iconst (v := 0) dX0_lowestAt_59 (by decide) ?_
      refine go_istore (L' := [.ref (ga G 266), .int l1, .int l2, .int l3, .int l4, .int l5, .int x1, .int 0]) dX0_lowestAt_60 (Nat.le_of_ble_eq_true rfl) rfl ?_
      refine go_iload dX0_lowestAt_62 rfl ?_
      refine go_if_eq 111 dX0_lowestAt_64 rfl ⟨fun _ => ?_, fun hc => absurd hc (by decide)⟩
      refine go_iload dX0_lowestAt_111 rfl ?_
      refine go_if_eq 119 dX0_lowestAt_113 rfl ⟨fun _ => ?_, fun hc => absurd hc (by decide)⟩
      obtain ⟨x7, ex7⟩ : ∃ z : Int32, z = l5 + 1 := ⟨_, rfl⟩
      have hF := hF x7 ex7
      refine go_iinc (v := x7) (L' := [.ref (ga G 266), .int l1, .int l2, .int l3, .int l4, .int x7, .int x1, .int 0]) dX0_lowestAt_119 rfl (by rw [ex7]; rfl) (Nat.le_of_ble_eq_true rfl) rfl ?_
      refine go_goto 3 dX0_lowestAt_122 rfl ?_
      exact hF
theorem vX0_likelihood (G : GP) (d : Nat) (a0 : Int32) (a1 : Int32) (m : Mem) (K : Int64 → Mem → Prop) (hF : vp_in a0 10 ∧ ∀ x1 : Int32, x1 = m.1 7 a0.toNatClampNeg → (((m.1 266 2) ≤ x1) → Evi G (d + 2) mX0_waysLeft [.ref (ga G 266), .int a0] m (fun r3 m2 => Gw G (d + 3) mX0_likelihood 34 [.ref (ga G 266), .int a0, .int a1, .int x1, .long r3.toInt64, uu, .int 0] [] m2 (Ql K))) ∧ ((¬ (m.1 266 2) ≤ x1) → K 0 m)) : Evl G (d + 3) mX0_likelihood [.ref (ga G 266), .int a0, .int a1] m K := by
  refine Ev.go [.ref (ga G 266), .int a0, .int a1, uu, uu, uu, uu] (by decide) (Nat.le_of_ble_eq_true rfl) rfl ?_
  refine go_aload_n dX0_likelihood_0 rfl ?_
  refine go_getR (k := 0) (r := 1) dX0_likelihood_1 sh_266 rfl inX0 (Nat.le_of_ble_eq_true rfl) lf_X0_30 rfl rfl ?_
  refine go_getR (k := 0) (r := 2) dX0_likelihood_4 sh_1 rfl inX10 (Nat.le_of_ble_eq_true rfl) lf_X0_66 rfl rfl ?_
  refine go_getR (k := 6) (r := 7) dX0_likelihood_7 sh_2 rfl inX2 (Nat.le_of_ble_eq_true rfl) lf_X0_75 rfl rfl ?_
  refine go_iload_n dX0_likelihood_10 rfl ?_
  obtain ⟨hi, hF⟩ := hF
  refine go_iald dX0_likelihood_11 sh_7 hi ?_
  refine Gw.namei (fun x1 ex1 => ?_)
  have hF := hF x1 ex1
  refine go_istore_n (L' := [.ref (ga G 266), .int a0, .int a1, .int x1, uu, uu, uu]) dX0_likelihood_12 (Nat.le_of_ble_eq_true rfl) rfl ?_
  refine go_aload_n dX0_likelihood_13 rfl ?_
  refine go_getI (k := 2) dX0_likelihood_14 sh_266 rfl inX0 (Nat.le_of_ble_eq_true rfl) lf_X0_44 rfl ?_
  refine go_iload_n dX0_likelihood_17 rfl ?_
  refine go_icmp_le 23 dX0_likelihood_18 rfl ⟨fun hc => ?_, fun hc => ?_⟩
  · have hF := hF.1 hc
    refine go_aload_n dX0_likelihood_23 rfl ?_
    refine go_iload_n dX0_likelihood_24 rfl ?_
    refine go_callV mX0_waysLeft dX0_likelihood_25 lm_X0_120 okX0_waysLeft isX0_waysLeft sh_266 rfl (As := [.int a0]) (S := []) rfl rfl (Nat.le_of_ble_eq_true rfl) hF (k_i (fun r3 m2 hF => ?_))
    refine go_i2l dX0_likelihood_28 ?_
    refine go_lstore (L' := [.ref (ga G 266), .int a0, .int a1, .int x1, .long r3.toInt64, uu, uu]) dX0_likelihood_29 (Nat.le_of_ble_eq_true rfl) rfl ?_
    refine go_iconst (v := 0) dX0_likelihood_31 (by decide) ?_
    refine go_istore (L' := [.ref (ga G 266), .int a0, .int a1, .int x1, .long r3.toInt64, uu, .int 0]) dX0_likelihood_32 (Nat.le_of_ble_eq_true rfl) rfl ?_
    exact hF
  · have hF := hF.2 hc
    refine go_lconst (v := 0) dX0_likelihood_21 (by decide) ?_
    exact go_lret (S := []) dX0_likelihood_22 rfl ⟨_, rfl, hF⟩
theorem vX0_likelihood_34 (G : GP) (d : Nat) (u1 : Value) (l2 : Int32) (l3 : Int32) (l4 : Int64) (u5 : Value) (l6 : Int32) (m : Mem) (K : Int64 → Mem → Prop) (hF : ((4 ≤ l6) → K l4 m) ∧ ((¬ 4 ≤ l6) → (((m.1 266 2) ≤ l6) → ((l3 ≤ l6) → ∀ x4 : Int64, x4 = l4 * 10 → ∀ x5 : Int32, x5 = l6 + 1 → Gw G (d + 3) mX0_likelihood 34 [.ref (ga G 266), uu, .int l2, .int l3, .long x4, uu, .int x5] [] m (Ql K)) ∧ ((¬ l3 ≤ l6) → ∀ x6 : Int64, x6 = l4 * l2.toInt64 → ∀ x7 : Int32, x7 = l6 + 1 → Gw G (d + 3) mX0_likelihood 34 [.ref (ga G 266), uu, .int l2, .int l3, .long x6, uu, .int x7] [] m (Ql K))) ∧ ((¬ (m.1 266 2) ≤ l6) → ∀ x8 : Int64, x8 = l4 * (((10 : Int32) - l2).toInt64) → ∀ x9 : Int32, x9 = l6 + 1 → Gw G (d + 3) mX0_likelihood 34 [.ref (ga G 266), uu, .int l2, .int l3, .long x8, uu, .int x9] [] m (Ql K)))) : Gw G (d + 3) mX0_likelihood 34 [.ref (ga G 266), u1, .int l2, .int l3, .long l4, u5, .int l6] [] m (Ql K) := by
  refine Gw.weak (L' := [.ref (ga G 266), uu, .int l2, .int l3, .long l4, uu, .int l6]) ⟨Or.inl rfl, Or.inr rfl, Or.inl rfl, Or.inl rfl, Or.inl rfl, Or.inr rfl, Or.inl rfl, trivial⟩ ?_
  refine go_iload dX0_likelihood_34 rfl ?_
  refine go_iconst (v := 4) dX0_likelihood_36 (by decide) ?_
  refine go_icmp_ge 87 dX0_likelihood_37 rfl ⟨fun hc => ?_, fun hc => ?_⟩
  · have hF := hF.1 hc
    refine go_lload dX0_likelihood_87 rfl ?_
    exact go_lret (S := []) dX0_likelihood_89 rfl ⟨_, rfl, hF⟩
  · have hF := hF.2 hc
    refine go_iload dX0_likelihood_40 rfl ?_
    refine go_aload_n dX0_likelihood_42 rfl ?_
    refine go_getI (k := 2) dX0_likelihood_43 sh_266 rfl inX0 (Nat.le_of_ble_eq_true rfl) lf_X0_44 rfl ?_
    refine go_icmp_ge 62 dX0_likelihood_46 rfl ⟨fun hc => ?_, fun hc => ?_⟩
    · have hF := hF.1 hc
      refine go_lload dX0_likelihood_62 rfl ?_
      refine go_iload dX0_likelihood_64 rfl ?_
      refine go_iload_n dX0_likelihood_66 rfl ?_
      refine go_icmp_ge 75 dX0_likelihood_67 rfl ⟨fun hc => ?_, fun hc => ?_⟩
      · have hF := hF.1 hc
        refine go_ldc2 (v := 10) dX0_likelihood_75 lc_X0_124 ?_
        refine go_lmul dX0_likelihood_78 ?_
        refine Gw.namel (fun x4 ex4 => ?_)
        have hF := hF x4 ex4
        refine go_lstore (L' := [.ref (ga G 266), uu, .int l2, .int l3, .long x4, uu, .int l6]) dX0_likelihood_79 (Nat.le_of_ble_eq_true rfl) rfl ?_
        obtain ⟨x5, ex5⟩ : ∃ z : Int32, z = l6 + 1 := ⟨_, rfl⟩
        have hF := hF x5 ex5
        refine go_iinc (v := x5) (L' := [.ref (ga G 266), uu, .int l2, .int l3, .long x4, uu, .int x5]) dX0_likelihood_81 rfl (by rw [ex5]; rfl) (Nat.le_of_ble_eq_true rfl) rfl ?_
        refine go_goto 34 dX0_likelihood_84 rfl ?_
        exact hF
      · have hF := hF.2 hc
        refine go_iload_n dX0_likelihood_70 rfl ?_
        refine go_i2l dX0_likelihood_71 ?_
        refine go_goto 78 dX0_likelihood_72 rfl ?_
        refine go_lmul dX0_likelihood_78 ?_
        refine Gw.namel (fun x6 ex6 => ?_)
        have hF := hF x6 ex6
        refine go_lstore (L' := [.ref (ga G 266), uu, .int l2, .int l3, .long x6, uu, .int l6]) dX0_likelihood_79 (Nat.le_of_ble_eq_true rfl) rfl ?_
        obtain ⟨x7, ex7⟩ : ∃ z : Int32, z = l6 + 1 := ⟨_, rfl⟩
        have hF := hF x7 ex7
        refine go_iinc (v := x7) (L' := [.ref (ga G 266), uu, .int l2, .int l3, .long x6, uu, .int x7]) dX0_likelihood_81 rfl (by rw [ex7]; rfl) (Nat.le_of_ble_eq_true rfl) rfl ?_
        refine go_goto 34 dX0_likelihood_84 rfl ?_
        exact hF
    · have hF := hF.2 hc
      refine go_lload dX0_likelihood_49 rfl ?_
      refine go_bipush (v := 10) dX0_likelihood_51 (by decide) ?_
      refine go_iload_n dX0_likelihood_53 rfl ?_
      refine go_isub dX0_likelihood_54 ?_
      refine go_i2l dX0_likelihood_55 ?_
      refine go_lmul dX0_likelihood_56 ?_
      refine Gw.namel (fun x8 ex8 => ?_)
      have hF := hF x8 ex8
      refine go_lstore (L' := [.ref (ga G 266), uu, .int l2, .int l3, .long x8, uu, .int l6]) dX0_likelihood_57 (Nat.le_of_ble_eq_true rfl) rfl ?_
      refine go_goto 81 dX0_likelihood_59 rfl ?_
      obtain ⟨x9, ex9⟩ : ∃ z : Int32, z = l6 + 1 := ⟨_, rfl⟩
      have hF := hF x9 ex9
      refine go_iinc (v := x9) (L' := [.ref (ga G 266), uu, .int l2, .int l3, .long x8, uu, .int x9]) dX0_likelihood_81 rfl (by rw [ex9]; rfl) (Nat.le_of_ble_eq_true rfl) rfl ?_
      refine go_goto 34 dX0_likelihood_84 rfl ?_
      exact hF
theorem vX0_waysLeft (G : GP) (d : Nat) (a0 : Int32) (m : Mem) (K : Int32 → Mem → Prop) (hF : Evv G (d + 1) mJ7_fill_53178 [.ref (ga G 272), .int 0] m (fun m1 => ∀ m2 : Mem, m2 = wI m1 272 0 1 → Gw G (d + 2) mX0_waysLeft 17 [.ref (ga G 266), .int a0, .int 0, uu, uu] [] m2 (Qi K))) : Evi G (d + 2) mX0_waysLeft [.ref (ga G 266), .int a0] m K := by
  refine Ev.go [.ref (ga G 266), .int a0, uu, uu, uu] (by decide) (Nat.le_of_ble_eq_true rfl) rfl ?_
  refine go_aload_n dX0_waysLeft_0 rfl ?_
  refine go_getR (k := 8) (r := 272) dX0_waysLeft_1 sh_266 rfl inX0 (Nat.le_of_ble_eq_true rfl) lf_X0_27 rfl rfl ?_
  refine go_iconst (v := 0) dX0_waysLeft_4 (by decide) ?_
  refine go_callS mJ7_fill_53178 dX0_waysLeft_5 lm_X0_100 okJ7_fill_53178 isJ7_fill_53178 (As := [.ref (ga G 272), .int 0]) (S := []) rfl rfl (Nat.le_of_ble_eq_true rfl) hF (k_v (fun m1 hF => ?_))
  refine go_aload_n dX0_waysLeft_8 rfl ?_
  refine go_getR (k := 8) (r := 272) dX0_waysLeft_9 sh_266 rfl inX0 (Nat.le_of_ble_eq_true rfl) lf_X0_27 rfl rfl ?_
  refine go_iconst (v := 0) dX0_waysLeft_12 (by decide) ?_
  refine go_iconst (v := 1) dX0_waysLeft_13 (by decide) ?_
  refine go_iastK (k := 0) dX0_waysLeft_14 sh_272 (vp_in_dec (by decide)) (by decide) ?_
  obtain ⟨m2, em2⟩ : ∃ z : Mem, z = wI m1 272 0 1 := ⟨_, rfl⟩
  rw [← em2]
  have hF := hF m2 em2
  refine go_iconst (v := 0) dX0_waysLeft_15 (by decide) ?_
  refine go_istore_n (L' := [.ref (ga G 266), .int a0, .int 0, uu, uu]) dX0_waysLeft_16 (Nat.le_of_ble_eq_true rfl) rfl ?_
  exact hF
theorem vX0_waysLeft_17 (G : GP) (d : Nat) (l1 : Int32) (l2 : Int32) (u3 : Value) (u4 : Value) (m : Mem) (K : Int32 → Mem → Prop) (hF : vp_in l1 10 ∧ (((m.1 7 l1.toNatClampNeg) ≤ l2) → vp_in (m.1 266 2) 5 ∧ K (m.1 272 (m.1 266 2).toNatClampNeg) m) ∧ ((¬ (m.1 7 l1.toNatClampNeg) ≤ l2) → ((0 ≤ l1 ∧ l1 < m.1 2 4) ∧ (0 ≤ l2 ∧ l2 ≤ 3) → vp_in (l1 * 4 + l2) 40) ∧ ∀ x3 : Int32, x3 = strC m l1 l2 → ∀ x4 : Int32, x4 = m.1 266 2 → Gw G (d + 2) mX0_waysLeft 52 [.ref (ga G 266), .int l1, .int l2, .int x3, .int x4] [] m (Qi K))) : Gw G (d + 2) mX0_waysLeft 17 [.ref (ga G 266), .int l1, .int l2, u3, u4] [] m (Qi K) := by
  refine Gw.weak (L' := [.ref (ga G 266), .int l1, .int l2, uu, uu]) ⟨Or.inl rfl, Or.inl rfl, Or.inl rfl, Or.inr rfl, Or.inr rfl, trivial⟩ ?_
  refine go_iload_n dX0_waysLeft_17 rfl ?_
  refine go_aload_n dX0_waysLeft_18 rfl ?_
  refine go_getR (k := 0) (r := 1) dX0_waysLeft_19 sh_266 rfl inX0 (Nat.le_of_ble_eq_true rfl) lf_X0_30 rfl rfl ?_
  refine go_getR (k := 0) (r := 2) dX0_waysLeft_22 sh_1 rfl inX10 (Nat.le_of_ble_eq_true rfl) lf_X0_66 rfl rfl ?_
  refine go_getR (k := 6) (r := 7) dX0_waysLeft_25 sh_2 rfl inX2 (Nat.le_of_ble_eq_true rfl) lf_X0_75 rfl rfl ?_
  refine go_iload_n dX0_waysLeft_28 rfl ?_
  obtain ⟨hi, hF⟩ := hF
  refine go_iald dX0_waysLeft_29 sh_7 hi ?_
  refine go_icmp_ge 101 dX0_waysLeft_30 rfl ⟨fun hc => ?_, fun hc => ?_⟩
  · have hF := hF.1 hc
    refine go_aload_n dX0_waysLeft_101 rfl ?_
    refine go_getR (k := 8) (r := 272) dX0_waysLeft_102 sh_266 rfl inX0 (Nat.le_of_ble_eq_true rfl) lf_X0_27 rfl rfl ?_
    refine go_aload_n dX0_waysLeft_105 rfl ?_
    refine go_getI (k := 2) dX0_waysLeft_106 sh_266 rfl inX0 (Nat.le_of_ble_eq_true rfl) lf_X0_44 rfl ?_
    obtain ⟨hi, hF⟩ := hF
    refine go_iald dX0_waysLeft_109 sh_272 hi ?_
    exact go_iret (S := []) dX0_waysLeft_110 rfl ⟨_, rfl, hF⟩
  · have hF := hF.2 hc
    refine go_aload_n dX0_waysLeft_33 rfl ?_
    refine go_getR (k := 0) (r := 1) dX0_waysLeft_34 sh_266 rfl inX0 (Nat.le_of_ble_eq_true rfl) lf_X0_30 rfl rfl ?_
    refine go_getR (k := 0) (r := 2) dX0_waysLeft_37 sh_1 rfl inX10 (Nat.le_of_ble_eq_true rfl) lf_X0_66 rfl rfl ?_
    refine go_iload_n dX0_waysLeft_40 rfl ?_
    refine go_iload_n dX0_waysLeft_41 rfl ?_
    obtain ⟨ho, hF⟩ := hF
    refine go_callV mX2_strokeOf dX0_waysLeft_42 lm_X0_109 okX2_strokeOf isX2_strokeOf sh_2 rfl (As := [.int l1, .int l2]) (S := []) rfl rfl (Nat.le_of_ble_eq_true rfl) (eX2_strokeOf G _ l1 l2 m (fun r m' => r = strC m l1 l2 ∧ m = m') ho ⟨rfl, rfl⟩) (k_i (fun r m' hr => ?_))
    obtain ⟨hr1, hr2⟩ := hr
    subst hr1
    subst hr2
    refine Gw.namei (fun x3 ex3 => ?_)
    have hF := hF x3 ex3
    refine go_istore_n (L' := [.ref (ga G 266), .int l1, .int l2, .int x3, uu]) dX0_waysLeft_45 (Nat.le_of_ble_eq_true rfl) rfl ?_
    refine go_aload_n dX0_waysLeft_46 rfl ?_
    refine go_getI (k := 2) dX0_waysLeft_47 sh_266 rfl inX0 (Nat.le_of_ble_eq_true rfl) lf_X0_44 rfl ?_
    refine Gw.namei (fun x4 ex4 => ?_)
    have hF := hF x4 ex4
    refine go_istore (L' := [.ref (ga G 266), .int l1, .int l2, .int x3, .int x4]) dX0_waysLeft_50 (Nat.le_of_ble_eq_true rfl) rfl ?_
    exact hF
theorem vX0_waysLeft_52 (G : GP) (d : Nat) (l1 : Int32) (l2 : Int32) (l3 : Int32) (l4 : Int32) (m : Mem) (K : Int32 → Mem → Prop) (hF : ((l4 ≤ 0) → ∀ x5 : Int32, x5 = l2 + 1 → Gw G (d + 2) mX0_waysLeft 17 [.ref (ga G 266), .int l1, .int x5, .int l3, .int l4] [] m (Qi K)) ∧ ((¬ l4 ≤ 0) → vp_in (l4 - 1) 24 ∧ ((¬ (m.1 267 (l4 - 1).toNatClampNeg) = l3) → ∀ x6 : Int32, x6 = l4 + (-1) → Gw G (d + 2) mX0_waysLeft 52 [.ref (ga G 266), .int l1, .int l2, .int l3, .int x6] [] m (Qi K)) ∧ (((m.1 267 (l4 - 1).toNatClampNeg) = l3) → vp_in l4 5 ∧ vp_in (l4 - 1) 5 ∧ vp_in l4 5 ∧ ∀ m7 : Mem, m7 = wI m 272 l4.toNatClampNeg ((m.1 272 l4.toNatClampNeg) + (m.1 272 (l4 - 1).toNatClampNeg)) → ∀ x8 : Int32, x8 = l4 + (-1) → Gw G (d + 2) mX0_waysLeft 52 [.ref (ga G 266), .int l1, .int l2, .int l3, .int x8] [] m7 (Qi K)))) : Gw G (d + 2) mX0_waysLeft 52 [.ref (ga G 266), .int l1, .int l2, .int l3, .int l4] [] m (Qi K) := by
  refine go_iload dX0_waysLeft_52 rfl ?_
  refine go_if_le 95 dX0_waysLeft_54 rfl ⟨fun hc => ?_, fun hc => ?_⟩
  · have hF := hF.1 hc
    obtain ⟨x5, ex5⟩ : ∃ z : Int32, z = l2 + 1 := ⟨_, rfl⟩
    have hF := hF x5 ex5
    refine go_iinc (v := x5) (L' := [.ref (ga G 266), .int l1, .int x5, .int l3, .int l4]) dX0_waysLeft_95 rfl (by rw [ex5]; rfl) (Nat.le_of_ble_eq_true rfl) rfl ?_
    refine go_goto 17 dX0_waysLeft_98 rfl ?_
    exact hF
  · have hF := hF.2 hc
    refine go_aload_n dX0_waysLeft_57 rfl ?_
    refine go_getR (k := 3) (r := 267) dX0_waysLeft_58 sh_266 rfl inX0 (Nat.le_of_ble_eq_true rfl) lf_X0_9 rfl rfl ?_
    refine go_iload dX0_waysLeft_61 rfl ?_
    refine go_iconst (v := 1) dX0_waysLeft_63 (by decide) ?_
    refine go_isub dX0_waysLeft_64 ?_
    obtain ⟨hi, hF⟩ := hF
    refine go_iald dX0_waysLeft_65 sh_267 hi ?_
    refine go_iload_n dX0_waysLeft_66 rfl ?_
    refine go_icmp_ne 89 dX0_waysLeft_67 rfl ⟨fun hc => ?_, fun hc => ?_⟩
    · have hF := hF.1 hc
      obtain ⟨x6, ex6⟩ : ∃ z : Int32, z = l4 + (-1) := ⟨_, rfl⟩
      have hF := hF x6 ex6
      refine go_iinc (v := x6) (L' := [.ref (ga G 266), .int l1, .int l2, .int l3, .int x6]) dX0_waysLeft_89 rfl (by rw [ex6]; rfl) (Nat.le_of_ble_eq_true rfl) rfl ?_
      refine go_goto 52 dX0_waysLeft_92 rfl ?_
      exact hF
    · have hF := hF.2 hc
      refine go_aload_n dX0_waysLeft_70 rfl ?_
      refine go_getR (k := 8) (r := 272) dX0_waysLeft_71 sh_266 rfl inX0 (Nat.le_of_ble_eq_true rfl) lf_X0_27 rfl rfl ?_
      refine go_iload dX0_waysLeft_74 rfl ?_
      refine go_dup2 dX0_waysLeft_76 rfl rfl ?_
      obtain ⟨hi, hF⟩ := hF
      refine go_iald dX0_waysLeft_77 sh_272 hi ?_
      refine go_aload_n dX0_waysLeft_78 rfl ?_
      refine go_getR (k := 8) (r := 272) dX0_waysLeft_79 sh_266 rfl inX0 (Nat.le_of_ble_eq_true rfl) lf_X0_27 rfl rfl ?_
      refine go_iload dX0_waysLeft_82 rfl ?_
      refine go_iconst (v := 1) dX0_waysLeft_84 (by decide) ?_
      refine go_isub dX0_waysLeft_85 ?_
      obtain ⟨hi, hF⟩ := hF
      refine go_iald dX0_waysLeft_86 sh_272 hi ?_
      refine go_iadd dX0_waysLeft_87 ?_
      obtain ⟨hi, hF⟩ := hF
      refine go_iast dX0_waysLeft_88 sh_272 hi ?_
      obtain ⟨m7, em7⟩ : ∃ z : Mem, z = wI m 272 l4.toNatClampNeg ((m.1 272 l4.toNatClampNeg) + (m.1 272 (l4 - 1).toNatClampNeg)) := ⟨_, rfl⟩
      rw [← em7]
      have hF := hF m7 em7
      obtain ⟨x8, ex8⟩ : ∃ z : Int32, z = l4 + (-1) := ⟨_, rfl⟩
      have hF := hF x8 ex8
      refine go_iinc (v := x8) (L' := [.ref (ga G 266), .int l1, .int l2, .int l3, .int x8]) dX0_waysLeft_89 rfl (by rw [ex8]; rfl) (Nat.le_of_ble_eq_true rfl) rfl ?_
      refine go_goto 52 dX0_waysLeft_92 rfl ?_
      exact hF
