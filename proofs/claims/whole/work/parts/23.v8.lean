theorem vX7_append (G : GP) (d : Nat) (a0 : Int32) (m : Mem) (K : Mem → Prop) (hF : Gw G (d) mX7_append 3 [.ref (ga G 228), .int a0, .int 24] [] m (Qv K)) : Evv G (d) mX7_append [.ref (ga G 228), .int a0] m K := by
  refine Ev.go [.ref (ga G 228), .int a0, uu] (by decide) (Nat.le_of_ble_eq_true rfl) rfl ?_
  refine go_bipush (v := 24) dX7_append_0 (by decide) ?_
  refine go_istore_n (L' := [.ref (ga G 228), .int a0, .int 24]) dX7_append_2 (Nat.le_of_ble_eq_true rfl) rfl ?_
  exact hF
theorem vX7_append_3 (G : GP) (d : Nat) (l1 : Int32) (l2 : Int32) (m : Mem) (K : Mem → Prop) (hF : ((l2 < 0) → K m) ∧ ((¬ l2 < 0) → ((300 ≤ (m.1 228 0)) → ∀ x1 : Int32, x1 = l2 + (-8) → Gw G (d) mX7_append 3 [.ref (ga G 228), .int l1, .int x1] [] m (Qv K)) ∧ ((¬ 300 ≤ (m.1 228 0)) → vp_in (m.1 228 0) 300 ∧ ∀ m2 : Mem, m2 = wI m 229 (m.1 228 0).toNatClampNeg (vp_nar .byte ((l1 >>> (l2 &&& 31)).toInt8.toInt32)) → ∀ m3 : Mem, m3 = wI m2 228 0 ((m2.1 228 0) + 1) → ∀ x4 : Int32, x4 = l2 + (-8) → Gw G (d) mX7_append 3 [.ref (ga G 228), .int l1, .int x4] [] m3 (Qv K)))) : Gw G (d) mX7_append 3 [.ref (ga G 228), .int l1, .int l2] [] m (Qv K) := by
  refine go_iload_n dX7_append_3 rfl ?_
  refine go_if_lt 46 dX7_append_4 rfl ⟨fun hc => ?_, fun hc => ?_⟩
  · have hF := hF.1 hc
    exact go_vret (S := []) dX7_append_46 rfl ⟨rfl, hF⟩
  · have hF := hF.2 hc
    refine go_aload_n dX7_append_7 rfl ?_
    refine go_getI (k := 0) dX7_append_8 sh_228 rfl inX7 (Nat.le_of_ble_eq_true rfl) lf_X7_25 rfl ?_
    refine go_sipush (v := 300) dX7_append_11 (by decide) ?_
    refine go_icmp_ge 40 dX7_append_14 rfl ⟨fun hc => ?_, fun hc => ?_⟩
    · have hF := hF.1 hc
      obtain ⟨x1, ex1⟩ : ∃ z : Int32, z = l2 + (-8) := ⟨_, rfl⟩
      have hF := hF x1 ex1
      refine go_iinc (v := x1) (L' := [.ref (ga G 228), .int l1, .int x1]) dX7_append_40 rfl (by rw [ex1]; rfl) (Nat.le_of_ble_eq_true rfl) rfl ?_
      refine go_goto 3 dX7_append_43 rfl ?_
      exact hF
    · have hF := hF.2 hc
      refine go_aload_n dX7_append_17 rfl ?_
      refine go_getR (k := 1) (r := 229) dX7_append_18 sh_228 rfl inX7 (Nat.le_of_ble_eq_true rfl) lf_X7_11 rfl rfl ?_
      refine go_aload_n dX7_append_21 rfl ?_
      refine go_getI (k := 0) dX7_append_22 sh_228 rfl inX7 (Nat.le_of_ble_eq_true rfl) lf_X7_25 rfl ?_
      refine go_iload_n dX7_append_25 rfl ?_
      refine go_iload_n dX7_append_26 rfl ?_
      refine go_ishr dX7_append_27 ?_
      refine go_i2b dX7_append_28 ?_
      obtain ⟨hi, hF⟩ := hF
      refine go_bast dX7_append_29 sh_229 hi ?_
      obtain ⟨m2, em2⟩ : ∃ z : Mem, z = wI m 229 (m.1 228 0).toNatClampNeg (vp_nar .byte ((l1 >>> (l2 &&& 31)).toInt8.toInt32)) := ⟨_, rfl⟩
      rw [← em2]
      have hF := hF m2 em2
      refine go_aload_n dX7_append_30 rfl ?_
      refine go_dup dX7_append_31 rfl ?_
      refine go_getI (k := 0) dX7_append_32 sh_228 rfl inX7 (Nat.le_of_ble_eq_true rfl) lf_X7_25 rfl ?_
      refine go_iconst (v := 1) dX7_append_35 (by decide) ?_
      refine go_iadd dX7_append_36 ?_
      refine go_putI (k := 0) dX7_append_37 sh_228 rfl inX7 (Nat.le_of_ble_eq_true rfl) lf_X7_25 tyX7 tyX7_ok nmX7 rfl rfl (by decide +kernel) ?_
      obtain ⟨m3, em3⟩ : ∃ z : Mem, z = wI m2 228 0 ((m2.1 228 0) + 1) := ⟨_, rfl⟩
      rw [← em3]
      have hF := hF m3 em3
      obtain ⟨x4, ex4⟩ : ∃ z : Int32, z = l2 + (-8) := ⟨_, rfl⟩
      have hF := hF x4 ex4
      refine go_iinc (v := x4) (L' := [.ref (ga G 228), .int l1, .int x4]) dX7_append_40 rfl (by rw [ex4]; rfl) (Nat.le_of_ble_eq_true rfl) rfl ?_
      refine go_goto 3 dX7_append_43 rfl ?_
      exact hF
theorem vX7_scan (G : GP) (d : Nat)  (m : Mem) (K : Mem → Prop) (hF : Gw G (d + 8) mX7_scan 4 [.ref (ga G 228), .int 0, .int 0, uu, uu] [] m (Qv K)) : Evv G (d + 8) mX7_scan [.ref (ga G 228)] m K := by
  refine Ev.go [.ref (ga G 228), uu, uu, uu, uu] (by decide) (Nat.le_of_ble_eq_true rfl) rfl ?_
  refine go_iconst (v := 0) dX7_scan_0 (by decide) ?_
  refine go_istore_n (L' := [.ref (ga G 228), .int 0, uu, uu, uu]) dX7_scan_1 (Nat.le_of_ble_eq_true rfl) rfl ?_
  refine go_iconst (v := 0) dX7_scan_2 (by decide) ?_
  refine go_istore_n (L' := [.ref (ga G 228), .int 0, .int 0, uu, uu]) dX7_scan_3 (Nat.le_of_ble_eq_true rfl) rfl ?_
  exact hF
theorem vX7_scan_4 (G : GP) (d : Nat) (l1 : Int32) (l2 : Int32) (u3 : Value) (u4 : Value) (m : Mem) (K : Mem → Prop) (hF : (((m.1 228 0) ≤ l2) → vp_in l1 301 ∧ ∀ m1 : Mem, m1 = wI m 231 l1.toNatClampNeg (m.1 228 0) → vp_in l1 301 ∧ ∀ m2 : Mem, m2 = wI m1 230 l1.toNatClampNeg 1 → K m2) ∧ ((¬ (m.1 228 0) ≤ l2) → vp_in l2 300 ∧ Evi G (d + 7) mX7_sortOf [.int (m.1 229 l2.toNatClampNeg)] m (fun r4 m3 => ∀ x5 : Int32, x5 = l2 + 1 → Gw G (d + 8) mX7_scan 27 [.ref (ga G 228), .int l1, .int l2, .int r4, .int x5] [] m3 (Qv K)))) : Gw G (d + 8) mX7_scan 4 [.ref (ga G 228), .int l1, .int l2, u3, u4] [] m (Qv K) := by
  refine Gw.weak (L' := [.ref (ga G 228), .int l1, .int l2, uu, uu]) ⟨Or.inl rfl, Or.inl rfl, Or.inl rfl, Or.inr rfl, Or.inr rfl, trivial⟩ ?_
  refine go_iload_n dX7_scan_4 rfl ?_
  refine go_aload_n dX7_scan_5 rfl ?_
  refine go_getI (k := 0) dX7_scan_6 sh_228 rfl inX7 (Nat.le_of_ble_eq_true rfl) lf_X7_25 rfl ?_
  refine go_icmp_ge 140 dX7_scan_9 rfl ⟨fun hc => ?_, fun hc => ?_⟩
  · have hF := hF.1 hc
    refine go_aload_n dX7_scan_140 rfl ?_
    refine go_getR (k := 3) (r := 231) dX7_scan_141 sh_228 rfl inX7 (Nat.le_of_ble_eq_true rfl) lf_X7_19 rfl rfl ?_
    refine go_iload_n dX7_scan_144 rfl ?_
    refine go_aload_n dX7_scan_145 rfl ?_
    refine go_getI (k := 0) dX7_scan_146 sh_228 rfl inX7 (Nat.le_of_ble_eq_true rfl) lf_X7_25 rfl ?_
    obtain ⟨hi, hF⟩ := hF
    refine go_iast dX7_scan_149 sh_231 hi ?_
    obtain ⟨m1, em1⟩ : ∃ z : Mem, z = wI m 231 l1.toNatClampNeg (m.1 228 0) := ⟨_, rfl⟩
    rw [← em1]
    have hF := hF m1 em1
    refine go_aload_n dX7_scan_150 rfl ?_
    refine go_getR (k := 2) (r := 230) dX7_scan_151 sh_228 rfl inX7 (Nat.le_of_ble_eq_true rfl) lf_X7_15 rfl rfl ?_
    refine go_iload_n dX7_scan_154 rfl ?_
    refine go_iconst (v := 1) dX7_scan_155 (by decide) ?_
    obtain ⟨hi, hF⟩ := hF
    refine go_iast dX7_scan_156 sh_230 hi ?_
    obtain ⟨m2, em2⟩ : ∃ z : Mem, z = wI m1 230 l1.toNatClampNeg 1 := ⟨_, rfl⟩
    rw [← em2]
    have hF := hF m2 em2
    exact go_vret (S := []) dX7_scan_157 rfl ⟨rfl, hF⟩
  · have hF := hF.2 hc
    refine go_aload_n dX7_scan_12 rfl ?_
    refine go_getR (k := 1) (r := 229) dX7_scan_13 sh_228 rfl inX7 (Nat.le_of_ble_eq_true rfl) lf_X7_11 rfl rfl ?_
    refine go_iload_n dX7_scan_16 rfl ?_
    obtain ⟨hi, hF⟩ := hF
    refine go_bald dX7_scan_17 sh_229 hi ?_
    refine go_callS mX7_sortOf dX7_scan_18 lm_X7_29 okX7_sortOf isX7_sortOf (As := [.int (m.1 229 l2.toNatClampNeg)]) (S := []) rfl rfl (Nat.le_of_ble_eq_true rfl) hF (k_i (fun r4 m3 hF => ?_))
    refine go_istore_n (L' := [.ref (ga G 228), .int l1, .int l2, .int r4, uu]) dX7_scan_21 (Nat.le_of_ble_eq_true rfl) rfl ?_
    refine go_iload_n dX7_scan_22 rfl ?_
    refine go_iconst (v := 1) dX7_scan_23 (by decide) ?_
    refine go_iadd dX7_scan_24 ?_
    refine Gw.namei (fun x5 ex5 => ?_)
    have hF := hF x5 ex5
    refine go_istore (L' := [.ref (ga G 228), .int l1, .int l2, .int r4, .int x5]) dX7_scan_25 (Nat.le_of_ble_eq_true rfl) rfl ?_
    exact hF
theorem vX7_scan_27 (G : GP) (d : Nat) (l1 : Int32) (l2 : Int32) (l3 : Int32) (l4 : Int32) (m : Mem) (K : Mem → Prop) (hF : (((m.1 228 0) ≤ l4) → ((l3 = 0) → Gw G (d + 8) mX7_scan 4 [.ref (ga G 228), .int l1, .int l4, .int l3, .int l4] [] m (Qv K)) ∧ ((¬ l3 = 0) → vp_in l1 301 ∧ ∀ m6 : Mem, m6 = wI m 231 l1.toNatClampNeg l2 → Evi G (d + 7) mX7_tokenOf [.ref (ga G 228), .int l3, .int l2, .int l4] m6 (fun r8 m7 => vp_in l1 301 ∧ ∀ m9 : Mem, m9 = wI m7 230 l1.toNatClampNeg r8 → ((¬ l3 = 1) → vp_in l1 301 ∧ ∀ m10 : Mem, m10 = wI m9 232 l1.toNatClampNeg 0 → vp_in l1 301 ∧ (((m10.1 230 l1.toNatClampNeg) = 3) → ∀ x11 : Int32, x11 = l4 + 1 → ∀ x12 : Int32, x12 = l1 + 1 → Gw G (d + 8) mX7_scan 4 [.ref (ga G 228), .int x12, .int x11, .int l3, .int x11] [] m10 (Qv K)) ∧ ((¬ (m10.1 230 l1.toNatClampNeg) = 3) → vp_in l1 301 ∧ ((¬ (m10.1 230 l1.toNatClampNeg) = 4) → ∀ x13 : Int32, x13 = l1 + 1 → Gw G (d + 8) mX7_scan 4 [.ref (ga G 228), .int x13, .int l4, .int l3, .int l4] [] m10 (Qv K)) ∧ (((m10.1 230 l1.toNatClampNeg) = 4) → ∀ x14 : Int32, x14 = l4 + 1 → ∀ x15 : Int32, x15 = l1 + 1 → Gw G (d + 8) mX7_scan 4 [.ref (ga G 228), .int x15, .int x14, .int l3, .int x14] [] m10 (Qv K)))) ∧ ((l3 = 1) → Evi G (d + 7) mX7_numberOf [.ref (ga G 228), .int l2, .int l4] m9 (fun r17 m16 => vp_in l1 301 ∧ ∀ m18 : Mem, m18 = wI m16 232 l1.toNatClampNeg r17 → vp_in l1 301 ∧ (((m18.1 230 l1.toNatClampNeg) = 3) → ∀ x19 : Int32, x19 = l4 + 1 → ∀ x20 : Int32, x20 = l1 + 1 → Gw G (d + 8) mX7_scan 4 [.ref (ga G 228), .int x20, .int x19, .int l3, .int x19] [] m18 (Qv K)) ∧ ((¬ (m18.1 230 l1.toNatClampNeg) = 3) → vp_in l1 301 ∧ ((¬ (m18.1 230 l1.toNatClampNeg) = 4) → ∀ x21 : Int32, x21 = l1 + 1 → Gw G (d + 8) mX7_scan 4 [.ref (ga G 228), .int x21, .int l4, .int l3, .int l4] [] m18 (Qv K)) ∧ (((m18.1 230 l1.toNatClampNeg) = 4) → ∀ x22 : Int32, x22 = l4 + 1 → ∀ x23 : Int32, x23 = l1 + 1 → Gw G (d + 8) mX7_scan 4 [.ref (ga G 228), .int x23, .int x22, .int l3, .int x22] [] m18 (Qv K)))))))) ∧ ((¬ (m.1 228 0) ≤ l4) → ((l3 = 3) → ((l3 = 0) → Gw G (d + 8) mX7_scan 4 [.ref (ga G 228), .int l1, .int l4, .int l3, .int l4] [] m (Qv K)) ∧ ((¬ l3 = 0) → vp_in l1 301 ∧ ∀ m24 : Mem, m24 = wI m 231 l1.toNatClampNeg l2 → Evi G (d + 7) mX7_tokenOf [.ref (ga G 228), .int l3, .int l2, .int l4] m24 (fun r26 m25 => vp_in l1 301 ∧ ∀ m27 : Mem, m27 = wI m25 230 l1.toNatClampNeg r26 → ((¬ l3 = 1) → vp_in l1 301 ∧ ∀ m28 : Mem, m28 = wI m27 232 l1.toNatClampNeg 0 → vp_in l1 301 ∧ (((m28.1 230 l1.toNatClampNeg) = 3) → ∀ x29 : Int32, x29 = l4 + 1 → ∀ x30 : Int32, x30 = l1 + 1 → Gw G (d + 8) mX7_scan 4 [.ref (ga G 228), .int x30, .int x29, .int l3, .int x29] [] m28 (Qv K)) ∧ ((¬ (m28.1 230 l1.toNatClampNeg) = 3) → vp_in l1 301 ∧ ((¬ (m28.1 230 l1.toNatClampNeg) = 4) → ∀ x31 : Int32, x31 = l1 + 1 → Gw G (d + 8) mX7_scan 4 [.ref (ga G 228), .int x31, .int l4, .int l3, .int l4] [] m28 (Qv K)) ∧ (((m28.1 230 l1.toNatClampNeg) = 4) → ∀ x32 : Int32, x32 = l4 + 1 → ∀ x33 : Int32, x33 = l1 + 1 → Gw G (d + 8) mX7_scan 4 [.ref (ga G 228), .int x33, .int x32, .int l3, .int x32] [] m28 (Qv K)))) ∧ ((l3 = 1) → Evi G (d + 7) mX7_numberOf [.ref (ga G 228), .int l2, .int l4] m27 (fun r35 m34 => vp_in l1 301 ∧ ∀ m36 : Mem, m36 = wI m34 232 l1.toNatClampNeg r35 → vp_in l1 301 ∧ (((m36.1 230 l1.toNatClampNeg) = 3) → ∀ x37 : Int32, x37 = l4 + 1 → ∀ x38 : Int32, x38 = l1 + 1 → Gw G (d + 8) mX7_scan 4 [.ref (ga G 228), .int x38, .int x37, .int l3, .int x37] [] m36 (Qv K)) ∧ ((¬ (m36.1 230 l1.toNatClampNeg) = 3) → vp_in l1 301 ∧ ((¬ (m36.1 230 l1.toNatClampNeg) = 4) → ∀ x39 : Int32, x39 = l1 + 1 → Gw G (d + 8) mX7_scan 4 [.ref (ga G 228), .int x39, .int l4, .int l3, .int l4] [] m36 (Qv K)) ∧ (((m36.1 230 l1.toNatClampNeg) = 4) → ∀ x40 : Int32, x40 = l4 + 1 → ∀ x41 : Int32, x41 = l1 + 1 → Gw G (d + 8) mX7_scan 4 [.ref (ga G 228), .int x41, .int x40, .int l3, .int x40] [] m36 (Qv K)))))))) ∧ ((¬ l3 = 3) → vp_in l4 300 ∧ Evi G (d + 7) mX7_sortOf [.int (m.1 229 l4.toNatClampNeg)] m (fun r43 m42 => ((¬ r43 = l3) → ((l3 = 0) → Gw G (d + 8) mX7_scan 4 [.ref (ga G 228), .int l1, .int l4, .int l3, .int l4] [] m42 (Qv K)) ∧ ((¬ l3 = 0) → vp_in l1 301 ∧ ∀ m44 : Mem, m44 = wI m42 231 l1.toNatClampNeg l2 → Evi G (d + 7) mX7_tokenOf [.ref (ga G 228), .int l3, .int l2, .int l4] m44 (fun r46 m45 => vp_in l1 301 ∧ ∀ m47 : Mem, m47 = wI m45 230 l1.toNatClampNeg r46 → ((¬ l3 = 1) → vp_in l1 301 ∧ ∀ m48 : Mem, m48 = wI m47 232 l1.toNatClampNeg 0 → vp_in l1 301 ∧ (((m48.1 230 l1.toNatClampNeg) = 3) → ∀ x49 : Int32, x49 = l4 + 1 → ∀ x50 : Int32, x50 = l1 + 1 → Gw G (d + 8) mX7_scan 4 [.ref (ga G 228), .int x50, .int x49, .int l3, .int x49] [] m48 (Qv K)) ∧ ((¬ (m48.1 230 l1.toNatClampNeg) = 3) → vp_in l1 301 ∧ ((¬ (m48.1 230 l1.toNatClampNeg) = 4) → ∀ x51 : Int32, x51 = l1 + 1 → Gw G (d + 8) mX7_scan 4 [.ref (ga G 228), .int x51, .int l4, .int l3, .int l4] [] m48 (Qv K)) ∧ (((m48.1 230 l1.toNatClampNeg) = 4) → ∀ x52 : Int32, x52 = l4 + 1 → ∀ x53 : Int32, x53 = l1 + 1 → Gw G (d + 8) mX7_scan 4 [.ref (ga G 228), .int x53, .int x52, .int l3, .int x52] [] m48 (Qv K)))) ∧ ((l3 = 1) → Evi G (d + 7) mX7_numberOf [.ref (ga G 228), .int l2, .int l4] m47 (fun r55 m54 => vp_in l1 301 ∧ ∀ m56 : Mem, m56 = wI m54 232 l1.toNatClampNeg r55 → vp_in l1 301 ∧ (((m56.1 230 l1.toNatClampNeg) = 3) → ∀ x57 : Int32, x57 = l4 + 1 → ∀ x58 : Int32, x58 = l1 + 1 → Gw G (d + 8) mX7_scan 4 [.ref (ga G 228), .int x58, .int x57, .int l3, .int x57] [] m56 (Qv K)) ∧ ((¬ (m56.1 230 l1.toNatClampNeg) = 3) → vp_in l1 301 ∧ ((¬ (m56.1 230 l1.toNatClampNeg) = 4) → ∀ x59 : Int32, x59 = l1 + 1 → Gw G (d + 8) mX7_scan 4 [.ref (ga G 228), .int x59, .int l4, .int l3, .int l4] [] m56 (Qv K)) ∧ (((m56.1 230 l1.toNatClampNeg) = 4) → ∀ x60 : Int32, x60 = l4 + 1 → ∀ x61 : Int32, x61 = l1 + 1 → Gw G (d + 8) mX7_scan 4 [.ref (ga G 228), .int x61, .int x60, .int l3, .int x60] [] m56 (Qv K)))))))) ∧ ((r43 = l3) → ∀ x62 : Int32, x62 = l4 + 1 → Gw G (d + 8) mX7_scan 27 [.ref (ga G 228), .int l1, .int l2, .int l3, .int x62] [] m42 (Qv K)))))) : Gw G (d + 8) mX7_scan 27 [.ref (ga G 228), .int l1, .int l2, .int l3, .int l4] [] m (Qv K) := by
  refine go_iload dX7_scan_27 rfl ?_
  refine go_aload_n dX7_scan_29 rfl ?_
  refine go_getI (k := 0) dX7_scan_30 sh_228 rfl inX7 (Nat.le_of_ble_eq_true rfl) lf_X7_25 rfl ?_
  refine go_icmp_ge 61 dX7_scan_33 rfl ⟨fun hc => ?_, fun hc => ?_⟩
  · have hF := hF.1 hc
    refine go_iload_n dX7_scan_61 rfl ?_
    refine go_if_eq 134 dX7_scan_62 rfl ⟨fun hc => ?_, fun hc => ?_⟩
    · have hF := hF.1 hc
      refine go_iload dX7_scan_134 rfl ?_
      refine go_istore_n (L' := [.ref (ga G 228), .int l1, .int l4, .int l3, .int l4]) dX7_scan_136 (Nat.le_of_ble_eq_true rfl) rfl ?_
      refine go_goto 4 dX7_scan_137 rfl ?_
      exact hF
    · have hF := hF.2 hc
      refine go_aload_n dX7_scan_65 rfl ?_
      refine go_getR (k := 3) (r := 231) dX7_scan_66 sh_228 rfl inX7 (Nat.le_of_ble_eq_true rfl) lf_X7_19 rfl rfl ?_
      refine go_iload_n dX7_scan_69 rfl ?_
      refine go_iload_n dX7_scan_70 rfl ?_
      obtain ⟨hi, hF⟩ := hF
      refine go_iast dX7_scan_71 sh_231 hi ?_
      obtain ⟨m6, em6⟩ : ∃ z : Mem, z = wI m 231 l1.toNatClampNeg l2 := ⟨_, rfl⟩
      rw [← em6]
      have hF := hF m6 em6
      refine go_aload_n dX7_scan_72 rfl ?_
      refine go_getR (k := 2) (r := 230) dX7_scan_73 sh_228 rfl inX7 (Nat.le_of_ble_eq_true rfl) lf_X7_15 rfl rfl ?_
      refine go_iload_n dX7_scan_76 rfl ?_
      refine go_aload_n dX7_scan_77 rfl ?_
      refine go_iload_n dX7_scan_78 rfl ?_
      refine go_iload_n dX7_scan_79 rfl ?_
      refine go_iload dX7_scan_80 rfl ?_
      refine go_callV mX7_tokenOf dX7_scan_82 lm_X7_33 okX7_tokenOf isX7_tokenOf sh_228 rfl (As := [.int l3, .int l2, .int l4]) (S := [.int l1, .ref (ga G 230)]) rfl rfl (Nat.le_of_ble_eq_true rfl) hF (k_i (fun r8 m7 hF => ?_))
      obtain ⟨hi, hF⟩ := hF
      refine go_iast dX7_scan_85 sh_230 hi ?_
      obtain ⟨m9, em9⟩ : ∃ z : Mem, z = wI m7 230 l1.toNatClampNeg r8 := ⟨_, rfl⟩
      rw [← em9]
      have hF := hF m9 em9
      refine go_aload_n dX7_scan_86 rfl ?_
      refine go_getR (k := 4) (r := 232) dX7_scan_87 sh_228 rfl inX7 (Nat.le_of_ble_eq_true rfl) lf_X7_22 rfl rfl ?_
      refine go_iload_n dX7_scan_90 rfl ?_
      refine go_iload_n dX7_scan_91 rfl ?_
      refine go_iconst (v := 1) dX7_scan_92 (by decide) ?_
      refine go_icmp_ne 106 dX7_scan_93 rfl ⟨fun hc => ?_, fun hc => ?_⟩
      · have hF := hF.1 hc
        refine go_iconst (v := 0) dX7_scan_106 (by decide) ?_
        obtain ⟨hi, hF⟩ := hF
        refine go_iast dX7_scan_107 sh_232 hi ?_
        obtain ⟨m10, em10⟩ : ∃ z : Mem, z = wI m9 232 l1.toNatClampNeg 0 := ⟨_, rfl⟩
        rw [← em10]
        have hF := hF m10 em10
        refine go_aload_n dX7_scan_108 rfl ?_
        refine go_getR (k := 2) (r := 230) dX7_scan_109 sh_228 rfl inX7 (Nat.le_of_ble_eq_true rfl) lf_X7_15 rfl rfl ?_
        refine go_iload_n dX7_scan_112 rfl ?_
        obtain ⟨hi, hF⟩ := hF
        refine go_iald dX7_scan_113 sh_230 hi ?_
        refine go_iconst (v := 3) dX7_scan_114 (by decide) ?_
        refine go_icmp_eq 128 dX7_scan_115 rfl ⟨fun hc => ?_, fun hc => ?_⟩
        · have hF := hF.1 hc
          obtain ⟨x11, ex11⟩ : ∃ z : Int32, z = l4 + 1 := ⟨_, rfl⟩
          have hF := hF x11 ex11
          refine go_iinc (v := x11) (L' := [.ref (ga G 228), .int l1, .int l2, .int l3, .int x11]) dX7_scan_128 rfl (by rw [ex11]; rfl) (Nat.le_of_ble_eq_true rfl) rfl ?_
          obtain ⟨x12, ex12⟩ : ∃ z : Int32, z = l1 + 1 := ⟨_, rfl⟩
          have hF := hF x12 ex12
          refine go_iinc (v := x12) (L' := [.ref (ga G 228), .int x12, .int l2, .int l3, .int x11]) dX7_scan_131 rfl (by rw [ex12]; rfl) (Nat.le_of_ble_eq_true rfl) rfl ?_
          refine go_iload dX7_scan_134 rfl ?_
          refine go_istore_n (L' := [.ref (ga G 228), .int x12, .int x11, .int l3, .int x11]) dX7_scan_136 (Nat.le_of_ble_eq_true rfl) rfl ?_
          refine go_goto 4 dX7_scan_137 rfl ?_
          exact hF
        · have hF := hF.2 hc
          refine go_aload_n dX7_scan_118 rfl ?_
          refine go_getR (k := 2) (r := 230) dX7_scan_119 sh_228 rfl inX7 (Nat.le_of_ble_eq_true rfl) lf_X7_15 rfl rfl ?_
          refine go_iload_n dX7_scan_122 rfl ?_
          obtain ⟨hi, hF⟩ := hF
          refine go_iald dX7_scan_123 sh_230 hi ?_
          refine go_iconst (v := 4) dX7_scan_124 (by decide) ?_
          refine go_icmp_ne 131 dX7_scan_125 rfl ⟨fun hc => ?_, fun hc => ?_⟩
          · have hF := hF.1 hc
            obtain ⟨x13, ex13⟩ : ∃ z : Int32, z = l1 + 1 := ⟨_, rfl⟩
            have hF := hF x13 ex13
            refine go_iinc (v := x13) (L' := [.ref (ga G 228), .int x13, .int l2, .int l3, .int l4]) dX7_scan_131 rfl (by rw [ex13]; rfl) (Nat.le_of_ble_eq_true rfl) rfl ?_
            refine go_iload dX7_scan_134 rfl ?_
            refine go_istore_n (L' := [.ref (ga G 228), .int x13, .int l4, .int l3, .int l4]) dX7_scan_136 (Nat.le_of_ble_eq_true rfl) rfl ?_
            refine go_goto 4 dX7_scan_137 rfl ?_
            exact hF
          · have hF := hF.2 hc
            obtain ⟨x14, ex14⟩ : ∃ z : Int32, z = l4 + 1 := ⟨_, rfl⟩
            have hF := hF x14 ex14
            refine go_iinc (v := x14) (L' := [.ref (ga G 228), .int l1, .int l2, .int l3, .int x14]) dX7_scan_128 rfl (by rw [ex14]; rfl) (Nat.le_of_ble_eq_true rfl) rfl ?_
            obtain ⟨x15, ex15⟩ : ∃ z : Int32, z = l1 + 1 := ⟨_, rfl⟩
            have hF := hF x15 ex15
            refine go_iinc (v := x15) (L' := [.ref (ga G 228), .int x15, .int l2, .int l3, .int x14]) dX7_scan_131 rfl (by rw [ex15]; rfl) (Nat.le_of_ble_eq_true rfl) rfl ?_
            refine go_iload dX7_scan_134 rfl ?_
            refine go_istore_n (L' := [.ref (ga G 228), .int x15, .int x14, .int l3, .int x14]) dX7_scan_136 (Nat.le_of_ble_eq_true rfl) rfl ?_
            refine go_goto 4 dX7_scan_137 rfl ?_
            exact hF
      · have hF := hF.2 hc
        refine go_aload_n dX7_scan_96 rfl ?_
        refine go_iload_n dX7_scan_97 rfl ?_
        refine go_iload dX7_scan_98 rfl ?_
        refine go_callV mX7_numberOf dX7_scan_100 lm_X7_37 okX7_numberOf isX7_numberOf sh_228 rfl (As := [.int l2, .int l4]) (S := [.int l1, .ref (ga G 232)]) rfl rfl (Nat.le_of_ble_eq_true rfl) hF (k_i (fun r17 m16 hF => ?_))
        refine go_goto 107 dX7_scan_103 rfl ?_
        obtain ⟨hi, hF⟩ := hF
        refine go_iast dX7_scan_107 sh_232 hi ?_
        obtain ⟨m18, em18⟩ : ∃ z : Mem, z = wI m16 232 l1.toNatClampNeg r17 := ⟨_, rfl⟩
        rw [← em18]
        have hF := hF m18 em18
        refine go_aload_n dX7_scan_108 rfl ?_
        refine go_getR (k := 2) (r := 230) dX7_scan_109 sh_228 rfl inX7 (Nat.le_of_ble_eq_true rfl) lf_X7_15 rfl rfl ?_
        refine go_iload_n dX7_scan_112 rfl ?_
        obtain ⟨hi, hF⟩ := hF
        refine go_iald dX7_scan_113 sh_230 hi ?_
        refine go_iconst (v := 3) dX7_scan_114 (by decide) ?_
        refine go_icmp_eq 128 dX7_scan_115 rfl ⟨fun hc => ?_, fun hc => ?_⟩
        · have hF := hF.1 hc
          obtain ⟨x19, ex19⟩ : ∃ z : Int32, z = l4 + 1 := ⟨_, rfl⟩
          have hF := hF x19 ex19
          refine go_iinc (v := x19) (L' := [.ref (ga G 228), .int l1, .int l2, .int l3, .int x19]) dX7_scan_128 rfl (by rw [ex19]; rfl) (Nat.le_of_ble_eq_true rfl) rfl ?_
          obtain ⟨x20, ex20⟩ : ∃ z : Int32, z = l1 + 1 := ⟨_, rfl⟩
          have hF := hF x20 ex20
          refine go_iinc (v := x20) (L' := [.ref (ga G 228), .int x20, .int l2, .int l3, .int x19]) dX7_scan_131 rfl (by rw [ex20]; rfl) (Nat.le_of_ble_eq_true rfl) rfl ?_
          refine go_iload dX7_scan_134 rfl ?_
          refine go_istore_n (L' := [.ref (ga G 228), .int x20, .int x19, .int l3, .int x19]) dX7_scan_136 (Nat.le_of_ble_eq_true rfl) rfl ?_
          refine go_goto 4 dX7_scan_137 rfl ?_
          exact hF
        · have hF := hF.2 hc
          refine go_aload_n dX7_scan_118 rfl ?_
          refine go_getR (k := 2) (r := 230) dX7_scan_119 sh_228 rfl inX7 (Nat.le_of_ble_eq_true rfl) lf_X7_15 rfl rfl ?_
          refine go_iload_n dX7_scan_122 rfl ?_
          obtain ⟨hi, hF⟩ := hF
          refine go_iald dX7_scan_123 sh_230 hi ?_
          refine go_iconst (v := 4) dX7_scan_124 (by decide) ?_
          refine go_icmp_ne 131 dX7_scan_125 rfl ⟨fun hc => ?_, fun hc => ?_⟩
          · have hF := hF.1 hc
            obtain ⟨x21, ex21⟩ : ∃ z : Int32, z = l1 + 1 := ⟨_, rfl⟩
            have hF := hF x21 ex21
            refine go_iinc (v := x21) (L' := [.ref (ga G 228), .int x21, .int l2, .int l3, .int l4]) dX7_scan_131 rfl (by rw [ex21]; rfl) (Nat.le_of_ble_eq_true rfl) rfl ?_
            refine go_iload dX7_scan_134 rfl ?_
            refine go_istore_n (L' := [.ref (ga G 228), .int x21, .int l4, .int l3, .int l4]) dX7_scan_136 (Nat.le_of_ble_eq_true rfl) rfl ?_
            refine go_goto 4 dX7_scan_137 rfl ?_
            exact hF
          · have hF := hF.2 hc
            obtain ⟨x22, ex22⟩ : ∃ z : Int32, z = l4 + 1 := ⟨_, rfl⟩
            have hF := hF x22 ex22
            refine go_iinc (v := x22) (L' := [.ref (ga G 228), .int l1, .int l2, .int l3, .int x22]) dX7_scan_128 rfl (by rw [ex22]; rfl) (Nat.le_of_ble_eq_true rfl) rfl ?_
            obtain ⟨x23, ex23⟩ : ∃ z : Int32, z = l1 + 1 := ⟨_, rfl⟩
            have hF := hF x23 ex23
            refine go_iinc (v := x23) (L' := [.ref (ga G 228), .int x23, .int l2, .int l3, .int x22]) dX7_scan_131 rfl (by rw [ex23]; rfl) (Nat.le_of_ble_eq_true rfl) rfl ?_
            refine go_iload dX7_scan_134 rfl ?_
            refine go_istore_n (L' := [.ref (ga G 228), .int x23, .int x22, .int l3, .int x22]) dX7_scan_136 (Nat.le_of_ble_eq_true rfl) rfl ?_
            refine go_goto 4 dX7_scan_137 rfl ?_
            exact hF
  · have hF := hF.2 hc
    refine go_iload_n dX7_scan_36 rfl ?_
    refine go_iconst (v := 3) dX7_scan_37 (by decide) ?_
    refine go_icmp_eq 61 dX7_scan_38 rfl ⟨fun hc => ?_, fun hc => ?_⟩
    · have hF := hF.1 hc
      refine go_iload_n dX7_scan_61 rfl ?_
      refine go_if_eq 134 dX7_scan_62 rfl ⟨fun hc => ?_, fun hc => ?_⟩
      · have hF := hF.1 hc
        refine go_iload dX7_scan_134 rfl ?_
        refine go_istore_n (L' := [.ref (ga G 228), .int l1, .int l4, .int l3, .int l4]) dX7_scan_136 (Nat.le_of_ble_eq_true rfl) rfl ?_
        refine go_goto 4 dX7_scan_137 rfl ?_
        exact hF
      · have hF := hF.2 hc
        refine go_aload_n dX7_scan_65 rfl ?_
        refine go_getR (k := 3) (r := 231) dX7_scan_66 sh_228 rfl inX7 (Nat.le_of_ble_eq_true rfl) lf_X7_19 rfl rfl ?_
        refine go_iload_n dX7_scan_69 rfl ?_
        refine go_iload_n dX7_scan_70 rfl ?_
        obtain ⟨hi, hF⟩ := hF
        refine go_iast dX7_scan_71 sh_231 hi ?_
        obtain ⟨m24, em24⟩ : ∃ z : Mem, z = wI m 231 l1.toNatClampNeg l2 := ⟨_, rfl⟩
        rw [← em24]
        have hF := hF m24 em24
        refine go_aload_n dX7_scan_72 rfl ?_
        refine go_getR (k := 2) (r := 230) dX7_scan_73 sh_228 rfl inX7 (Nat.le_of_ble_eq_true rfl) lf_X7_15 rfl rfl ?_
        refine go_iload_n dX7_scan_76 rfl ?_
        refine go_aload_n dX7_scan_77 rfl ?_
        refine go_iload_n dX7_scan_78 rfl ?_
        refine go_iload_n dX7_scan_79 rfl ?_
        refine go_iload dX7_scan_80 rfl ?_
        refine go_callV mX7_tokenOf dX7_scan_82 lm_X7_33 okX7_tokenOf isX7_tokenOf sh_228 rfl (As := [.int l3, .int l2, .int l4]) (S := [.int l1, .ref (ga G 230)]) rfl rfl (Nat.le_of_ble_eq_true rfl) hF (k_i (fun r26 m25 hF => ?_))
        obtain ⟨hi, hF⟩ := hF
        refine go_iast dX7_scan_85 sh_230 hi ?_
        obtain ⟨m27, em27⟩ : ∃ z : Mem, z = wI m25 230 l1.toNatClampNeg r26 := ⟨_, rfl⟩
        rw [← em27]
        have hF := hF m27 em27
        refine go_aload_n dX7_scan_86 rfl ?_
        refine go_getR (k := 4) (r := 232) dX7_scan_87 sh_228 rfl inX7 (Nat.le_of_ble_eq_true rfl) lf_X7_22 rfl rfl ?_
        refine go_iload_n dX7_scan_90 rfl ?_
        refine go_iload_n dX7_scan_91 rfl ?_
        refine go_iconst (v := 1) dX7_scan_92 (by decide) ?_
        refine go_icmp_ne 106 dX7_scan_93 rfl ⟨fun hc => ?_, fun hc => ?_⟩
        · have hF := hF.1 hc
          refine go_iconst (v := 0) dX7_scan_106 (by decide) ?_
          obtain ⟨hi, hF⟩ := hF
          refine go_iast dX7_scan_107 sh_232 hi ?_
          obtain ⟨m28, em28⟩ : ∃ z : Mem, z = wI m27 232 l1.toNatClampNeg 0 := ⟨_, rfl⟩
          rw [← em28]
          have hF := hF m28 em28
          refine go_aload_n dX7_scan_108 rfl ?_
          refine go_getR (k := 2) (r := 230) dX7_scan_109 sh_228 rfl inX7 (Nat.le_of_ble_eq_true rfl) lf_X7_15 rfl rfl ?_
          refine go_iload_n dX7_scan_112 rfl ?_
          obtain ⟨hi, hF⟩ := hF
          refine go_iald dX7_scan_113 sh_230 hi ?_
          refine go_iconst (v := 3) dX7_scan_114 (by decide) ?_
          refine go_icmp_eq 128 dX7_scan_115 rfl ⟨fun hc => ?_, fun hc => ?_⟩
          · have hF := hF.1 hc
            obtain ⟨x29, ex29⟩ : ∃ z : Int32, z = l4 + 1 := ⟨_, rfl⟩
            have hF := hF x29 ex29
            refine go_iinc (v := x29) (L' := [.ref (ga G 228), .int l1, .int l2, .int l3, .int x29]) dX7_scan_128 rfl (by rw [ex29]; rfl) (Nat.le_of_ble_eq_true rfl) rfl ?_
            obtain ⟨x30, ex30⟩ : ∃ z : Int32, z = l1 + 1 := ⟨_, rfl⟩
            have hF := hF x30 ex30
            refine go_iinc (v := x30) (L' := [.ref (ga G 228), .int x30, .int l2, .int l3, .int x29]) dX7_scan_131 rfl (by rw [ex30]; rfl) (Nat.le_of_ble_eq_true rfl) rfl ?_
            refine go_iload dX7_scan_134 rfl ?_
            refine go_istore_n (L' := [.ref (ga G 228), .int x30, .int x29, .int l3, .int x29]) dX7_scan_136 (Nat.le_of_ble_eq_true rfl) rfl ?_
            refine go_goto 4 dX7_scan_137 rfl ?_
            exact hF
          · have hF := hF.2 hc
            refine go_aload_n dX7_scan_118 rfl ?_
            refine go_getR (k := 2) (r := 230) dX7_scan_119 sh_228 rfl inX7 (Nat.le_of_ble_eq_true rfl) lf_X7_15 rfl rfl ?_
            refine go_iload_n dX7_scan_122 rfl ?_
            obtain ⟨hi, hF⟩ := hF
            refine go_iald dX7_scan_123 sh_230 hi ?_
            refine go_iconst (v := 4) dX7_scan_124 (by decide) ?_
            refine go_icmp_ne 131 dX7_scan_125 rfl ⟨fun hc => ?_, fun hc => ?_⟩
            · have hF := hF.1 hc
              obtain ⟨x31, ex31⟩ : ∃ z : Int32, z = l1 + 1 := ⟨_, rfl⟩
              have hF := hF x31 ex31
              refine go_iinc (v := x31) (L' := [.ref (ga G 228), .int x31, .int l2, .int l3, .int l4]) dX7_scan_131 rfl (by rw [ex31]; rfl) (Nat.le_of_ble_eq_true rfl) rfl ?_
              refine go_iload dX7_scan_134 rfl ?_
              refine go_istore_n (L' := [.ref (ga G 228), .int x31, .int l4, .int l3, .int l4]) dX7_scan_136 (Nat.le_of_ble_eq_true rfl) rfl ?_
              refine go_goto 4 dX7_scan_137 rfl ?_
              exact hF
            · have hF := hF.2 hc
              obtain ⟨x32, ex32⟩ : ∃ z : Int32, z = l4 + 1 := ⟨_, rfl⟩
              have hF := hF x32 ex32
              refine go_iinc (v := x32) (L' := [.ref (ga G 228), .int l1, .int l2, .int l3, .int x32]) dX7_scan_128 rfl (by rw [ex32]; rfl) (Nat.le_of_ble_eq_true rfl) rfl ?_
              obtain ⟨x33, ex33⟩ : ∃ z : Int32, z = l1 + 1 := ⟨_, rfl⟩
              have hF := hF x33 ex33
              refine go_iinc (v := x33) (L' := [.ref (ga G 228), .int x33, .int l2, .int l3, .int x32]) dX7_scan_131 rfl (by rw [ex33]; rfl) (Nat.le_of_ble_eq_true rfl) rfl ?_
              refine go_iload dX7_scan_134 rfl ?_
              refine go_istore_n (L' := [.ref (ga G 228), .int x33, .int x32, .int l3, .int x32]) dX7_scan_136 (Nat.le_of_ble_eq_true rfl) rfl ?_
              refine go_goto 4 dX7_scan_137 rfl ?_
              exact hF
        · have hF := hF.2 hc
          refine go_aload_n dX7_scan_96 rfl ?_
          refine go_iload_n dX7_scan_97 rfl ?_
          refine go_iload dX7_scan_98 rfl ?_
          refine go_callV mX7_numberOf dX7_scan_100 lm_X7_37 okX7_numberOf isX7_numberOf sh_228 rfl (As := [.int l2, .int l4]) (S := [.int l1, .ref (ga G 232)]) rfl rfl (Nat.le_of_ble_eq_true rfl) hF (k_i (fun r35 m34 hF => ?_))
          refine go_goto 107 dX7_scan_103 rfl ?_
          obtain ⟨hi, hF⟩ := hF
          refine go_iast dX7_scan_107 sh_232 hi ?_
          obtain ⟨m36, em36⟩ : ∃ z : Mem, z = wI m34 232 l1.toNatClampNeg r35 := ⟨_, rfl⟩
          rw [← em36]
          have hF := hF m36 em36
          refine go_aload_n dX7_scan_108 rfl ?_
          refine go_getR (k := 2) (r := 230) dX7_scan_109 sh_228 rfl inX7 (Nat.le_of_ble_eq_true rfl) lf_X7_15 rfl rfl ?_
          refine go_iload_n dX7_scan_112 rfl ?_
          obtain ⟨hi, hF⟩ := hF
          refine go_iald dX7_scan_113 sh_230 hi ?_
          refine go_iconst (v := 3) dX7_scan_114 (by decide) ?_
          refine go_icmp_eq 128 dX7_scan_115 rfl ⟨fun hc => ?_, fun hc => ?_⟩
          · have hF := hF.1 hc
            obtain ⟨x37, ex37⟩ : ∃ z : Int32, z = l4 + 1 := ⟨_, rfl⟩
            have hF := hF x37 ex37
            refine go_iinc (v := x37) (L' := [.ref (ga G 228), .int l1, .int l2, .int l3, .int x37]) dX7_scan_128 rfl (by rw [ex37]; rfl) (Nat.le_of_ble_eq_true rfl) rfl ?_
            obtain ⟨x38, ex38⟩ : ∃ z : Int32, z = l1 + 1 := ⟨_, rfl⟩
            have hF := hF x38 ex38
            refine go_iinc (v := x38) (L' := [.ref (ga G 228), .int x38, .int l2, .int l3, .int x37]) dX7_scan_131 rfl (by rw [ex38]; rfl) (Nat.le_of_ble_eq_true rfl) rfl ?_
            refine go_iload dX7_scan_134 rfl ?_
            refine go_istore_n (L' := [.ref (ga G 228), .int x38, .int x37, .int l3, .int x37]) dX7_scan_136 (Nat.le_of_ble_eq_true rfl) rfl ?_
            refine go_goto 4 dX7_scan_137 rfl ?_
            exact hF
          · have hF := hF.2 hc
            refine go_aload_n dX7_scan_118 rfl ?_
            refine go_getR (k := 2) (r := 230) dX7_scan_119 sh_228 rfl inX7 (Nat.le_of_ble_eq_true rfl) lf_X7_15 rfl rfl ?_
            refine go_iload_n dX7_scan_122 rfl ?_
            obtain ⟨hi, hF⟩ := hF
            refine go_iald dX7_scan_123 sh_230 hi ?_
            refine go_iconst (v := 4) dX7_scan_124 (by decide) ?_
            refine go_icmp_ne 131 dX7_scan_125 rfl ⟨fun hc => ?_, fun hc => ?_⟩
            · have hF := hF.1 hc
              obtain ⟨x39, ex39⟩ : ∃ z : Int32, z = l1 + 1 := ⟨_, rfl⟩
              have hF := hF x39 ex39
              refine go_iinc (v := x39) (L' := [.ref (ga G 228), .int x39, .int l2, .int l3, .int l4]) dX7_scan_131 rfl (by rw [ex39]; rfl) (Nat.le_of_ble_eq_true rfl) rfl ?_
              refine go_iload dX7_scan_134 rfl ?_
              refine go_istore_n (L' := [.ref (ga G 228), .int x39, .int l4, .int l3, .int l4]) dX7_scan_136 (Nat.le_of_ble_eq_true rfl) rfl ?_
              refine go_goto 4 dX7_scan_137 rfl ?_
              exact hF
            · have hF := hF.2 hc
              obtain ⟨x40, ex40⟩ : ∃ z : Int32, z = l4 + 1 := ⟨_, rfl⟩
              have hF := hF x40 ex40
              refine go_iinc (v := x40) (L' := [.ref (ga G 228), .int l1, .int l2, .int l3, .int x40]) dX7_scan_128 rfl (by rw [ex40]; rfl) (Nat.le_of_ble_eq_true rfl) rfl ?_
              obtain ⟨x41, ex41⟩ : ∃ z : Int32, z = l1 + 1 := ⟨_, rfl⟩
              have hF := hF x41 ex41
              refine go_iinc (v := x41) (L' := [.ref (ga G 228), .int x41, .int l2, .int l3, .int x40]) dX7_scan_131 rfl (by rw [ex41]; rfl) (Nat.le_of_ble_eq_true rfl) rfl ?_
              refine go_iload dX7_scan_134 rfl ?_
              refine go_istore_n (L' := [.ref (ga G 228), .int x41, .int x40, .int l3, .int x40]) dX7_scan_136 (Nat.le_of_ble_eq_true rfl) rfl ?_
              refine go_goto 4 dX7_scan_137 rfl ?_
              exact hF
    · have hF := hF.2 hc
      refine go_aload_n dX7_scan_41 rfl ?_
      refine go_getR (k := 1) (r := 229) dX7_scan_42 sh_228 rfl inX7 (Nat.le_of_ble_eq_true rfl) lf_X7_11 rfl rfl ?_
      refine go_iload dX7_scan_45 rfl ?_
      obtain ⟨hi, hF⟩ := hF
      refine go_bald dX7_scan_47 sh_229 hi ?_
      refine go_callS mX7_sortOf dX7_scan_48 lm_X7_29 okX7_sortOf isX7_sortOf (As := [.int (m.1 229 l4.toNatClampNeg)]) (S := []) rfl rfl (Nat.le_of_ble_eq_true rfl) hF (k_i (fun r43 m42 hF => ?_))
      refine go_iload_n dX7_scan_51 rfl ?_
      refine go_icmp_ne 61 dX7_scan_52 rfl ⟨fun hc => ?_, fun hc => ?_⟩
      · have hF := hF.1 hc
        refine go_iload_n dX7_scan_61 rfl ?_
        refine go_if_eq 134 dX7_scan_62 rfl ⟨fun hc => ?_, fun hc => ?_⟩
        · have hF := hF.1 hc
          refine go_iload dX7_scan_134 rfl ?_
          refine go_istore_n (L' := [.ref (ga G 228), .int l1, .int l4, .int l3, .int l4]) dX7_scan_136 (Nat.le_of_ble_eq_true rfl) rfl ?_
          refine go_goto 4 dX7_scan_137 rfl ?_
          exact hF
        · have hF := hF.2 hc
          refine go_aload_n dX7_scan_65 rfl ?_
          refine go_getR (k := 3) (r := 231) dX7_scan_66 sh_228 rfl inX7 (Nat.le_of_ble_eq_true rfl) lf_X7_19 rfl rfl ?_
          refine go_iload_n dX7_scan_69 rfl ?_
          refine go_iload_n dX7_scan_70 rfl ?_
          obtain ⟨hi, hF⟩ := hF
          refine go_iast dX7_scan_71 sh_231 hi ?_
          obtain ⟨m44, em44⟩ : ∃ z : Mem, z = wI m42 231 l1.toNatClampNeg l2 := ⟨_, rfl⟩
          rw [← em44]
          have hF := hF m44 em44
          refine go_aload_n dX7_scan_72 rfl ?_
          refine go_getR (k := 2) (r := 230) dX7_scan_73 sh_228 rfl inX7 (Nat.le_of_ble_eq_true rfl) lf_X7_15 rfl rfl ?_
          refine go_iload_n dX7_scan_76 rfl ?_
          refine go_aload_n dX7_scan_77 rfl ?_
          refine go_iload_n dX7_scan_78 rfl ?_
          refine go_iload_n dX7_scan_79 rfl ?_
          refine go_iload dX7_scan_80 rfl ?_
          refine go_callV mX7_tokenOf dX7_scan_82 lm_X7_33 okX7_tokenOf isX7_tokenOf sh_228 rfl (As := [.int l3, .int l2, .int l4]) (S := [.int l1, .ref (ga G 230)]) rfl rfl (Nat.le_of_ble_eq_true rfl) hF (k_i (fun r46 m45 hF => ?_))
          obtain ⟨hi, hF⟩ := hF
          refine go_iast dX7_scan_85 sh_230 hi ?_
          obtain ⟨m47, em47⟩ : ∃ z : Mem, z = wI m45 230 l1.toNatClampNeg r46 := ⟨_, rfl⟩
          rw [← em47]
          have hF := hF m47 em47
          refine go_aload_n dX7_scan_86 rfl ?_
          refine go_getR (k := 4) (r := 232) dX7_scan_87 sh_228 rfl inX7 (Nat.le_of_ble_eq_true rfl) lf_X7_22 rfl rfl ?_
          refine go_iload_n dX7_scan_90 rfl ?_
          refine go_iload_n dX7_scan_91 rfl ?_
          refine go_iconst (v := 1) dX7_scan_92 (by decide) ?_
          refine go_icmp_ne 106 dX7_scan_93 rfl ⟨fun hc => ?_, fun hc => ?_⟩
          · have hF := hF.1 hc
            refine go_iconst (v := 0) dX7_scan_106 (by decide) ?_
            obtain ⟨hi, hF⟩ := hF
            refine go_iast dX7_scan_107 sh_232 hi ?_
            obtain ⟨m48, em48⟩ : ∃ z : Mem, z = wI m47 232 l1.toNatClampNeg 0 := ⟨_, rfl⟩
            rw [← em48]
            have hF := hF m48 em48
            refine go_aload_n dX7_scan_108 rfl ?_
            refine go_getR (k := 2) (r := 230) dX7_scan_109 sh_228 rfl inX7 (Nat.le_of_ble_eq_true rfl) lf_X7_15 rfl rfl ?_
            refine go_iload_n dX7_scan_112 rfl ?_
            obtain ⟨hi, hF⟩ := hF
            refine go_iald dX7_scan_113 sh_230 hi ?_
            refine go_iconst (v := 3) dX7_scan_114 (by decide) ?_
            refine go_icmp_eq 128 dX7_scan_115 rfl ⟨fun hc => ?_, fun hc => ?_⟩
            · have hF := hF.1 hc
              obtain ⟨x49, ex49⟩ : ∃ z : Int32, z = l4 + 1 := ⟨_, rfl⟩
              have hF := hF x49 ex49
              refine go_iinc (v := x49) (L' := [.ref (ga G 228), .int l1, .int l2, .int l3, .int x49]) dX7_scan_128 rfl (by rw [ex49]; rfl) (Nat.le_of_ble_eq_true rfl) rfl ?_
              obtain ⟨x50, ex50⟩ : ∃ z : Int32, z = l1 + 1 := ⟨_, rfl⟩
              have hF := hF x50 ex50
              refine go_iinc (v := x50) (L' := [.ref (ga G 228), .int x50, .int l2, .int l3, .int x49]) dX7_scan_131 rfl (by rw [ex50]; rfl) (Nat.le_of_ble_eq_true rfl) rfl ?_
              refine go_iload dX7_scan_134 rfl ?_
              refine go_istore_n (L' := [.ref (ga G 228), .int x50, .int x49, .int l3, .int x49]) dX7_scan_136 (Nat.le_of_ble_eq_true rfl) rfl ?_
              refine go_goto 4 dX7_scan_137 rfl ?_
              exact hF
            · have hF := hF.2 hc
              refine go_aload_n dX7_scan_118 rfl ?_
              refine go_getR (k := 2) (r := 230) dX7_scan_119 sh_228 rfl inX7 (Nat.le_of_ble_eq_true rfl) lf_X7_15 rfl rfl ?_
              refine go_iload_n dX7_scan_122 rfl ?_
              obtain ⟨hi, hF⟩ := hF
              refine go_iald dX7_scan_123 sh_230 hi ?_
              refine go_iconst (v := 4) dX7_scan_124 (by decide) ?_
              refine go_icmp_ne 131 dX7_scan_125 rfl ⟨fun hc => ?_, fun hc => ?_⟩
              · have hF := hF.1 hc
                obtain ⟨x51, ex51⟩ : ∃ z : Int32, z = l1 + 1 := ⟨_, rfl⟩
                have hF := hF x51 ex51
                refine go_iinc (v := x51) (L' := [.ref (ga G 228), .int x51, .int l2, .int l3, .int l4]) dX7_scan_131 rfl (by rw [ex51]; rfl) (Nat.le_of_ble_eq_true rfl) rfl ?_
                refine go_iload dX7_scan_134 rfl ?_
                refine go_istore_n (L' := [.ref (ga G 228), .int x51, .int l4, .int l3, .int l4]) dX7_scan_136 (Nat.le_of_ble_eq_true rfl) rfl ?_
                refine go_goto 4 dX7_scan_137 rfl ?_
                exact hF
              · have hF := hF.2 hc
                obtain ⟨x52, ex52⟩ : ∃ z : Int32, z = l4 + 1 := ⟨_, rfl⟩
                have hF := hF x52 ex52
                refine go_iinc (v := x52) (L' := [.ref (ga G 228), .int l1, .int l2, .int l3, .int x52]) dX7_scan_128 rfl (by rw [ex52]; rfl) (Nat.le_of_ble_eq_true rfl) rfl ?_
                obtain ⟨x53, ex53⟩ : ∃ z : Int32, z = l1 + 1 := ⟨_, rfl⟩
                have hF := hF x53 ex53
                refine go_iinc (v := x53) (L' := [.ref (ga G 228), .int x53, .int l2, .int l3, .int x52]) dX7_scan_131 rfl (by rw [ex53]; rfl) (Nat.le_of_ble_eq_true rfl) rfl ?_
                refine go_iload dX7_scan_134 rfl ?_
                refine go_istore_n (L' := [.ref (ga G 228), .int x53, .int x52, .int l3, .int x52]) dX7_scan_136 (Nat.le_of_ble_eq_true rfl) rfl ?_
                refine go_goto 4 dX7_scan_137 rfl ?_
                exact hF
          · have hF := hF.2 hc
            refine go_aload_n dX7_scan_96 rfl ?_
            refine go_iload_n dX7_scan_97 rfl ?_
            refine go_iload dX7_scan_98 rfl ?_
            refine go_callV mX7_numberOf dX7_scan_100 lm_X7_37 okX7_numberOf isX7_numberOf sh_228 rfl (As := [.int l2, .int l4]) (S := [.int l1, .ref (ga G 232)]) rfl rfl (Nat.le_of_ble_eq_true rfl) hF (k_i (fun r55 m54 hF => ?_))
            refine go_goto 107 dX7_scan_103 rfl ?_
            obtain ⟨hi, hF⟩ := hF
            refine go_iast dX7_scan_107 sh_232 hi ?_
            obtain ⟨m56, em56⟩ : ∃ z : Mem, z = wI m54 232 l1.toNatClampNeg r55 := ⟨_, rfl⟩
            rw [← em56]
            have hF := hF m56 em56
            refine go_aload_n dX7_scan_108 rfl ?_
            refine go_getR (k := 2) (r := 230) dX7_scan_109 sh_228 rfl inX7 (Nat.le_of_ble_eq_true rfl) lf_X7_15 rfl rfl ?_
            refine go_iload_n dX7_scan_112 rfl ?_
            obtain ⟨hi, hF⟩ := hF
            refine go_iald dX7_scan_113 sh_230 hi ?_
            refine go_iconst (v := 3) dX7_scan_114 (by decide) ?_
            refine go_icmp_eq 128 dX7_scan_115 rfl ⟨fun hc => ?_, fun hc => ?_⟩
            · have hF := hF.1 hc
              obtain ⟨x57, ex57⟩ : ∃ z : Int32, z = l4 + 1 := ⟨_, rfl⟩
              have hF := hF x57 ex57
              refine go_iinc (v := x57) (L' := [.ref (ga G 228), .int l1, .int l2, .int l3, .int x57]) dX7_scan_128 rfl (by rw [ex57]; rfl) (Nat.le_of_ble_eq_true rfl) rfl ?_
              obtain ⟨x58, ex58⟩ : ∃ z : Int32, z = l1 + 1 := ⟨_, rfl⟩
              have hF := hF x58 ex58
              refine go_iinc (v := x58) (L' := [.ref (ga G 228), .int x58, .int l2, .int l3, .int x57]) dX7_scan_131 rfl (by rw [ex58]; rfl) (Nat.le_of_ble_eq_true rfl) rfl ?_
              refine go_iload dX7_scan_134 rfl ?_
              refine go_istore_n (L' := [.ref (ga G 228), .int x58, .int x57, .int l3, .int x57]) dX7_scan_136 (Nat.le_of_ble_eq_true rfl) rfl ?_
              refine go_goto 4 dX7_scan_137 rfl ?_
              exact hF
            · have hF := hF.2 hc
              refine go_aload_n dX7_scan_118 rfl ?_
              refine go_getR (k := 2) (r := 230) dX7_scan_119 sh_228 rfl inX7 (Nat.le_of_ble_eq_true rfl) lf_X7_15 rfl rfl ?_
              refine go_iload_n dX7_scan_122 rfl ?_
              obtain ⟨hi, hF⟩ := hF
              refine go_iald dX7_scan_123 sh_230 hi ?_
              refine go_iconst (v := 4) dX7_scan_124 (by decide) ?_
              refine go_icmp_ne 131 dX7_scan_125 rfl ⟨fun hc => ?_, fun hc => ?_⟩
              · have hF := hF.1 hc
                obtain ⟨x59, ex59⟩ : ∃ z : Int32, z = l1 + 1 := ⟨_, rfl⟩
                have hF := hF x59 ex59
                refine go_iinc (v := x59) (L' := [.ref (ga G 228), .int x59, .int l2, .int l3, .int l4]) dX7_scan_131 rfl (by rw [ex59]; rfl) (Nat.le_of_ble_eq_true rfl) rfl ?_
                refine go_iload dX7_scan_134 rfl ?_
                refine go_istore_n (L' := [.ref (ga G 228), .int x59, .int l4, .int l3, .int l4]) dX7_scan_136 (Nat.le_of_ble_eq_true rfl) rfl ?_
                refine go_goto 4 dX7_scan_137 rfl ?_
                exact hF
              · have hF := hF.2 hc
                obtain ⟨x60, ex60⟩ : ∃ z : Int32, z = l4 + 1 := ⟨_, rfl⟩
                have hF := hF x60 ex60
                refine go_iinc (v := x60) (L' := [.ref (ga G 228), .int l1, .int l2, .int l3, .int x60]) dX7_scan_128 rfl (by rw [ex60]; rfl) (Nat.le_of_ble_eq_true rfl) rfl ?_
                obtain ⟨x61, ex61⟩ : ∃ z : Int32, z = l1 + 1 := ⟨_, rfl⟩
                have hF := hF x61 ex61
                refine go_iinc (v := x61) (L' := [.ref (ga G 228), .int x61, .int l2, .int l3, .int x60]) dX7_scan_131 rfl (by rw [ex61]; rfl) (Nat.le_of_ble_eq_true rfl) rfl ?_
                refine go_iload dX7_scan_134 rfl ?_
                refine go_istore_n (L' := [.ref (ga G 228), .int x61, .int x60, .int l3, .int x60]) dX7_scan_136 (Nat.le_of_ble_eq_true rfl) rfl ?_
                refine go_goto 4 dX7_scan_137 rfl ?_
                exact hF
      · have hF := hF.2 hc
        obtain ⟨x62, ex62⟩ : ∃ z : Int32, z = l4 + 1 := ⟨_, rfl⟩
        have hF := hF x62 ex62
        refine go_iinc (v := x62) (L' := [.ref (ga G 228), .int l1, .int l2, .int l3, .int x62]) dX7_scan_55 rfl (by rw [ex62]; rfl) (Nat.le_of_ble_eq_true rfl) rfl ?_
        refine go_goto 27 dX7_scan_58 rfl ?_
        exact hF
theorem vX7_sortOf (G : GP) (d : Nat) (a0 : Int32) (m : Mem) (K : Int32 → Mem → Prop) (hF : ((a0 = 32) → K 0 m) ∧ ((¬ a0 = 32) → ((¬ a0 = 10) → ((a0 < 48) → ((a0 < 97) → ((a0 < 65) → K 3 m) ∧ ((¬ a0 < 65) → ((90 < a0) → K 3 m) ∧ ((¬ 90 < a0) → K 2 m))) ∧ ((¬ a0 < 97) → ((a0 ≤ 122) → K 2 m) ∧ ((¬ a0 ≤ 122) → ((a0 < 65) → K 3 m) ∧ ((¬ a0 < 65) → ((90 < a0) → K 3 m) ∧ ((¬ 90 < a0) → K 2 m))))) ∧ ((¬ a0 < 48) → ((57 < a0) → ((a0 < 97) → ((a0 < 65) → K 3 m) ∧ ((¬ a0 < 65) → ((90 < a0) → K 3 m) ∧ ((¬ 90 < a0) → K 2 m))) ∧ ((¬ a0 < 97) → ((a0 ≤ 122) → K 2 m) ∧ ((¬ a0 ≤ 122) → ((a0 < 65) → K 3 m) ∧ ((¬ a0 < 65) → ((90 < a0) → K 3 m) ∧ ((¬ 90 < a0) → K 2 m))))) ∧ ((¬ 57 < a0) → K 1 m))) ∧ ((a0 = 10) → K 0 m))) : Evi G (d) mX7_sortOf [.int a0] m K := by
  refine Ev.go [.int a0, uu] (by decide) (Nat.le_of_ble_eq_true rfl) rfl ?_
  refine go_iload_n dX7_sortOf_0 rfl ?_
  refine go_bipush (v := 32) dX7_sortOf_1 (by decide) ?_
  refine go_icmp_eq 12 dX7_sortOf_3 rfl ⟨fun hc => ?_, fun hc => ?_⟩
  · have hF := hF.1 hc
    refine go_iconst (v := 0) dX7_sortOf_12 (by decide) ?_
    exact go_iret (S := []) dX7_sortOf_13 rfl ⟨_, rfl, hF⟩
  · have hF := hF.2 hc
    refine go_iload_n dX7_sortOf_6 rfl ?_
    refine go_bipush (v := 10) dX7_sortOf_7 (by decide) ?_
    refine go_icmp_ne 14 dX7_sortOf_9 rfl ⟨fun hc => ?_, fun hc => ?_⟩
    · have hF := hF.1 hc
      refine go_iload_n dX7_sortOf_14 rfl ?_
      refine go_bipush (v := 48) dX7_sortOf_15 (by decide) ?_
      refine go_icmp_lt 28 dX7_sortOf_17 rfl ⟨fun hc => ?_, fun hc => ?_⟩
      · have hF := hF.1 hc
        refine go_iload_n dX7_sortOf_28 rfl ?_
        refine go_bipush (v := 97) dX7_sortOf_29 (by decide) ?_
        refine go_icmp_lt 40 dX7_sortOf_31 rfl ⟨fun hc => ?_, fun hc => ?_⟩
        · have hF := hF.1 hc
          refine go_iload_n dX7_sortOf_40 rfl ?_
          refine go_bipush (v := 65) dX7_sortOf_41 (by decide) ?_
          refine go_icmp_lt 56 dX7_sortOf_43 rfl ⟨fun hc => ?_, fun hc => ?_⟩
          · have hF := hF.1 hc
            refine go_iconst (v := 0) dX7_sortOf_56 (by decide) ?_
            refine go_istore_n (L' := [.int a0, .int 0]) dX7_sortOf_57 (Nat.le_of_ble_eq_true rfl) rfl ?_
            refine go_iload_n dX7_sortOf_58 rfl ?_
            refine go_if_eq 66 dX7_sortOf_59 rfl ⟨fun _ => ?_, fun hc => absurd hc (by decide)⟩
            refine go_iconst (v := 3) dX7_sortOf_66 (by decide) ?_
            exact go_iret (S := []) dX7_sortOf_67 rfl ⟨_, rfl, hF⟩
          · have hF := hF.2 hc
            refine go_iload_n dX7_sortOf_46 rfl ?_
            refine go_bipush (v := 90) dX7_sortOf_47 (by decide) ?_
            refine go_icmp_gt 56 dX7_sortOf_49 rfl ⟨fun hc => ?_, fun hc => ?_⟩
            · have hF := hF.1 hc
              refine go_iconst (v := 0) dX7_sortOf_56 (by decide) ?_
              refine go_istore_n (L' := [.int a0, .int 0]) dX7_sortOf_57 (Nat.le_of_ble_eq_true rfl) rfl ?_
              refine go_iload_n dX7_sortOf_58 rfl ?_
              refine go_if_eq 66 dX7_sortOf_59 rfl ⟨fun _ => ?_, fun hc => absurd hc (by decide)⟩
              refine go_iconst (v := 3) dX7_sortOf_66 (by decide) ?_
              exact go_iret (S := []) dX7_sortOf_67 rfl ⟨_, rfl, hF⟩
            · have hF := hF.2 hc
              refine go_iconst (v := 1) dX7_sortOf_52 (by decide) ?_
              refine go_goto 57 dX7_sortOf_53 rfl ?_
              refine go_istore_n (L' := [.int a0, .int 1]) dX7_sortOf_57 (Nat.le_of_ble_eq_true rfl) rfl ?_
              refine go_iload_n dX7_sortOf_58 rfl ?_
              refine go_if_eq 66 dX7_sortOf_59 rfl ⟨fun hc => absurd hc (by decide), fun _ => ?_⟩
              refine go_iconst (v := 2) dX7_sortOf_62 (by decide) ?_
              refine go_goto 67 dX7_sortOf_63 rfl ?_
              exact go_iret (S := []) dX7_sortOf_67 rfl ⟨_, rfl, hF⟩
        · have hF := hF.2 hc
          refine go_iload_n dX7_sortOf_34 rfl ?_
          refine go_bipush (v := 122) dX7_sortOf_35 (by decide) ?_
          refine go_icmp_le 52 dX7_sortOf_37 rfl ⟨fun hc => ?_, fun hc => ?_⟩
          · have hF := hF.1 hc
            refine go_iconst (v := 1) dX7_sortOf_52 (by decide) ?_
            refine go_goto 57 dX7_sortOf_53 rfl ?_
            refine go_istore_n (L' := [.int a0, .int 1]) dX7_sortOf_57 (Nat.le_of_ble_eq_true rfl) rfl ?_
            refine go_iload_n dX7_sortOf_58 rfl ?_
            refine go_if_eq 66 dX7_sortOf_59 rfl ⟨fun hc => absurd hc (by decide), fun _ => ?_⟩
            refine go_iconst (v := 2) dX7_sortOf_62 (by decide) ?_
            refine go_goto 67 dX7_sortOf_63 rfl ?_
            exact go_iret (S := []) dX7_sortOf_67 rfl ⟨_, rfl, hF⟩
          · have hF := hF.2 hc
            refine go_iload_n dX7_sortOf_40 rfl ?_
            refine go_bipush (v := 65) dX7_sortOf_41 (by decide) ?_
            refine go_icmp_lt 56 dX7_sortOf_43 rfl ⟨fun hc => ?_, fun hc => ?_⟩
            · have hF := hF.1 hc
              refine go_iconst (v := 0) dX7_sortOf_56 (by decide) ?_
              refine go_istore_n (L' := [.int a0, .int 0]) dX7_sortOf_57 (Nat.le_of_ble_eq_true rfl) rfl ?_
              refine go_iload_n dX7_sortOf_58 rfl ?_
              refine go_if_eq 66 dX7_sortOf_59 rfl ⟨fun _ => ?_, fun hc => absurd hc (by decide)⟩
              refine go_iconst (v := 3) dX7_sortOf_66 (by decide) ?_
              exact go_iret (S := []) dX7_sortOf_67 rfl ⟨_, rfl, hF⟩
            · have hF := hF.2 hc
              refine go_iload_n dX7_sortOf_46 rfl ?_
              refine go_bipush (v := 90) dX7_sortOf_47 (by decide) ?_
              refine go_icmp_gt 56 dX7_sortOf_49 rfl ⟨fun hc => ?_, fun hc => ?_⟩
              · have hF := hF.1 hc
                refine go_iconst (v := 0) dX7_sortOf_56 (by decide) ?_
                refine go_istore_n (L' := [.int a0, .int 0]) dX7_sortOf_57 (Nat.le_of_ble_eq_true rfl) rfl ?_
                refine go_iload_n dX7_sortOf_58 rfl ?_
                refine go_if_eq 66 dX7_sortOf_59 rfl ⟨fun _ => ?_, fun hc => absurd hc (by decide)⟩
                refine go_iconst (v := 3) dX7_sortOf_66 (by decide) ?_
                exact go_iret (S := []) dX7_sortOf_67 rfl ⟨_, rfl, hF⟩
              · have hF := hF.2 hc
                refine go_iconst (v := 1) dX7_sortOf_52 (by decide) ?_
                refine go_goto 57 dX7_sortOf_53 rfl ?_
                refine go_istore_n (L' := [.int a0, .int 1]) dX7_sortOf_57 (Nat.le_of_ble_eq_true rfl) rfl ?_
                refine go_iload_n dX7_sortOf_58 rfl ?_
                refine go_if_eq 66 dX7_sortOf_59 rfl ⟨fun hc => absurd hc (by decide), fun _ => ?_⟩
                refine go_iconst (v := 2) dX7_sortOf_62 (by decide) ?_
                refine go_goto 67 dX7_sortOf_63 rfl ?_
                exact go_iret (S := []) dX7_sortOf_67 rfl ⟨_, rfl, hF⟩
      · have hF := hF.2 hc
        refine go_iload_n dX7_sortOf_20 rfl ?_
        refine go_bipush (v := 57) dX7_sortOf_21 (by decide) ?_
        refine go_icmp_gt 28 dX7_sortOf_23 rfl ⟨fun hc => ?_, fun hc => ?_⟩
        · have hF := hF.1 hc
          refine go_iload_n dX7_sortOf_28 rfl ?_
          refine go_bipush (v := 97) dX7_sortOf_29 (by decide) ?_
          refine go_icmp_lt 40 dX7_sortOf_31 rfl ⟨fun hc => ?_, fun hc => ?_⟩
          · have hF := hF.1 hc
            refine go_iload_n dX7_sortOf_40 rfl ?_
            refine go_bipush (v := 65) dX7_sortOf_41 (by decide) ?_
            refine go_icmp_lt 56 dX7_sortOf_43 rfl ⟨fun hc => ?_, fun hc => ?_⟩
            · have hF := hF.1 hc
              refine go_iconst (v := 0) dX7_sortOf_56 (by decide) ?_
              refine go_istore_n (L' := [.int a0, .int 0]) dX7_sortOf_57 (Nat.le_of_ble_eq_true rfl) rfl ?_
              refine go_iload_n dX7_sortOf_58 rfl ?_
              refine go_if_eq 66 dX7_sortOf_59 rfl ⟨fun _ => ?_, fun hc => absurd hc (by decide)⟩
              refine go_iconst (v := 3) dX7_sortOf_66 (by decide) ?_
              exact go_iret (S := []) dX7_sortOf_67 rfl ⟨_, rfl, hF⟩
            · have hF := hF.2 hc
              refine go_iload_n dX7_sortOf_46 rfl ?_
              refine go_bipush (v := 90) dX7_sortOf_47 (by decide) ?_
              refine go_icmp_gt 56 dX7_sortOf_49 rfl ⟨fun hc => ?_, fun hc => ?_⟩
              · have hF := hF.1 hc
                refine go_iconst (v := 0) dX7_sortOf_56 (by decide) ?_
                refine go_istore_n (L' := [.int a0, .int 0]) dX7_sortOf_57 (Nat.le_of_ble_eq_true rfl) rfl ?_
                refine go_iload_n dX7_sortOf_58 rfl ?_
                refine go_if_eq 66 dX7_sortOf_59 rfl ⟨fun _ => ?_, fun hc => absurd hc (by decide)⟩
                refine go_iconst (v := 3) dX7_sortOf_66 (by decide) ?_
                exact go_iret (S := []) dX7_sortOf_67 rfl ⟨_, rfl, hF⟩
              · have hF := hF.2 hc
                refine go_iconst (v := 1) dX7_sortOf_52 (by decide) ?_
                refine go_goto 57 dX7_sortOf_53 rfl ?_
                refine go_istore_n (L' := [.int a0, .int 1]) dX7_sortOf_57 (Nat.le_of_ble_eq_true rfl) rfl ?_
                refine go_iload_n dX7_sortOf_58 rfl ?_
                refine go_if_eq 66 dX7_sortOf_59 rfl ⟨fun hc => absurd hc (by decide), fun _ => ?_⟩
                refine go_iconst (v := 2) dX7_sortOf_62 (by decide) ?_
                refine go_goto 67 dX7_sortOf_63 rfl ?_
                exact go_iret (S := []) dX7_sortOf_67 rfl ⟨_, rfl, hF⟩
          · have hF := hF.2 hc
            refine go_iload_n dX7_sortOf_34 rfl ?_
            refine go_bipush (v := 122) dX7_sortOf_35 (by decide) ?_
            refine go_icmp_le 52 dX7_sortOf_37 rfl ⟨fun hc => ?_, fun hc => ?_⟩
            · have hF := hF.1 hc
              refine go_iconst (v := 1) dX7_sortOf_52 (by decide) ?_
              refine go_goto 57 dX7_sortOf_53 rfl ?_
              refine go_istore_n (L' := [.int a0, .int 1]) dX7_sortOf_57 (Nat.le_of_ble_eq_true rfl) rfl ?_
              refine go_iload_n dX7_sortOf_58 rfl ?_
              refine go_if_eq 66 dX7_sortOf_59 rfl ⟨fun hc => absurd hc (by decide), fun _ => ?_⟩
              refine go_iconst (v := 2) dX7_sortOf_62 (by decide) ?_
              refine go_goto 67 dX7_sortOf_63 rfl ?_
              exact go_iret (S := []) dX7_sortOf_67 rfl ⟨_, rfl, hF⟩
            · have hF := hF.2 hc
              refine go_iload_n dX7_sortOf_40 rfl ?_
              refine go_bipush (v := 65) dX7_sortOf_41 (by decide) ?_
              refine go_icmp_lt 56 dX7_sortOf_43 rfl ⟨fun hc => ?_, fun hc => ?_⟩
              · have hF := hF.1 hc
                refine go_iconst (v := 0) dX7_sortOf_56 (by decide) ?_
                refine go_istore_n (L' := [.int a0, .int 0]) dX7_sortOf_57 (Nat.le_of_ble_eq_true rfl) rfl ?_
                refine go_iload_n dX7_sortOf_58 rfl ?_
                refine go_if_eq 66 dX7_sortOf_59 rfl ⟨fun _ => ?_, fun hc => absurd hc (by decide)⟩
                refine go_iconst (v := 3) dX7_sortOf_66 (by decide) ?_
                exact go_iret (S := []) dX7_sortOf_67 rfl ⟨_, rfl, hF⟩
              · have hF := hF.2 hc
                refine go_iload_n dX7_sortOf_46 rfl ?_
                refine go_bipush (v := 90) dX7_sortOf_47 (by decide) ?_
                refine go_icmp_gt 56 dX7_sortOf_49 rfl ⟨fun hc => ?_, fun hc => ?_⟩
                · have hF := hF.1 hc
                  refine go_iconst (v := 0) dX7_sortOf_56 (by decide) ?_
                  refine go_istore_n (L' := [.int a0, .int 0]) dX7_sortOf_57 (Nat.le_of_ble_eq_true rfl) rfl ?_
                  refine go_iload_n dX7_sortOf_58 rfl ?_
                  refine go_if_eq 66 dX7_sortOf_59 rfl ⟨fun _ => ?_, fun hc => absurd hc (by decide)⟩
                  refine go_iconst (v := 3) dX7_sortOf_66 (by decide) ?_
                  exact go_iret (S := []) dX7_sortOf_67 rfl ⟨_, rfl, hF⟩
                · have hF := hF.2 hc
                  refine go_iconst (v := 1) dX7_sortOf_52 (by decide) ?_
                  refine go_goto 57 dX7_sortOf_53 rfl ?_
                  refine go_istore_n (L' := [.int a0, .int 1]) dX7_sortOf_57 (Nat.le_of_ble_eq_true rfl) rfl ?_
                  refine go_iload_n dX7_sortOf_58 rfl ?_
                  refine go_if_eq 66 dX7_sortOf_59 rfl ⟨fun hc => absurd hc (by decide), fun _ => ?_⟩
                  refine go_iconst (v := 2) dX7_sortOf_62 (by decide) ?_
                  refine go_goto 67 dX7_sortOf_63 rfl ?_
                  exact go_iret (S := []) dX7_sortOf_67 rfl ⟨_, rfl, hF⟩
        · have hF := hF.2 hc
          refine go_iconst (v := 1) dX7_sortOf_26 (by decide) ?_
          exact go_iret (S := []) dX7_sortOf_27 rfl ⟨_, rfl, hF⟩
    · have hF := hF.2 hc
      refine go_iconst (v := 0) dX7_sortOf_12 (by decide) ?_
      exact go_iret (S := []) dX7_sortOf_13 rfl ⟨_, rfl, hF⟩
theorem vX7_tokenOf (G : GP) (d : Nat) (a0 : Int32) (a1 : Int32) (a2 : Int32) (m : Mem) (K : Int32 → Mem → Prop) (hF : ((¬ a0 = 1) → ((¬ a0 = 2) → Evi G (d + 6) mX7_symbolOf [.ref (ga G 228), .int a1] m (fun r2 m1 => K r2 m1)) ∧ ((a0 = 2) → Evi G (d + 6) mX7_keywordOf [.ref (ga G 228), .int a1, .int (a2 - a1)] m (fun r4 m3 => K r4 m3))) ∧ ((a0 = 1) → K 2 m)) : Evi G (d + 7) mX7_tokenOf [.ref (ga G 228), .int a0, .int a1, .int a2] m K := by
  refine Ev.go [.ref (ga G 228), .int a0, .int a1, .int a2] (by decide) (Nat.le_of_ble_eq_true rfl) rfl ?_
  refine go_iload_n dX7_tokenOf_0 rfl ?_
  refine go_iconst (v := 1) dX7_tokenOf_1 (by decide) ?_
  refine go_icmp_ne 7 dX7_tokenOf_2 rfl ⟨fun hc => ?_, fun hc => ?_⟩
  · have hF := hF.1 hc
    refine go_iload_n dX7_tokenOf_7 rfl ?_
    refine go_iconst (v := 2) dX7_tokenOf_8 (by decide) ?_
    refine go_icmp_ne 23 dX7_tokenOf_9 rfl ⟨fun hc => ?_, fun hc => ?_⟩
    · have hF := hF.1 hc
      refine go_aload_n dX7_tokenOf_23 rfl ?_
      refine go_iload_n dX7_tokenOf_24 rfl ?_
      refine go_callV mX7_symbolOf dX7_tokenOf_25 lm_X7_44 okX7_symbolOf isX7_symbolOf sh_228 rfl (As := [.int a1]) (S := []) rfl rfl (Nat.le_of_ble_eq_true rfl) hF (k_i (fun r2 m1 hF => ?_))
      exact go_iret (S := []) dX7_tokenOf_28 rfl ⟨_, rfl, hF⟩
    · have hF := hF.2 hc
      refine go_aload_n dX7_tokenOf_12 rfl ?_
      refine go_iload_n dX7_tokenOf_13 rfl ?_
      refine go_iload_n dX7_tokenOf_14 rfl ?_
      refine go_iload_n dX7_tokenOf_15 rfl ?_
      refine go_isub dX7_tokenOf_16 ?_
      refine go_callV mX7_keywordOf dX7_tokenOf_17 lm_X7_41 okX7_keywordOf isX7_keywordOf sh_228 rfl (As := [.int a1, .int (a2 - a1)]) (S := []) rfl rfl (Nat.le_of_ble_eq_true rfl) hF (k_i (fun r4 m3 hF => ?_))
      refine go_goto 28 dX7_tokenOf_20 rfl ?_
      exact go_iret (S := []) dX7_tokenOf_28 rfl ⟨_, rfl, hF⟩
  · have hF := hF.2 hc
    refine go_iconst (v := 2) dX7_tokenOf_5 (by decide) ?_
    exact go_iret (S := []) dX7_tokenOf_6 rfl ⟨_, rfl, hF⟩
theorem vX7_numberOf (G : GP) (d : Nat) (a0 : Int32) (a1 : Int32) (m : Mem) (K : Int32 → Mem → Prop) (hF : Gw G (d + 1) mX7_numberOf 5 [.ref (ga G 228), .int a0, .int a1, .int 0, .int a0] [] m (Qi K)) : Evi G (d + 1) mX7_numberOf [.ref (ga G 228), .int a0, .int a1] m K := by
  refine Ev.go [.ref (ga G 228), .int a0, .int a1, uu, uu] (by decide) (Nat.le_of_ble_eq_true rfl) rfl ?_
  refine go_iconst (v := 0) dX7_numberOf_0 (by decide) ?_
  refine go_istore_n (L' := [.ref (ga G 228), .int a0, .int a1, .int 0, uu]) dX7_numberOf_1 (Nat.le_of_ble_eq_true rfl) rfl ?_
  refine go_iload_n dX7_numberOf_2 rfl ?_
  refine go_istore (L' := [.ref (ga G 228), .int a0, .int a1, .int 0, .int a0]) dX7_numberOf_3 (Nat.le_of_ble_eq_true rfl) rfl ?_
  exact hF
theorem vX7_numberOf_5 (G : GP) (d : Nat) (u1 : Value) (l2 : Int32) (l3 : Int32) (l4 : Int32) (m : Mem) (K : Int32 → Mem → Prop) (hF : ((l2 ≤ l4) → K l3 m) ∧ ((¬ l2 ≤ l4) → vp_in l4 300 ∧ ∀ x1 : Int32, x1 = imin 10000 (((l3 * 10) + (m.1 229 l4.toNatClampNeg)) - 48) → ∀ x2 : Int32, x2 = l4 + 1 → Gw G (d + 1) mX7_numberOf 5 [.ref (ga G 228), uu, .int l2, .int x1, .int x2] [] m (Qi K))) : Gw G (d + 1) mX7_numberOf 5 [.ref (ga G 228), u1, .int l2, .int l3, .int l4] [] m (Qi K) := by
  refine Gw.weak (L' := [.ref (ga G 228), uu, .int l2, .int l3, .int l4]) ⟨Or.inl rfl, Or.inr rfl, Or.inl rfl, Or.inl rfl, Or.inl rfl, trivial⟩ ?_
  refine go_iload dX7_numberOf_5 rfl ?_
  refine go_iload_n dX7_numberOf_7 rfl ?_
  refine go_icmp_ge 39 dX7_numberOf_8 rfl ⟨fun hc => ?_, fun hc => ?_⟩
  · have hF := hF.1 hc
    refine go_iload_n dX7_numberOf_39 rfl ?_
    exact go_iret (S := []) dX7_numberOf_40 rfl ⟨_, rfl, hF⟩
  · have hF := hF.2 hc
    refine go_sipush (v := 10000) dX7_numberOf_11 (by decide) ?_
    refine go_iload_n dX7_numberOf_14 rfl ?_
    refine go_bipush (v := 10) dX7_numberOf_15 (by decide) ?_
    refine go_imul dX7_numberOf_17 ?_
    refine go_aload_n dX7_numberOf_18 rfl ?_
    refine go_getR (k := 1) (r := 229) dX7_numberOf_19 sh_228 rfl inX7 (Nat.le_of_ble_eq_true rfl) lf_X7_11 rfl rfl ?_
    refine go_iload dX7_numberOf_22 rfl ?_
    obtain ⟨hi, hF⟩ := hF
    refine go_bald dX7_numberOf_24 sh_229 hi ?_
    refine go_iadd dX7_numberOf_25 ?_
    refine go_bipush (v := 48) dX7_numberOf_26 (by decide) ?_
    refine go_isub dX7_numberOf_28 ?_
    refine go_mmin dX7_numberOf_29 lm_X7_48 (Nat.le_of_ble_eq_true rfl) ?_
    refine Gw.namei (fun x1 ex1 => ?_)
    have hF := hF x1 ex1
    refine go_istore_n (L' := [.ref (ga G 228), uu, .int l2, .int x1, .int l4]) dX7_numberOf_32 (Nat.le_of_ble_eq_true rfl) rfl ?_
    obtain ⟨x2, ex2⟩ : ∃ z : Int32, z = l4 + 1 := ⟨_, rfl⟩
    have hF := hF x2 ex2
    refine go_iinc (v := x2) (L' := [.ref (ga G 228), uu, .int l2, .int x1, .int x2]) dX7_numberOf_33 rfl (by rw [ex2]; rfl) (Nat.le_of_ble_eq_true rfl) rfl ?_
    refine go_goto 5 dX7_numberOf_36 rfl ?_
    exact hF
theorem vX8_clear (G : GP) (d : Nat) (c0 : Nat) (hc0 : TxAt c0) (m : Mem) (K : Mem → Prop) (hF : ∀ m1 : Mem, m1 = wI m c0 0 0 → ∀ m2 : Mem, m2 = wI m1 c0 4 0 → ∀ m3 : Mem, m3 = wI m2 c0 5 0 → Evv G (d) mJ7_fill_53178 [.ref (ga G (c0 + 4)), .int 0] m3 (fun m4 => Evv G (d) mJ7_fill_53178 [.ref (ga G (c0 + 5)), .int 0] m4 (fun m5 => K m5))) : Evv G (d + 1) mX8_clear [.ref (ga G c0)] m K := by
  refine Ev.go [.ref (ga G c0)] (by decide) (Nat.le_of_ble_eq_true rfl) rfl ?_
  refine go_aload_n dX8_clear_0 rfl ?_
  refine go_iconst (v := 0) dX8_clear_1 (by decide) ?_
  refine go_putI (k := 0) dX8_clear_2 hc0.1 rfl inX8 (Nat.le_of_ble_eq_true rfl) lf_X8_27 tyX8 tyX8_ok nmX8 rfl rfl (by decide +kernel) ?_
  obtain ⟨m1, em1⟩ : ∃ z : Mem, z = wI m c0 0 0 := ⟨_, rfl⟩
  rw [← em1]
  have hF := hF m1 em1
  refine go_aload_n dX8_clear_5 rfl ?_
  refine go_iconst (v := 0) dX8_clear_6 (by decide) ?_
  refine go_putZ (k := 4) dX8_clear_7 hc0.1 rfl inX8 (Nat.le_of_ble_eq_true rfl) lf_X8_31 tyX8 tyX8_ok nmX8 rfl rfl (by decide +kernel) (by decide) ?_
  obtain ⟨m2, em2⟩ : ∃ z : Mem, z = wI m1 c0 4 0 := ⟨_, rfl⟩
  rw [← em2]
  have hF := hF m2 em2
  refine go_aload_n dX8_clear_10 rfl ?_
  refine go_iconst (v := 0) dX8_clear_11 (by decide) ?_
  refine go_putI (k := 5) dX8_clear_12 hc0.1 rfl inX8 (Nat.le_of_ble_eq_true rfl) lf_X8_35 tyX8 tyX8_ok nmX8 rfl rfl (by decide +kernel) ?_
  obtain ⟨m3, em3⟩ : ∃ z : Mem, z = wI m2 c0 5 0 := ⟨_, rfl⟩
  rw [← em3]
  have hF := hF m3 em3
  refine go_aload_n dX8_clear_15 rfl ?_
  refine go_getR (k := 7) (r := (c0 + 4)) dX8_clear_16 hc0.1 rfl inX8 (Nat.le_of_ble_eq_true rfl) lf_X8_21 rfl rfl ?_
  refine go_iconst (v := 0) dX8_clear_19 (by decide) ?_
  refine go_callS mJ7_fill_53178 dX8_clear_20 lm_X8_38 okJ7_fill_53178 isJ7_fill_53178 (As := [.ref (ga G (c0 + 4)), .int 0]) (S := []) rfl rfl (Nat.le_of_ble_eq_true rfl) hF (k_v (fun m4 hF => ?_))
  refine go_aload_n dX8_clear_23 rfl ?_
  refine go_getR (k := 8) (r := (c0 + 5)) dX8_clear_24 hc0.1 rfl inX8 (Nat.le_of_ble_eq_true rfl) lf_X8_24 rfl rfl ?_
  refine go_iconst (v := 0) dX8_clear_27 (by decide) ?_
  refine go_callS mJ7_fill_53178 dX8_clear_28 lm_X8_38 okJ7_fill_53178 isJ7_fill_53178 (As := [.ref (ga G (c0 + 5)), .int 0]) (S := []) rfl rfl (Nat.le_of_ble_eq_true rfl) hF (k_v (fun m5 hF => ?_))
  exact go_vret (S := []) dX8_clear_31 rfl ⟨rfl, hF⟩
theorem vX8_startClause (G : GP) (d : Nat) (c0 : Nat) (hc0 : TxAt c0) (a0 : Int32) (m : Mem) (K : Mem → Prop) (hF : (((m.1 c0 0) < 24) → vp_in (m.1 c0 0) 24 ∧ ∀ m1 : Mem, m1 = wI m (c0 + 1) (m.1 c0 0).toNatClampNeg a0 → ∀ m2 : Mem, m2 = wI m1 c0 1 ((m1.1 c0 0) * 6) → ∀ m3 : Mem, m3 = wI m2 c0 0 ((m2.1 c0 0) + 1) → ∀ x4 : Int32, x4 = m3.1 c0 1 → Gw G (d) mX8_startClause 46 [.ref (ga G c0), .int a0, .int x4] [] m3 (Qv K)) ∧ ((¬ (m.1 c0 0) < 24) → K m)) : Evv G (d) mX8_startClause [.ref (ga G c0), .int a0] m K := by
  refine Ev.go [.ref (ga G c0), .int a0, uu] (by decide) (Nat.le_of_ble_eq_true rfl) rfl ?_
  refine go_aload_n dX8_startClause_0 rfl ?_
  refine go_getI (k := 0) dX8_startClause_1 hc0.1 rfl inX8 (Nat.le_of_ble_eq_true rfl) lf_X8_27 rfl ?_
  refine go_bipush (v := 24) dX8_startClause_4 (by decide) ?_
  refine go_icmp_lt 10 dX8_startClause_6 rfl ⟨fun hc => ?_, fun hc => ?_⟩
  · have hF := hF.1 hc
    refine go_aload_n dX8_startClause_10 rfl ?_
    refine go_getR (k := 2) (r := (c0 + 1)) dX8_startClause_11 hc0.1 rfl inX8 (Nat.le_of_ble_eq_true rfl) lf_X8_9 rfl rfl ?_
    refine go_aload_n dX8_startClause_14 rfl ?_
    refine go_getI (k := 0) dX8_startClause_15 hc0.1 rfl inX8 (Nat.le_of_ble_eq_true rfl) lf_X8_27 rfl ?_
    refine go_iload_n dX8_startClause_18 rfl ?_
    obtain ⟨hi, hF⟩ := hF
    refine go_iast dX8_startClause_19 hc0.2.1 hi ?_
    obtain ⟨m1, em1⟩ : ∃ z : Mem, z = wI m (c0 + 1) (m.1 c0 0).toNatClampNeg a0 := ⟨_, rfl⟩
    rw [← em1]
    have hF := hF m1 em1
    refine go_aload_n dX8_startClause_20 rfl ?_
    refine go_aload_n dX8_startClause_21 rfl ?_
    refine go_getI (k := 0) dX8_startClause_22 hc0.1 rfl inX8 (Nat.le_of_ble_eq_true rfl) lf_X8_27 rfl ?_
    refine go_bipush (v := 6) dX8_startClause_25 (by decide) ?_
    refine go_imul dX8_startClause_27 ?_
    refine go_putI (k := 1) dX8_startClause_28 hc0.1 rfl inX8 (Nat.le_of_ble_eq_true rfl) lf_X8_44 tyX8 tyX8_ok nmX8 rfl rfl (by decide +kernel) ?_
    obtain ⟨m2, em2⟩ : ∃ z : Mem, z = wI m1 c0 1 ((m1.1 c0 0) * 6) := ⟨_, rfl⟩
    rw [← em2]
    have hF := hF m2 em2
    refine go_aload_n dX8_startClause_31 rfl ?_
    refine go_dup dX8_startClause_32 rfl ?_
    refine go_getI (k := 0) dX8_startClause_33 hc0.1 rfl inX8 (Nat.le_of_ble_eq_true rfl) lf_X8_27 rfl ?_
    refine go_iconst (v := 1) dX8_startClause_36 (by decide) ?_
    refine go_iadd dX8_startClause_37 ?_
    refine go_putI (k := 0) dX8_startClause_38 hc0.1 rfl inX8 (Nat.le_of_ble_eq_true rfl) lf_X8_27 tyX8 tyX8_ok nmX8 rfl rfl (by decide +kernel) ?_
    obtain ⟨m3, em3⟩ : ∃ z : Mem, z = wI m2 c0 0 ((m2.1 c0 0) + 1) := ⟨_, rfl⟩
    rw [← em3]
    have hF := hF m3 em3
    refine go_aload_n dX8_startClause_41 rfl ?_
    refine go_getI (k := 1) dX8_startClause_42 hc0.1 rfl inX8 (Nat.le_of_ble_eq_true rfl) lf_X8_44 rfl ?_
    refine Gw.namei (fun x4 ex4 => ?_)
    have hF := hF x4 ex4
    refine go_istore_n (L' := [.ref (ga G c0), .int a0, .int x4]) dX8_startClause_45 (Nat.le_of_ble_eq_true rfl) rfl ?_
    exact hF
  · have hF := hF.2 hc
    exact go_vret (S := []) dX8_startClause_9 rfl ⟨rfl, hF⟩
theorem vX8_startClause_46 (G : GP) (d : Nat) (c0 : Nat) (hc0 : TxAt c0) (u1 : Value) (l2 : Int32) (m : Mem) (K : Mem → Prop) (hF : ((((m.1 c0 0) * 6) ≤ l2) → K m) ∧ ((¬ ((m.1 c0 0) * 6) ≤ l2) → vp_in l2 144 ∧ ∀ m5 : Mem, m5 = wI m (c0 + 2) l2.toNatClampNeg (-1) → ∀ x6 : Int32, x6 = l2 + 1 → Gw G (d) mX8_startClause 46 [.ref (ga G c0), uu, .int x6] [] m5 (Qv K))) : Gw G (d) mX8_startClause 46 [.ref (ga G c0), u1, .int l2] [] m (Qv K) := by
  refine Gw.weak (L' := [.ref (ga G c0), uu, .int l2]) ⟨Or.inl rfl, Or.inr rfl, Or.inl rfl, trivial⟩ ?_
  refine go_iload_n dX8_startClause_46 rfl ?_
  refine go_aload_n dX8_startClause_47 rfl ?_
  refine go_getI (k := 0) dX8_startClause_48 hc0.1 rfl inX8 (Nat.le_of_ble_eq_true rfl) lf_X8_27 rfl ?_
  refine go_bipush (v := 6) dX8_startClause_51 (by decide) ?_
  refine go_imul dX8_startClause_53 ?_
  refine go_icmp_ge 70 dX8_startClause_54 rfl ⟨fun hc => ?_, fun hc => ?_⟩
  · have hF := hF.1 hc
    exact go_vret (S := []) dX8_startClause_70 rfl ⟨rfl, hF⟩
  · have hF := hF.2 hc
    refine go_aload_n dX8_startClause_57 rfl ?_
    refine go_getR (k := 3) (r := (c0 + 2)) dX8_startClause_58 hc0.1 rfl inX8 (Nat.le_of_ble_eq_true rfl) lf_X8_15 rfl rfl ?_
    refine go_iload_n dX8_startClause_61 rfl ?_
    refine go_iconst (v := -1) dX8_startClause_62 (by decide) ?_
    obtain ⟨hi, hF⟩ := hF
    refine go_iast dX8_startClause_63 hc0.2.2.1 hi ?_
    obtain ⟨m5, em5⟩ : ∃ z : Mem, z = wI m (c0 + 2) l2.toNatClampNeg (-1) := ⟨_, rfl⟩
    rw [← em5]
    have hF := hF m5 em5
    obtain ⟨x6, ex6⟩ : ∃ z : Int32, z = l2 + 1 := ⟨_, rfl⟩
    have hF := hF x6 ex6
    refine go_iinc (v := x6) (L' := [.ref (ga G c0), uu, .int x6]) dX8_startClause_64 rfl (by rw [ex6]; rfl) (Nat.le_of_ble_eq_true rfl) rfl ?_
    refine go_goto 46 dX8_startClause_67 rfl ?_
    exact hF
theorem vX8_tell (G : GP) (d : Nat) (c0 : Nat) (hc0 : TxAt c0) (a0 : Int32) (m : Mem) (K : Mem → Prop) (hF : ((((m.1 c0 0) * 6) ≤ (m.1 c0 1)) → K m) ∧ ((¬ ((m.1 c0 0) * 6) ≤ (m.1 c0 1)) → vp_in (m.1 c0 1) 144 ∧ ∀ m1 : Mem, m1 = wI m (c0 + 2) (m.1 c0 1).toNatClampNeg a0 → ∀ m2 : Mem, m2 = wI m1 c0 1 ((m1.1 c0 1) + 1) → K m2)) : Evv G (d) mX8_tell [.ref (ga G c0), .int a0] m K := by
  refine Ev.go [.ref (ga G c0), .int a0] (by decide) (Nat.le_of_ble_eq_true rfl) rfl ?_
  refine go_aload_n dX8_tell_0 rfl ?_
  refine go_getI (k := 1) dX8_tell_1 hc0.1 rfl inX8 (Nat.le_of_ble_eq_true rfl) lf_X8_44 rfl ?_
  refine go_aload_n dX8_tell_4 rfl ?_
  refine go_getI (k := 0) dX8_tell_5 hc0.1 rfl inX8 (Nat.le_of_ble_eq_true rfl) lf_X8_27 rfl ?_
  refine go_bipush (v := 6) dX8_tell_8 (by decide) ?_
  refine go_imul dX8_tell_10 ?_
  refine go_icmp_ge 34 dX8_tell_11 rfl ⟨fun hc => ?_, fun hc => ?_⟩
  · have hF := hF.1 hc
    exact go_vret (S := []) dX8_tell_34 rfl ⟨rfl, hF⟩
  · have hF := hF.2 hc
    refine go_aload_n dX8_tell_14 rfl ?_
    refine go_getR (k := 3) (r := (c0 + 2)) dX8_tell_15 hc0.1 rfl inX8 (Nat.le_of_ble_eq_true rfl) lf_X8_15 rfl rfl ?_
    refine go_aload_n dX8_tell_18 rfl ?_
    refine go_getI (k := 1) dX8_tell_19 hc0.1 rfl inX8 (Nat.le_of_ble_eq_true rfl) lf_X8_44 rfl ?_
    refine go_iload_n dX8_tell_22 rfl ?_
    obtain ⟨hi, hF⟩ := hF
    refine go_iast dX8_tell_23 hc0.2.2.1 hi ?_
    obtain ⟨m1, em1⟩ : ∃ z : Mem, z = wI m (c0 + 2) (m.1 c0 1).toNatClampNeg a0 := ⟨_, rfl⟩
    rw [← em1]
    have hF := hF m1 em1
    refine go_aload_n dX8_tell_24 rfl ?_
    refine go_dup dX8_tell_25 rfl ?_
    refine go_getI (k := 1) dX8_tell_26 hc0.1 rfl inX8 (Nat.le_of_ble_eq_true rfl) lf_X8_44 rfl ?_
    refine go_iconst (v := 1) dX8_tell_29 (by decide) ?_
    refine go_iadd dX8_tell_30 ?_
    refine go_putI (k := 1) dX8_tell_31 hc0.1 rfl inX8 (Nat.le_of_ble_eq_true rfl) lf_X8_44 tyX8 tyX8_ok nmX8 rfl rfl (by decide +kernel) ?_
    obtain ⟨m2, em2⟩ : ∃ z : Mem, z = wI m1 c0 1 ((m1.1 c0 1) + 1) := ⟨_, rfl⟩
    rw [← em2]
    have hF := hF m2 em2
    exact go_vret (S := []) dX8_tell_34 rfl ⟨rfl, hF⟩
theorem vX8_what (G : GP) (d : Nat) (c0 : Nat) (hc0 : TxAt c0) (a0 : Int32) (m : Mem) (K : Int32 → Mem → Prop) (hF : ((a0 < 0) → K (-1) m) ∧ ((¬ a0 < 0) → (((m.1 c0 0) ≤ a0) → K (-1) m) ∧ ((¬ (m.1 c0 0) ≤ a0) → vp_in a0 24 ∧ K (m.1 (c0 + 1) a0.toNatClampNeg) m))) : Evi G (d) mX8_what [.ref (ga G c0), .int a0] m K := by
  refine Ev.go [.ref (ga G c0), .int a0] (by decide) (Nat.le_of_ble_eq_true rfl) rfl ?_
  refine go_iload_n dX8_what_0 rfl ?_
  refine go_if_lt 21 dX8_what_1 rfl ⟨fun hc => ?_, fun hc => ?_⟩
  · have hF := hF.1 hc
    refine go_iconst (v := -1) dX8_what_21 (by decide) ?_
    exact go_iret (S := []) dX8_what_22 rfl ⟨_, rfl, hF⟩
  · have hF := hF.2 hc
    refine go_iload_n dX8_what_4 rfl ?_
    refine go_aload_n dX8_what_5 rfl ?_
    refine go_getI (k := 0) dX8_what_6 hc0.1 rfl inX8 (Nat.le_of_ble_eq_true rfl) lf_X8_27 rfl ?_
    refine go_icmp_ge 21 dX8_what_9 rfl ⟨fun hc => ?_, fun hc => ?_⟩
    · have hF := hF.1 hc
      refine go_iconst (v := -1) dX8_what_21 (by decide) ?_
      exact go_iret (S := []) dX8_what_22 rfl ⟨_, rfl, hF⟩
    · have hF := hF.2 hc
      refine go_aload_n dX8_what_12 rfl ?_
      refine go_getR (k := 2) (r := (c0 + 1)) dX8_what_13 hc0.1 rfl inX8 (Nat.le_of_ble_eq_true rfl) lf_X8_9 rfl rfl ?_
      refine go_iload_n dX8_what_16 rfl ?_
      obtain ⟨hi, hF⟩ := hF
      refine go_iald dX8_what_17 hc0.2.1 hi ?_
      refine go_goto 22 dX8_what_18 rfl ?_
      exact go_iret (S := []) dX8_what_22 rfl ⟨_, rfl, hF⟩
theorem vX8_told (G : GP) (d : Nat) (c0 : Nat) (hc0 : TxAt c0) (a0 : Int32) (a1 : Int32) (m : Mem) (K : Int32 → Mem → Prop) (hF : ((a0 < 0) → K (-1) m) ∧ ((¬ a0 < 0) → (((m.1 c0 0) ≤ a0) → K (-1) m) ∧ ((¬ (m.1 c0 0) ≤ a0) → ((0 ≤ a1 ∧ a1 ≤ 5) → vp_in ((a0 * 6) + a1) 144 ∧ K (m.1 (c0 + 2) ((a0 * 6) + a1).toNatClampNeg) m) ∧ (¬ (0 ≤ a1 ∧ a1 ≤ 5) → K (-1) m)))) : Evi G (d + 1) mX8_told [.ref (ga G c0), .int a0, .int a1] m K := by
  refine Ev.go [.ref (ga G c0), .int a0, .int a1] (by decide) (Nat.le_of_ble_eq_true rfl) rfl ?_
  refine go_iload_n dX8_told_0 rfl ?_
  refine go_if_lt 35 dX8_told_1 rfl ⟨fun hc => ?_, fun hc => ?_⟩
  · have hF := hF.1 hc
    refine go_iconst (v := -1) dX8_told_35 (by decide) ?_
    exact go_iret (S := []) dX8_told_36 rfl ⟨_, rfl, hF⟩
  · have hF := hF.2 hc
    refine go_iload_n dX8_told_4 rfl ?_
    refine go_aload_n dX8_told_5 rfl ?_
    refine go_getI (k := 0) dX8_told_6 hc0.1 rfl inX8 (Nat.le_of_ble_eq_true rfl) lf_X8_27 rfl ?_
    refine go_icmp_ge 35 dX8_told_9 rfl ⟨fun hc => ?_, fun hc => ?_⟩
    · have hF := hF.1 hc
      refine go_iconst (v := -1) dX8_told_35 (by decide) ?_
      exact go_iret (S := []) dX8_told_36 rfl ⟨_, rfl, hF⟩
    · have hF := hF.2 hc
      refine go_iload_n dX8_told_12 rfl ?_
      refine go_iconst (v := 0) dX8_told_13 (by decide) ?_
      refine go_iconst (v := 5) dX8_told_14 (by decide) ?_
      rcases Classical.em (0 ≤ a1 ∧ a1 ≤ 5) with hp | hp
      · have hF := hF.1 hp
        refine go_callN mX11_within "BellTongue" dX8_told_15 ln_X8_47 okX11_within isX11_within (As := [.int a1, .int 0, .int 5]) (S := []) rfl rfl (Nat.le_of_ble_eq_true rfl) (eX11_within G _ a1 0 5 m (fun r m' => r = 1 ∧ m = m') ⟨fun _ => ⟨rfl, rfl⟩, fun q => absurd hp q⟩) (k_i (fun r m' hr => ?_))
        obtain ⟨hr1, hr2⟩ := hr
        subst hr1
        subst hr2
        refine go_if_eq 35 dX8_told_18 rfl ⟨fun hc => absurd hc (by decide), fun _ => ?_⟩
        refine go_aload_n dX8_told_21 rfl ?_
        refine go_getR (k := 3) (r := (c0 + 2)) dX8_told_22 hc0.1 rfl inX8 (Nat.le_of_ble_eq_true rfl) lf_X8_15 rfl rfl ?_
        refine go_iload_n dX8_told_25 rfl ?_
        refine go_bipush (v := 6) dX8_told_26 (by decide) ?_
        refine go_imul dX8_told_28 ?_
        refine go_iload_n dX8_told_29 rfl ?_
        refine go_iadd dX8_told_30 ?_
        obtain ⟨hi, hF⟩ := hF
        refine go_iald dX8_told_31 hc0.2.2.1 hi ?_
        refine go_goto 36 dX8_told_32 rfl ?_
        exact go_iret (S := []) dX8_told_36 rfl ⟨_, rfl, hF⟩
      · have hF := hF.2 hp
        refine go_callN mX11_within "BellTongue" dX8_told_15 ln_X8_47 okX11_within isX11_within (As := [.int a1, .int 0, .int 5]) (S := []) rfl rfl (Nat.le_of_ble_eq_true rfl) (eX11_within G _ a1 0 5 m (fun r m' => r = 0 ∧ m = m') ⟨fun q => absurd q hp, fun _ => ⟨rfl, rfl⟩⟩) (k_i (fun r m' hr => ?_))
        obtain ⟨hr1, hr2⟩ := hr
        subst hr1
        subst hr2
        refine go_if_eq 35 dX8_told_18 rfl ⟨fun _ => ?_, fun hc => absurd hc (by decide)⟩
        refine go_iconst (v := -1) dX8_told_35 (by decide) ?_
        exact go_iret (S := []) dX8_told_36 rfl ⟨_, rfl, hF⟩
theorem vX8_emit (G : GP) (d : Nat) (c0 : Nat) (hc0 : TxAt c0) (a0 : Int32) (m : Mem) (K : Mem → Prop) (hF : ((300 ≤ (m.1 c0 5)) → K m) ∧ ((¬ 300 ≤ (m.1 c0 5)) → vp_in (m.1 c0 5) 300 ∧ ∀ m1 : Mem, m1 = wI m (c0 + 3) (m.1 c0 5).toNatClampNeg a0 → ∀ m2 : Mem, m2 = wI m1 c0 5 ((m1.1 c0 5) + 1) → K m2)) : Evv G (d) mX8_emit [.ref (ga G c0), .int a0] m K := by
  refine Ev.go [.ref (ga G c0), .int a0] (by decide) (Nat.le_of_ble_eq_true rfl) rfl ?_
  refine go_aload_n dX8_emit_0 rfl ?_
  refine go_getI (k := 5) dX8_emit_1 hc0.1 rfl inX8 (Nat.le_of_ble_eq_true rfl) lf_X8_35 rfl ?_
  refine go_sipush (v := 300) dX8_emit_4 (by decide) ?_
  refine go_icmp_ge 30 dX8_emit_7 rfl ⟨fun hc => ?_, fun hc => ?_⟩
  · have hF := hF.1 hc
    exact go_vret (S := []) dX8_emit_30 rfl ⟨rfl, hF⟩
  · have hF := hF.2 hc
    refine go_aload_n dX8_emit_10 rfl ?_
    refine go_getR (k := 6) (r := (c0 + 3)) dX8_emit_11 hc0.1 rfl inX8 (Nat.le_of_ble_eq_true rfl) lf_X8_18 rfl rfl ?_
    refine go_aload_n dX8_emit_14 rfl ?_
    refine go_getI (k := 5) dX8_emit_15 hc0.1 rfl inX8 (Nat.le_of_ble_eq_true rfl) lf_X8_35 rfl ?_
    refine go_iload_n dX8_emit_18 rfl ?_
    obtain ⟨hi, hF⟩ := hF
    refine go_iast dX8_emit_19 hc0.2.2.2.1 hi ?_
    obtain ⟨m1, em1⟩ : ∃ z : Mem, z = wI m (c0 + 3) (m.1 c0 5).toNatClampNeg a0 := ⟨_, rfl⟩
    rw [← em1]
    have hF := hF m1 em1
    refine go_aload_n dX8_emit_20 rfl ?_
    refine go_dup dX8_emit_21 rfl ?_
    refine go_getI (k := 5) dX8_emit_22 hc0.1 rfl inX8 (Nat.le_of_ble_eq_true rfl) lf_X8_35 rfl ?_
    refine go_iconst (v := 1) dX8_emit_25 (by decide) ?_
    refine go_iadd dX8_emit_26 ?_
    refine go_putI (k := 5) dX8_emit_27 hc0.1 rfl inX8 (Nat.le_of_ble_eq_true rfl) lf_X8_35 tyX8 tyX8_ok nmX8 rfl rfl (by decide +kernel) ?_
    obtain ⟨m2, em2⟩ : ∃ z : Mem, z = wI m1 c0 5 ((m1.1 c0 5) + 1) := ⟨_, rfl⟩
    rw [← em2]
    have hF := hF m2 em2
    exact go_vret (S := []) dX8_emit_30 rfl ⟨rfl, hF⟩
theorem vX9_startWord (G : GP) (d : Nat) (a0 : Int32) (m : Mem) (K : Mem → Prop) (hF : vp_in a0 10 ∧ ∀ m1 : Mem, m1 = wI m 108 a0.toNatClampNeg 1 → vp_in a0 10 ∧ ∀ m2 : Mem, m2 = wI m1 109 a0.toNatClampNeg a0 → K m2) : Evv G (d) mX9_startWord [.ref (ga G 107), .int a0] m K := by
  refine Ev.go [.ref (ga G 107), .int a0] (by decide) (Nat.le_of_ble_eq_true rfl) rfl ?_
  refine go_aload_n dX9_startWord_0 rfl ?_
  refine go_getR (k := 0) (r := 108) dX9_startWord_1 sh_107 rfl inX9 (Nat.le_of_ble_eq_true rfl) lf_X9_9 rfl rfl ?_
  refine go_iload_n dX9_startWord_4 rfl ?_
  refine go_iconst (v := 1) dX9_startWord_5 (by decide) ?_
  obtain ⟨hi, hF⟩ := hF
  refine go_iast dX9_startWord_6 sh_108 hi ?_
  obtain ⟨m1, em1⟩ : ∃ z : Mem, z = wI m 108 a0.toNatClampNeg 1 := ⟨_, rfl⟩
  rw [← em1]
  have hF := hF m1 em1
  refine go_aload_n dX9_startWord_7 rfl ?_
  refine go_getR (k := 1) (r := 109) dX9_startWord_8 sh_107 rfl inX9 (Nat.le_of_ble_eq_true rfl) lf_X9_15 rfl rfl ?_
  refine go_iload_n dX9_startWord_11 rfl ?_
  refine go_iload_n dX9_startWord_12 rfl ?_
  obtain ⟨hi, hF⟩ := hF
  refine go_iast dX9_startWord_13 sh_109 hi ?_
  obtain ⟨m2, em2⟩ : ∃ z : Mem, z = wI m1 109 a0.toNatClampNeg a0 := ⟨_, rfl⟩
  rw [← em2]
  have hF := hF m2 em2
  exact go_vret (S := []) dX9_startWord_14 rfl ⟨rfl, hF⟩
theorem vX9_addLine (G : GP) (d : Nat) (a0 : Int32) (a1 : Int32) (m : Mem) (K : Int32 → Mem → Prop) (hF : (((m.1 107 2) < 8) → vp_in (m.1 107 2) 8 ∧ ∀ m1 : Mem, m1 = wI m 110 (m.1 107 2).toNatClampNeg a0 → vp_in (m1.1 107 2) 8 ∧ ∀ m2 : Mem, m2 = wI m1 111 (m1.1 107 2).toNatClampNeg a1 → ∀ m3 : Mem, m3 = wI m2 107 2 ((m2.1 107 2) + 1) → K (m3.1 107 2) m3) ∧ ((¬ (m.1 107 2) < 8) → K (-2) m)) : Evi G (d) mX9_addLine [.ref (ga G 107), .int a0, .int a1] m K := by
  refine Ev.go [.ref (ga G 107), .int a0, .int a1] (by decide) (Nat.le_of_ble_eq_true rfl) rfl ?_
  refine go_aload_n dX9_addLine_0 rfl ?_
  refine go_getI (k := 2) dX9_addLine_1 sh_107 rfl inX9 (Nat.le_of_ble_eq_true rfl) lf_X9_30 rfl ?_
  refine go_bipush (v := 8) dX9_addLine_4 (by decide) ?_
  refine go_icmp_lt 12 dX9_addLine_6 rfl ⟨fun hc => ?_, fun hc => ?_⟩
  · have hF := hF.1 hc
    refine go_aload_n dX9_addLine_12 rfl ?_
    refine go_getR (k := 3) (r := 110) dX9_addLine_13 sh_107 rfl inX9 (Nat.le_of_ble_eq_true rfl) lf_X9_18 rfl rfl ?_
    refine go_aload_n dX9_addLine_16 rfl ?_
    refine go_getI (k := 2) dX9_addLine_17 sh_107 rfl inX9 (Nat.le_of_ble_eq_true rfl) lf_X9_30 rfl ?_
    refine go_iload_n dX9_addLine_20 rfl ?_
    obtain ⟨hi, hF⟩ := hF
    refine go_iast dX9_addLine_21 sh_110 hi ?_
    obtain ⟨m1, em1⟩ : ∃ z : Mem, z = wI m 110 (m.1 107 2).toNatClampNeg a0 := ⟨_, rfl⟩
    rw [← em1]
    have hF := hF m1 em1
    refine go_aload_n dX9_addLine_22 rfl ?_
    refine go_getR (k := 4) (r := 111) dX9_addLine_23 sh_107 rfl inX9 (Nat.le_of_ble_eq_true rfl) lf_X9_21 rfl rfl ?_
    refine go_aload_n dX9_addLine_26 rfl ?_
    refine go_getI (k := 2) dX9_addLine_27 sh_107 rfl inX9 (Nat.le_of_ble_eq_true rfl) lf_X9_30 rfl ?_
    refine go_iload_n dX9_addLine_30 rfl ?_
    obtain ⟨hi, hF⟩ := hF
    refine go_iast dX9_addLine_31 sh_111 hi ?_
    obtain ⟨m2, em2⟩ : ∃ z : Mem, z = wI m1 111 (m1.1 107 2).toNatClampNeg a1 := ⟨_, rfl⟩
    rw [← em2]
    have hF := hF m2 em2
    refine go_aload_n dX9_addLine_32 rfl ?_
    refine go_dup dX9_addLine_33 rfl ?_
    refine go_getI (k := 2) dX9_addLine_34 sh_107 rfl inX9 (Nat.le_of_ble_eq_true rfl) lf_X9_30 rfl ?_
    refine go_iconst (v := 1) dX9_addLine_37 (by decide) ?_
    refine go_iadd dX9_addLine_38 ?_
    refine go_putI (k := 2) dX9_addLine_39 sh_107 rfl inX9 (Nat.le_of_ble_eq_true rfl) lf_X9_30 tyX9 tyX9_ok nmX9 rfl rfl (by decide +kernel) ?_
    obtain ⟨m3, em3⟩ : ∃ z : Mem, z = wI m2 107 2 ((m2.1 107 2) + 1) := ⟨_, rfl⟩
    rw [← em3]
    have hF := hF m3 em3
    refine go_aload_n dX9_addLine_42 rfl ?_
    refine go_getI (k := 2) dX9_addLine_43 sh_107 rfl inX9 (Nat.le_of_ble_eq_true rfl) lf_X9_30 rfl ?_
    exact go_iret (S := []) dX9_addLine_46 rfl ⟨_, rfl, hF⟩
  · have hF := hF.2 hc
    refine go_bipush (v := -2) dX9_addLine_9 (by decide) ?_
    exact go_iret (S := []) dX9_addLine_11 rfl ⟨_, rfl, hF⟩
theorem vX9_addToTower (G : GP) (d : Nat) (a0 : Int32) (a1 : Int32) (m : Mem) (K : Int32 → Mem → Prop) (hF : vp_in a0 2 ∧ (((m.1 112 a0.toNatClampNeg) < 12) → vp_in a0 2 ∧ vp_in ((a0 * 12) + (m.1 112 a0.toNatClampNeg)) 24 ∧ ∀ m1 : Mem, m1 = wI m 113 ((a0 * 12) + (m.1 112 a0.toNatClampNeg)).toNatClampNeg a1 → vp_in a0 2 ∧ vp_in a0 2 ∧ ∀ m2 : Mem, m2 = wI m1 112 a0.toNatClampNeg ((m1.1 112 a0.toNatClampNeg) + 1) → vp_in a0 2 ∧ K (m2.1 112 a0.toNatClampNeg) m2) ∧ ((¬ (m.1 112 a0.toNatClampNeg) < 12) → K (-2) m)) : Evi G (d) mX9_addToTower [.ref (ga G 107), .int a0, .int a1] m K := by
  refine Ev.go [.ref (ga G 107), .int a0, .int a1] (by decide) (Nat.le_of_ble_eq_true rfl) rfl ?_
  refine go_aload_n dX9_addToTower_0 rfl ?_
  refine go_getR (k := 5) (r := 112) dX9_addToTower_1 sh_107 rfl inX9 (Nat.le_of_ble_eq_true rfl) lf_X9_24 rfl rfl ?_
  refine go_iload_n dX9_addToTower_4 rfl ?_
  obtain ⟨hi, hF⟩ := hF
  refine go_iald dX9_addToTower_5 sh_112 hi ?_
  refine go_bipush (v := 12) dX9_addToTower_6 (by decide) ?_
  refine go_icmp_lt 14 dX9_addToTower_8 rfl ⟨fun hc => ?_, fun hc => ?_⟩
  · have hF := hF.1 hc
    refine go_aload_n dX9_addToTower_14 rfl ?_
    refine go_getR (k := 6) (r := 113) dX9_addToTower_15 sh_107 rfl inX9 (Nat.le_of_ble_eq_true rfl) lf_X9_27 rfl rfl ?_
    refine go_iload_n dX9_addToTower_18 rfl ?_
    refine go_bipush (v := 12) dX9_addToTower_19 (by decide) ?_
    refine go_imul dX9_addToTower_21 ?_
    refine go_aload_n dX9_addToTower_22 rfl ?_
    refine go_getR (k := 5) (r := 112) dX9_addToTower_23 sh_107 rfl inX9 (Nat.le_of_ble_eq_true rfl) lf_X9_24 rfl rfl ?_
    refine go_iload_n dX9_addToTower_26 rfl ?_
    obtain ⟨hi, hF⟩ := hF
    refine go_iald dX9_addToTower_27 sh_112 hi ?_
    refine go_iadd dX9_addToTower_28 ?_
    refine go_iload_n dX9_addToTower_29 rfl ?_
    obtain ⟨hi, hF⟩ := hF
    refine go_iast dX9_addToTower_30 sh_113 hi ?_
    obtain ⟨m1, em1⟩ : ∃ z : Mem, z = wI m 113 ((a0 * 12) + (m.1 112 a0.toNatClampNeg)).toNatClampNeg a1 := ⟨_, rfl⟩
    rw [← em1]
    have hF := hF m1 em1
    refine go_aload_n dX9_addToTower_31 rfl ?_
    refine go_getR (k := 5) (r := 112) dX9_addToTower_32 sh_107 rfl inX9 (Nat.le_of_ble_eq_true rfl) lf_X9_24 rfl rfl ?_
    refine go_iload_n dX9_addToTower_35 rfl ?_
    refine go_dup2 dX9_addToTower_36 rfl rfl ?_
    obtain ⟨hi, hF⟩ := hF
    refine go_iald dX9_addToTower_37 sh_112 hi ?_
    refine go_iconst (v := 1) dX9_addToTower_38 (by decide) ?_
    refine go_iadd dX9_addToTower_39 ?_
    obtain ⟨hi, hF⟩ := hF
    refine go_iast dX9_addToTower_40 sh_112 hi ?_
    obtain ⟨m2, em2⟩ : ∃ z : Mem, z = wI m1 112 a0.toNatClampNeg ((m1.1 112 a0.toNatClampNeg) + 1) := ⟨_, rfl⟩
    rw [← em2]
    have hF := hF m2 em2
    refine go_aload_n dX9_addToTower_41 rfl ?_
    refine go_getR (k := 5) (r := 112) dX9_addToTower_42 sh_107 rfl inX9 (Nat.le_of_ble_eq_true rfl) lf_X9_24 rfl rfl ?_
    refine go_iload_n dX9_addToTower_45 rfl ?_
    obtain ⟨hi, hF⟩ := hF
    refine go_iald dX9_addToTower_46 sh_112 hi ?_
    exact go_iret (S := []) dX9_addToTower_47 rfl ⟨_, rfl, hF⟩
  · have hF := hF.2 hc
    refine go_bipush (v := -2) dX9_addToTower_11 (by decide) ?_
    exact go_iret (S := []) dX9_addToTower_13 rfl ⟨_, rfl, hF⟩
theorem vX9_allFrom (G : GP) (d : Nat) (a0 : Int32) (m : Mem) (K : Int32 → Mem → Prop) (hF : Gw G (d) mX9_allFrom 7 [.ref (ga G 107), .int a0, .int 0, .int a0, .int 0] [] m (Qi K)) : Evi G (d) mX9_allFrom [.ref (ga G 107), .int a0] m K := by
  refine Ev.go [.ref (ga G 107), .int a0, uu, uu, uu] (by decide) (Nat.le_of_ble_eq_true rfl) rfl ?_
  refine go_iconst (v := 0) dX9_allFrom_0 (by decide) ?_
  refine go_istore_n (L' := [.ref (ga G 107), .int a0, .int 0, uu, uu]) dX9_allFrom_1 (Nat.le_of_ble_eq_true rfl) rfl ?_
  refine go_iload_n dX9_allFrom_2 rfl ?_
  refine go_istore_n (L' := [.ref (ga G 107), .int a0, .int 0, .int a0, uu]) dX9_allFrom_3 (Nat.le_of_ble_eq_true rfl) rfl ?_
  refine go_iconst (v := 0) dX9_allFrom_4 (by decide) ?_
  refine go_istore (L' := [.ref (ga G 107), .int a0, .int 0, .int a0, .int 0]) dX9_allFrom_5 (Nat.le_of_ble_eq_true rfl) rfl ?_
  exact hF
theorem vX9_allFrom_7 (G : GP) (d : Nat) (u1 : Value) (l2 : Int32) (l3 : Int32) (l4 : Int32) (m : Mem) (K : Int32 → Mem → Prop) (hF : ((10 ≤ l4) → K l2 m) ∧ ((¬ 10 ≤ l4) → ∀ x1 : Int32, x1 = l2 ||| ((1 : Int32) <<< (l3 &&& 31)) → vp_in l3 10 ∧ ∀ x2 : Int32, x2 = m.1 109 l3.toNatClampNeg → ∀ x3 : Int32, x3 = l4 + 1 → Gw G (d) mX9_allFrom 7 [.ref (ga G 107), uu, .int x1, .int x2, .int x3] [] m (Qi K))) : Gw G (d) mX9_allFrom 7 [.ref (ga G 107), u1, .int l2, .int l3, .int l4] [] m (Qi K) := by
  refine Gw.weak (L' := [.ref (ga G 107), uu, .int l2, .int l3, .int l4]) ⟨Or.inl rfl, Or.inr rfl, Or.inl rfl, Or.inl rfl, Or.inl rfl, trivial⟩ ?_
  refine go_iload dX9_allFrom_7 rfl ?_
  refine go_bipush (v := 10) dX9_allFrom_9 (by decide) ?_
  refine go_icmp_ge 33 dX9_allFrom_11 rfl ⟨fun hc => ?_, fun hc => ?_⟩
  · have hF := hF.1 hc
    refine go_iload_n dX9_allFrom_33 rfl ?_
    exact go_iret (S := []) dX9_allFrom_34 rfl ⟨_, rfl, hF⟩
  · have hF := hF.2 hc
    refine go_iload_n dX9_allFrom_14 rfl ?_
    refine go_iconst (v := 1) dX9_allFrom_15 (by decide) ?_
    refine go_iload_n dX9_allFrom_16 rfl ?_
    refine go_ishl dX9_allFrom_17 ?_
    refine go_ior dX9_allFrom_18 ?_
    refine Gw.namei (fun x1 ex1 => ?_)
    have hF := hF x1 ex1
    refine go_istore_n (L' := [.ref (ga G 107), uu, .int x1, .int l3, .int l4]) dX9_allFrom_19 (Nat.le_of_ble_eq_true rfl) rfl ?_
    refine go_aload_n dX9_allFrom_20 rfl ?_
    refine go_getR (k := 1) (r := 109) dX9_allFrom_21 sh_107 rfl inX9 (Nat.le_of_ble_eq_true rfl) lf_X9_15 rfl rfl ?_
    refine go_iload_n dX9_allFrom_24 rfl ?_
    obtain ⟨hi, hF⟩ := hF
    refine go_iald dX9_allFrom_25 sh_109 hi ?_
    refine Gw.namei (fun x2 ex2 => ?_)
    have hF := hF x2 ex2
    refine go_istore_n (L' := [.ref (ga G 107), uu, .int x1, .int x2, .int l4]) dX9_allFrom_26 (Nat.le_of_ble_eq_true rfl) rfl ?_
    obtain ⟨x3, ex3⟩ : ∃ z : Int32, z = l4 + 1 := ⟨_, rfl⟩
    have hF := hF x3 ex3
    refine go_iinc (v := x3) (L' := [.ref (ga G 107), uu, .int x1, .int x2, .int x3]) dX9_allFrom_27 rfl (by rw [ex3]; rfl) (Nat.le_of_ble_eq_true rfl) rfl ?_
    refine go_goto 7 dX9_allFrom_30 rfl ?_
    exact hF
theorem vX9_firstLie (G : GP) (d : Nat)  (m : Mem) (K : Int32 → Mem → Prop) (hF : ∀ x1 : Int32, x1 = imin (m.1 112 0) (m.1 112 1) → Gw G (d + 1) mX9_firstLie 18 [.ref (ga G 107), .int x1, .int 0] [] m (Qi K)) : Evi G (d + 1) mX9_firstLie [.ref (ga G 107)] m K := by
  refine Ev.go [.ref (ga G 107), uu, uu] (by decide) (Nat.le_of_ble_eq_true rfl) rfl ?_
  refine go_aload_n dX9_firstLie_0 rfl ?_
  refine go_getR (k := 5) (r := 112) dX9_firstLie_1 sh_107 rfl inX9 (Nat.le_of_ble_eq_true rfl) lf_X9_24 rfl rfl ?_
  refine go_iconst (v := 0) dX9_firstLie_4 (by decide) ?_
  refine go_ialdK (k := 0) dX9_firstLie_5 sh_112 (vp_in_dec (by decide)) (by decide) ?_
  refine go_aload_n dX9_firstLie_6 rfl ?_
  refine go_getR (k := 5) (r := 112) dX9_firstLie_7 sh_107 rfl inX9 (Nat.le_of_ble_eq_true rfl) lf_X9_24 rfl rfl ?_
  refine go_iconst (v := 1) dX9_firstLie_10 (by decide) ?_
  refine go_ialdK (k := 1) dX9_firstLie_11 sh_112 (vp_in_dec (by decide)) (by decide) ?_
  refine go_mmin dX9_firstLie_12 lm_X9_34 (Nat.le_of_ble_eq_true rfl) ?_
  refine Gw.namei (fun x1 ex1 => ?_)
  have hF := hF x1 ex1
  refine go_istore_n (L' := [.ref (ga G 107), .int x1, uu]) dX9_firstLie_15 (Nat.le_of_ble_eq_true rfl) rfl ?_
  refine go_iconst (v := 0) dX9_firstLie_16 (by decide) ?_
  refine go_istore_n (L' := [.ref (ga G 107), .int x1, .int 0]) dX9_firstLie_17 (Nat.le_of_ble_eq_true rfl) rfl ?_
  exact hF
theorem vX9_firstLie_18 (G : GP) (d : Nat) (l1 : Int32) (l2 : Int32) (m : Mem) (K : Int32 → Mem → Prop) (hF : ((l1 ≤ l2) → ((¬ (m.1 112 0) = (m.1 112 1)) → K l1 m) ∧ (((m.1 112 0) = (m.1 112 1)) → K (-1) m)) ∧ ((¬ l1 ≤ l2) → vp_in l2 24 ∧ vp_in ((12 : Int32) + l2) 24 ∧ (((m.1 113 l2.toNatClampNeg) = (m.1 113 ((12 : Int32) + l2).toNatClampNeg)) → ∀ x2 : Int32, x2 = l2 + 1 → Gw G (d + 1) mX9_firstLie 18 [.ref (ga G 107), .int l1, .int x2] [] m (Qi K)) ∧ ((¬ (m.1 113 l2.toNatClampNeg) = (m.1 113 ((12 : Int32) + l2).toNatClampNeg)) → K l2 m))) : Gw G (d + 1) mX9_firstLie 18 [.ref (ga G 107), .int l1, .int l2] [] m (Qi K) := by
  refine go_iload_n dX9_firstLie_18 rfl ?_
  refine go_iload_n dX9_firstLie_19 rfl ?_
  refine go_icmp_ge 49 dX9_firstLie_20 rfl ⟨fun hc => ?_, fun hc => ?_⟩
  · have hF := hF.1 hc
    refine go_aload_n dX9_firstLie_49 rfl ?_
    refine go_getR (k := 5) (r := 112) dX9_firstLie_50 sh_107 rfl inX9 (Nat.le_of_ble_eq_true rfl) lf_X9_24 rfl rfl ?_
    refine go_iconst (v := 0) dX9_firstLie_53 (by decide) ?_
    refine go_ialdK (k := 0) dX9_firstLie_54 sh_112 (vp_in_dec (by decide)) (by decide) ?_
    refine go_aload_n dX9_firstLie_55 rfl ?_
    refine go_getR (k := 5) (r := 112) dX9_firstLie_56 sh_107 rfl inX9 (Nat.le_of_ble_eq_true rfl) lf_X9_24 rfl rfl ?_
    refine go_iconst (v := 1) dX9_firstLie_59 (by decide) ?_
    refine go_ialdK (k := 1) dX9_firstLie_60 sh_112 (vp_in_dec (by decide)) (by decide) ?_
    refine go_icmp_ne 68 dX9_firstLie_61 rfl ⟨fun hc => ?_, fun hc => ?_⟩
    · have hF := hF.1 hc
      refine go_iload_n dX9_firstLie_68 rfl ?_
      exact go_iret (S := []) dX9_firstLie_69 rfl ⟨_, rfl, hF⟩
    · have hF := hF.2 hc
      refine go_iconst (v := -1) dX9_firstLie_64 (by decide) ?_
      refine go_goto 69 dX9_firstLie_65 rfl ?_
      exact go_iret (S := []) dX9_firstLie_69 rfl ⟨_, rfl, hF⟩
  · have hF := hF.2 hc
    refine go_aload_n dX9_firstLie_23 rfl ?_
    refine go_getR (k := 6) (r := 113) dX9_firstLie_24 sh_107 rfl inX9 (Nat.le_of_ble_eq_true rfl) lf_X9_27 rfl rfl ?_
    refine go_iload_n dX9_firstLie_27 rfl ?_
    obtain ⟨hi, hF⟩ := hF
    refine go_iald dX9_firstLie_28 sh_113 hi ?_
    refine go_aload_n dX9_firstLie_29 rfl ?_
    refine go_getR (k := 6) (r := 113) dX9_firstLie_30 sh_107 rfl inX9 (Nat.le_of_ble_eq_true rfl) lf_X9_27 rfl rfl ?_
    refine go_bipush (v := 12) dX9_firstLie_33 (by decide) ?_
    refine go_iload_n dX9_firstLie_35 rfl ?_
    refine go_iadd dX9_firstLie_36 ?_
    obtain ⟨hi, hF⟩ := hF
    refine go_iald dX9_firstLie_37 sh_113 hi ?_
    refine go_icmp_eq 43 dX9_firstLie_38 rfl ⟨fun hc => ?_, fun hc => ?_⟩
    · have hF := hF.1 hc
      obtain ⟨x2, ex2⟩ : ∃ z : Int32, z = l2 + 1 := ⟨_, rfl⟩
      have hF := hF x2 ex2
      refine go_iinc (v := x2) (L' := [.ref (ga G 107), .int l1, .int x2]) dX9_firstLie_43 rfl (by rw [ex2]; rfl) (Nat.le_of_ble_eq_true rfl) rfl ?_
      refine go_goto 18 dX9_firstLie_46 rfl ?_
      exact hF
    · have hF := hF.2 hc
      refine go_iload_n dX9_firstLie_41 rfl ?_
      exact go_iret (S := []) dX9_firstLie_42 rfl ⟨_, rfl, hF⟩
theorem vX9_longestRun (G : GP) (d : Nat)  (m : Mem) (K : Int32 → Mem → Prop) (hF : Gw G (d + 2) mX9_longestRun 4 [.ref (ga G 107), .int 0, .int 0, uu] [] m (Qi K)) : Evi G (d + 2) mX9_longestRun [.ref (ga G 107)] m K := by
  refine Ev.go [.ref (ga G 107), uu, uu, uu] (by decide) (Nat.le_of_ble_eq_true rfl) rfl ?_
  refine go_iconst (v := 0) dX9_longestRun_0 (by decide) ?_
  refine go_istore_n (L' := [.ref (ga G 107), .int 0, uu, uu]) dX9_longestRun_1 (Nat.le_of_ble_eq_true rfl) rfl ?_
  refine go_iconst (v := 0) dX9_longestRun_2 (by decide) ?_
  refine go_istore_n (L' := [.ref (ga G 107), .int 0, .int 0, uu]) dX9_longestRun_3 (Nat.le_of_ble_eq_true rfl) rfl ?_
  exact hF
theorem vX9_longestRun_4 (G : GP) (d : Nat) (l1 : Int32) (l2 : Int32) (u3 : Value) (m : Mem) (K : Int32 → Mem → Prop) (hF : (((m.1 112 0) ≤ l2) → K l1 m) ∧ ((¬ (m.1 112 0) ≤ l2) → Gw G (d + 2) mX9_longestRun 16 [.ref (ga G 107), .int l1, .int l2, .int 0] [] m (Qi K))) : Gw G (d + 2) mX9_longestRun 4 [.ref (ga G 107), .int l1, .int l2, u3] [] m (Qi K) := by
  refine Gw.weak (L' := [.ref (ga G 107), .int l1, .int l2, uu]) ⟨Or.inl rfl, Or.inl rfl, Or.inl rfl, Or.inr rfl, trivial⟩ ?_
  refine go_iload_n dX9_longestRun_4 rfl ?_
  refine go_aload_n dX9_longestRun_5 rfl ?_
  refine go_getR (k := 5) (r := 112) dX9_longestRun_6 sh_107 rfl inX9 (Nat.le_of_ble_eq_true rfl) lf_X9_24 rfl rfl ?_
  refine go_iconst (v := 0) dX9_longestRun_9 (by decide) ?_
  refine go_ialdK (k := 0) dX9_longestRun_10 sh_112 (vp_in_dec (by decide)) (by decide) ?_
  refine go_icmp_ge 49 dX9_longestRun_11 rfl ⟨fun hc => ?_, fun hc => ?_⟩
  · have hF := hF.1 hc
    refine go_iload_n dX9_longestRun_49 rfl ?_
    exact go_iret (S := []) dX9_longestRun_50 rfl ⟨_, rfl, hF⟩
  · have hF := hF.2 hc
    refine go_iconst (v := 0) dX9_longestRun_14 (by decide) ?_
    refine go_istore_n (L' := [.ref (ga G 107), .int l1, .int l2, .int 0]) dX9_longestRun_15 (Nat.le_of_ble_eq_true rfl) rfl ?_
    exact hF
theorem vX9_longestRun_16 (G : GP) (d : Nat) (l1 : Int32) (l2 : Int32) (l3 : Int32) (m : Mem) (K : Int32 → Mem → Prop) (hF : (((m.1 112 1) ≤ l3) → ∀ x1 : Int32, x1 = l2 + 1 → Gw G (d + 2) mX9_longestRun 4 [.ref (ga G 107), .int l1, .int x1, .int l3] [] m (Qi K)) ∧ ((¬ (m.1 112 1) ≤ l3) → Evi G (d + 1) mX9_runAt [.ref (ga G 107), .int l2, .int l3] m (fun r3 m2 => ∀ x4 : Int32, x4 = imax l1 r3 → ∀ x5 : Int32, x5 = l3 + 1 → Gw G (d + 2) mX9_longestRun 16 [.ref (ga G 107), .int x4, .int l2, .int x5] [] m2 (Qi K)))) : Gw G (d + 2) mX9_longestRun 16 [.ref (ga G 107), .int l1, .int l2, .int l3] [] m (Qi K) := by
  refine go_iload_n dX9_longestRun_16 rfl ?_
  refine go_aload_n dX9_longestRun_17 rfl ?_
  refine go_getR (k := 5) (r := 112) dX9_longestRun_18 sh_107 rfl inX9 (Nat.le_of_ble_eq_true rfl) lf_X9_24 rfl rfl ?_
  refine go_iconst (v := 1) dX9_longestRun_21 (by decide) ?_
  refine go_ialdK (k := 1) dX9_longestRun_22 sh_112 (vp_in_dec (by decide)) (by decide) ?_
  refine go_icmp_ge 43 dX9_longestRun_23 rfl ⟨fun hc => ?_, fun hc => ?_⟩
  · have hF := hF.1 hc
    obtain ⟨x1, ex1⟩ : ∃ z : Int32, z = l2 + 1 := ⟨_, rfl⟩
    have hF := hF x1 ex1
    refine go_iinc (v := x1) (L' := [.ref (ga G 107), .int l1, .int x1, .int l3]) dX9_longestRun_43 rfl (by rw [ex1]; rfl) (Nat.le_of_ble_eq_true rfl) rfl ?_
    refine go_goto 4 dX9_longestRun_46 rfl ?_
    exact hF
  · have hF := hF.2 hc
    refine go_iload_n dX9_longestRun_26 rfl ?_
    refine go_aload_n dX9_longestRun_27 rfl ?_
    refine go_iload_n dX9_longestRun_28 rfl ?_
    refine go_iload_n dX9_longestRun_29 rfl ?_
    refine go_callV mX9_runAt dX9_longestRun_30 lm_X9_40 okX9_runAt isX9_runAt sh_107 rfl (As := [.int l2, .int l3]) (S := [.int l1]) rfl rfl (Nat.le_of_ble_eq_true rfl) hF (k_i (fun r3 m2 hF => ?_))
    refine go_mmax dX9_longestRun_33 lm_X9_43 (Nat.le_of_ble_eq_true rfl) ?_
    refine Gw.namei (fun x4 ex4 => ?_)
    have hF := hF x4 ex4
    refine go_istore_n (L' := [.ref (ga G 107), .int x4, .int l2, .int l3]) dX9_longestRun_36 (Nat.le_of_ble_eq_true rfl) rfl ?_
    obtain ⟨x5, ex5⟩ : ∃ z : Int32, z = l3 + 1 := ⟨_, rfl⟩
    have hF := hF x5 ex5
    refine go_iinc (v := x5) (L' := [.ref (ga G 107), .int x4, .int l2, .int x5]) dX9_longestRun_37 rfl (by rw [ex5]; rfl) (Nat.le_of_ble_eq_true rfl) rfl ?_
    refine go_goto 16 dX9_longestRun_40 rfl ?_
    exact hF
theorem vX9_runAt (G : GP) (d : Nat) (a0 : Int32) (a1 : Int32) (m : Mem) (K : Int32 → Mem → Prop) (hF : ∀ x1 : Int32, x1 = imin ((m.1 112 0) - a0) ((m.1 112 1) - a1) → Gw G (d + 1) mX9_runAt 23 [.ref (ga G 107), .int a0, .int a1, .int x1, .int 0] [] m (Qi K)) : Evi G (d + 1) mX9_runAt [.ref (ga G 107), .int a0, .int a1] m K := by
  refine Ev.go [.ref (ga G 107), .int a0, .int a1, uu, uu] (by decide) (Nat.le_of_ble_eq_true rfl) rfl ?_
  refine go_aload_n dX9_runAt_0 rfl ?_
  refine go_getR (k := 5) (r := 112) dX9_runAt_1 sh_107 rfl inX9 (Nat.le_of_ble_eq_true rfl) lf_X9_24 rfl rfl ?_
  refine go_iconst (v := 0) dX9_runAt_4 (by decide) ?_
  refine go_ialdK (k := 0) dX9_runAt_5 sh_112 (vp_in_dec (by decide)) (by decide) ?_
  refine go_iload_n dX9_runAt_6 rfl ?_
  refine go_isub dX9_runAt_7 ?_
  refine go_aload_n dX9_runAt_8 rfl ?_
  refine go_getR (k := 5) (r := 112) dX9_runAt_9 sh_107 rfl inX9 (Nat.le_of_ble_eq_true rfl) lf_X9_24 rfl rfl ?_
  refine go_iconst (v := 1) dX9_runAt_12 (by decide) ?_
  refine go_ialdK (k := 1) dX9_runAt_13 sh_112 (vp_in_dec (by decide)) (by decide) ?_
  refine go_iload_n dX9_runAt_14 rfl ?_
  refine go_isub dX9_runAt_15 ?_
  refine go_mmin dX9_runAt_16 lm_X9_34 (Nat.le_of_ble_eq_true rfl) ?_
  refine Gw.namei (fun x1 ex1 => ?_)
  have hF := hF x1 ex1
  refine go_istore_n (L' := [.ref (ga G 107), .int a0, .int a1, .int x1, uu]) dX9_runAt_19 (Nat.le_of_ble_eq_true rfl) rfl ?_
  refine go_iconst (v := 0) dX9_runAt_20 (by decide) ?_
  refine go_istore (L' := [.ref (ga G 107), .int a0, .int a1, .int x1, .int 0]) dX9_runAt_21 (Nat.le_of_ble_eq_true rfl) rfl ?_
  exact hF
theorem vX9_runAt_23 (G : GP) (d : Nat) (l1 : Int32) (l2 : Int32) (l3 : Int32) (l4 : Int32) (m : Mem) (K : Int32 → Mem → Prop) (hF : ((l3 ≤ l4) → K l4 m) ∧ ((¬ l3 ≤ l4) → vp_in (l1 + l4) 24 ∧ vp_in (((12 : Int32) + l2) + l4) 24 ∧ ((¬ (m.1 113 (l1 + l4).toNatClampNeg) = (m.1 113 (((12 : Int32) + l2) + l4).toNatClampNeg)) → K l4 m) ∧ (((m.1 113 (l1 + l4).toNatClampNeg) = (m.1 113 (((12 : Int32) + l2) + l4).toNatClampNeg)) → ∀ x2 : Int32, x2 = l4 + 1 → Gw G (d + 1) mX9_runAt 23 [.ref (ga G 107), .int l1, .int l2, .int l3, .int x2] [] m (Qi K)))) : Gw G (d + 1) mX9_runAt 23 [.ref (ga G 107), .int l1, .int l2, .int l3, .int l4] [] m (Qi K) := by
  refine go_iload dX9_runAt_23 rfl ?_
  refine go_iload_n dX9_runAt_25 rfl ?_
  refine go_icmp_ge 59 dX9_runAt_26 rfl ⟨fun hc => ?_, fun hc => ?_⟩
  · have hF := hF.1 hc
    refine go_iload dX9_runAt_59 rfl ?_
    exact go_iret (S := []) dX9_runAt_61 rfl ⟨_, rfl, hF⟩
  · have hF := hF.2 hc
    refine go_aload_n dX9_runAt_29 rfl ?_
    refine go_getR (k := 6) (r := 113) dX9_runAt_30 sh_107 rfl inX9 (Nat.le_of_ble_eq_true rfl) lf_X9_27 rfl rfl ?_
    refine go_iload_n dX9_runAt_33 rfl ?_
    refine go_iload dX9_runAt_34 rfl ?_
    refine go_iadd dX9_runAt_36 ?_
    obtain ⟨hi, hF⟩ := hF
    refine go_iald dX9_runAt_37 sh_113 hi ?_
    refine go_aload_n dX9_runAt_38 rfl ?_
    refine go_getR (k := 6) (r := 113) dX9_runAt_39 sh_107 rfl inX9 (Nat.le_of_ble_eq_true rfl) lf_X9_27 rfl rfl ?_
    refine go_bipush (v := 12) dX9_runAt_42 (by decide) ?_
    refine go_iload_n dX9_runAt_44 rfl ?_
    refine go_iadd dX9_runAt_45 ?_
    refine go_iload dX9_runAt_46 rfl ?_
    refine go_iadd dX9_runAt_48 ?_
    obtain ⟨hi, hF⟩ := hF
    refine go_iald dX9_runAt_49 sh_113 hi ?_
    refine go_icmp_ne 59 dX9_runAt_50 rfl ⟨fun hc => ?_, fun hc => ?_⟩
    · have hF := hF.1 hc
      refine go_iload dX9_runAt_59 rfl ?_
      exact go_iret (S := []) dX9_runAt_61 rfl ⟨_, rfl, hF⟩
    · have hF := hF.2 hc
      obtain ⟨x2, ex2⟩ : ∃ z : Int32, z = l4 + 1 := ⟨_, rfl⟩
      have hF := hF x2 ex2
      refine go_iinc (v := x2) (L' := [.ref (ga G 107), .int l1, .int l2, .int l3, .int x2]) dX9_runAt_53 rfl (by rw [ex2]; rfl) (Nat.le_of_ble_eq_true rfl) rfl ?_
      refine go_goto 23 dX9_runAt_56 rfl ?_
      exact hF
theorem vX9_copyFrom_w (G : GP) (d : Nat)  (m : Mem) (K : Mem → Prop) (hF : (¬ (0 : Int32) < 0 ∧ ¬ (0 : Int32) < 0 ∧ ¬ (10 : Int32) < 0 ∧ (0 : Int32).toNatClampNeg + (10 : Int32).toNatClampNeg ≤ 10 ∧ (0 : Int32).toNatClampNeg + (10 : Int32).toNatClampNeg ≤ 10) ∧ ∀ m1 : Mem, m1 = wA m 108 (va_cpy (m.1 221) (m.1 108) (0 : Int32).toNatClampNeg (0 : Int32).toNatClampNeg (10 : Int32).toNatClampNeg) → (¬ (0 : Int32) < 0 ∧ ¬ (0 : Int32) < 0 ∧ ¬ (10 : Int32) < 0 ∧ (0 : Int32).toNatClampNeg + (10 : Int32).toNatClampNeg ≤ 10 ∧ (0 : Int32).toNatClampNeg + (10 : Int32).toNatClampNeg ≤ 10) ∧ ∀ m2 : Mem, m2 = wA m1 109 (va_cpy (m1.1 222) (m1.1 109) (0 : Int32).toNatClampNeg (0 : Int32).toNatClampNeg (10 : Int32).toNatClampNeg) → ∀ m3 : Mem, m3 = wI m2 107 2 (m2.1 220 2) → (¬ (0 : Int32) < 0 ∧ ¬ (0 : Int32) < 0 ∧ ¬ (8 : Int32) < 0 ∧ (0 : Int32).toNatClampNeg + (8 : Int32).toNatClampNeg ≤ 8 ∧ (0 : Int32).toNatClampNeg + (8 : Int32).toNatClampNeg ≤ 8) ∧ ∀ m4 : Mem, m4 = wA m3 110 (va_cpy (m3.1 223) (m3.1 110) (0 : Int32).toNatClampNeg (0 : Int32).toNatClampNeg (8 : Int32).toNatClampNeg) → (¬ (0 : Int32) < 0 ∧ ¬ (0 : Int32) < 0 ∧ ¬ (8 : Int32) < 0 ∧ (0 : Int32).toNatClampNeg + (8 : Int32).toNatClampNeg ≤ 8 ∧ (0 : Int32).toNatClampNeg + (8 : Int32).toNatClampNeg ≤ 8) ∧ ∀ m5 : Mem, m5 = wA m4 111 (va_cpy (m4.1 224) (m4.1 111) (0 : Int32).toNatClampNeg (0 : Int32).toNatClampNeg (8 : Int32).toNatClampNeg) → (¬ (0 : Int32) < 0 ∧ ¬ (0 : Int32) < 0 ∧ ¬ (2 : Int32) < 0 ∧ (0 : Int32).toNatClampNeg + (2 : Int32).toNatClampNeg ≤ 2 ∧ (0 : Int32).toNatClampNeg + (2 : Int32).toNatClampNeg ≤ 2) ∧ ∀ m6 : Mem, m6 = wA m5 112 (va_cpy (m5.1 225) (m5.1 112) (0 : Int32).toNatClampNeg (0 : Int32).toNatClampNeg (2 : Int32).toNatClampNeg) → (¬ (0 : Int32) < 0 ∧ ¬ (0 : Int32) < 0 ∧ ¬ (24 : Int32) < 0 ∧ (0 : Int32).toNatClampNeg + (24 : Int32).toNatClampNeg ≤ 24 ∧ (0 : Int32).toNatClampNeg + (24 : Int32).toNatClampNeg ≤ 24) ∧ ∀ m7 : Mem, m7 = wA m6 113 (va_cpy (m6.1 226) (m6.1 113) (0 : Int32).toNatClampNeg (0 : Int32).toNatClampNeg (24 : Int32).toNatClampNeg) → K m7) : Evv G (d + 1) mX9_copyFrom [.ref (ga G 107), .ref (ga G 220)] m K := by
  refine Ev.go [.ref (ga G 107), .ref (ga G 220)] (by decide) (Nat.le_of_ble_eq_true rfl) rfl ?_
  refine go_aload_n dX9_copyFrom_0 rfl ?_
  refine go_getR (k := 0) (r := 221) dX9_copyFrom_1 sh_220 rfl inX9 (Nat.le_of_ble_eq_true rfl) lf_X9_9 rfl rfl ?_
  refine go_iconst (v := 0) dX9_copyFrom_4 (by decide) ?_
  refine go_aload_n dX9_copyFrom_5 rfl ?_
  refine go_getR (k := 0) (r := 108) dX9_copyFrom_6 sh_107 rfl inX9 (Nat.le_of_ble_eq_true rfl) lf_X9_9 rfl rfl ?_
  refine go_iconst (v := 0) dX9_copyFrom_9 (by decide) ?_
  refine go_bipush (v := 10) dX9_copyFrom_10 (by decide) ?_
  obtain ⟨hi, hF⟩ := hF
  refine go_acopy dX9_copyFrom_12 lm_X9_46 wcopy sh_221 sh_108 (Nat.le_of_ble_eq_true rfl) hi ?_
  obtain ⟨m1, em1⟩ : ∃ z : Mem, z = wA m 108 (va_cpy (m.1 221) (m.1 108) (0 : Int32).toNatClampNeg (0 : Int32).toNatClampNeg (10 : Int32).toNatClampNeg) := ⟨_, rfl⟩
  rw [← em1]
  have hF := hF m1 em1
  refine go_aload_n dX9_copyFrom_15 rfl ?_
  refine go_getR (k := 1) (r := 222) dX9_copyFrom_16 sh_220 rfl inX9 (Nat.le_of_ble_eq_true rfl) lf_X9_15 rfl rfl ?_
  refine go_iconst (v := 0) dX9_copyFrom_19 (by decide) ?_
  refine go_aload_n dX9_copyFrom_20 rfl ?_
  refine go_getR (k := 1) (r := 109) dX9_copyFrom_21 sh_107 rfl inX9 (Nat.le_of_ble_eq_true rfl) lf_X9_15 rfl rfl ?_
  refine go_iconst (v := 0) dX9_copyFrom_24 (by decide) ?_
  refine go_bipush (v := 10) dX9_copyFrom_25 (by decide) ?_
  obtain ⟨hi, hF⟩ := hF
  refine go_acopy dX9_copyFrom_27 lm_X9_46 wcopy sh_222 sh_109 (Nat.le_of_ble_eq_true rfl) hi ?_
  obtain ⟨m2, em2⟩ : ∃ z : Mem, z = wA m1 109 (va_cpy (m1.1 222) (m1.1 109) (0 : Int32).toNatClampNeg (0 : Int32).toNatClampNeg (10 : Int32).toNatClampNeg) := ⟨_, rfl⟩
  rw [← em2]
  have hF := hF m2 em2
  refine go_aload_n dX9_copyFrom_30 rfl ?_
  refine go_aload_n dX9_copyFrom_31 rfl ?_
  refine go_getI (k := 2) dX9_copyFrom_32 sh_220 rfl inX9 (Nat.le_of_ble_eq_true rfl) lf_X9_30 rfl ?_
  refine go_putI (k := 2) dX9_copyFrom_35 sh_107 rfl inX9 (Nat.le_of_ble_eq_true rfl) lf_X9_30 tyX9 tyX9_ok nmX9 rfl rfl (by decide +kernel) ?_
  obtain ⟨m3, em3⟩ : ∃ z : Mem, z = wI m2 107 2 (m2.1 220 2) := ⟨_, rfl⟩
  rw [← em3]
  have hF := hF m3 em3
  refine go_aload_n dX9_copyFrom_38 rfl ?_
  refine go_getR (k := 3) (r := 223) dX9_copyFrom_39 sh_220 rfl inX9 (Nat.le_of_ble_eq_true rfl) lf_X9_18 rfl rfl ?_
  refine go_iconst (v := 0) dX9_copyFrom_42 (by decide) ?_
  refine go_aload_n dX9_copyFrom_43 rfl ?_
  refine go_getR (k := 3) (r := 110) dX9_copyFrom_44 sh_107 rfl inX9 (Nat.le_of_ble_eq_true rfl) lf_X9_18 rfl rfl ?_
  refine go_iconst (v := 0) dX9_copyFrom_47 (by decide) ?_
  refine go_bipush (v := 8) dX9_copyFrom_48 (by decide) ?_
  obtain ⟨hi, hF⟩ := hF
  refine go_acopy dX9_copyFrom_50 lm_X9_46 wcopy sh_223 sh_110 (Nat.le_of_ble_eq_true rfl) hi ?_
  obtain ⟨m4, em4⟩ : ∃ z : Mem, z = wA m3 110 (va_cpy (m3.1 223) (m3.1 110) (0 : Int32).toNatClampNeg (0 : Int32).toNatClampNeg (8 : Int32).toNatClampNeg) := ⟨_, rfl⟩
  rw [← em4]
  have hF := hF m4 em4
  refine go_aload_n dX9_copyFrom_53 rfl ?_
  refine go_getR (k := 4) (r := 224) dX9_copyFrom_54 sh_220 rfl inX9 (Nat.le_of_ble_eq_true rfl) lf_X9_21 rfl rfl ?_
  refine go_iconst (v := 0) dX9_copyFrom_57 (by decide) ?_
  refine go_aload_n dX9_copyFrom_58 rfl ?_
  refine go_getR (k := 4) (r := 111) dX9_copyFrom_59 sh_107 rfl inX9 (Nat.le_of_ble_eq_true rfl) lf_X9_21 rfl rfl ?_
  refine go_iconst (v := 0) dX9_copyFrom_62 (by decide) ?_
  refine go_bipush (v := 8) dX9_copyFrom_63 (by decide) ?_
  obtain ⟨hi, hF⟩ := hF
  refine go_acopy dX9_copyFrom_65 lm_X9_46 wcopy sh_224 sh_111 (Nat.le_of_ble_eq_true rfl) hi ?_
  obtain ⟨m5, em5⟩ : ∃ z : Mem, z = wA m4 111 (va_cpy (m4.1 224) (m4.1 111) (0 : Int32).toNatClampNeg (0 : Int32).toNatClampNeg (8 : Int32).toNatClampNeg) := ⟨_, rfl⟩
  rw [← em5]
  have hF := hF m5 em5
  refine go_aload_n dX9_copyFrom_68 rfl ?_
  refine go_getR (k := 5) (r := 225) dX9_copyFrom_69 sh_220 rfl inX9 (Nat.le_of_ble_eq_true rfl) lf_X9_24 rfl rfl ?_
  refine go_iconst (v := 0) dX9_copyFrom_72 (by decide) ?_
  refine go_aload_n dX9_copyFrom_73 rfl ?_
  refine go_getR (k := 5) (r := 112) dX9_copyFrom_74 sh_107 rfl inX9 (Nat.le_of_ble_eq_true rfl) lf_X9_24 rfl rfl ?_
  refine go_iconst (v := 0) dX9_copyFrom_77 (by decide) ?_
  refine go_iconst (v := 2) dX9_copyFrom_78 (by decide) ?_
  obtain ⟨hi, hF⟩ := hF
  refine go_acopy dX9_copyFrom_79 lm_X9_46 wcopy sh_225 sh_112 (Nat.le_of_ble_eq_true rfl) hi ?_
  obtain ⟨m6, em6⟩ : ∃ z : Mem, z = wA m5 112 (va_cpy (m5.1 225) (m5.1 112) (0 : Int32).toNatClampNeg (0 : Int32).toNatClampNeg (2 : Int32).toNatClampNeg) := ⟨_, rfl⟩
  rw [← em6]
  have hF := hF m6 em6
  refine go_aload_n dX9_copyFrom_82 rfl ?_
  refine go_getR (k := 6) (r := 226) dX9_copyFrom_83 sh_220 rfl inX9 (Nat.le_of_ble_eq_true rfl) lf_X9_27 rfl rfl ?_
  refine go_iconst (v := 0) dX9_copyFrom_86 (by decide) ?_
  refine go_aload_n dX9_copyFrom_87 rfl ?_
  refine go_getR (k := 6) (r := 113) dX9_copyFrom_88 sh_107 rfl inX9 (Nat.le_of_ble_eq_true rfl) lf_X9_27 rfl rfl ?_
  refine go_iconst (v := 0) dX9_copyFrom_91 (by decide) ?_
  refine go_bipush (v := 24) dX9_copyFrom_92 (by decide) ?_
  obtain ⟨hi, hF⟩ := hF
  refine go_acopy dX9_copyFrom_94 lm_X9_46 wcopy sh_226 sh_113 (Nat.le_of_ble_eq_true rfl) hi ?_
  obtain ⟨m7, em7⟩ : ∃ z : Mem, z = wA m6 113 (va_cpy (m6.1 226) (m6.1 113) (0 : Int32).toNatClampNeg (0 : Int32).toNatClampNeg (24 : Int32).toNatClampNeg) := ⟨_, rfl⟩
  rw [← em7]
  have hF := hF m7 em7
  exact go_vret (S := []) dX9_copyFrom_97 rfl ⟨rfl, hF⟩
theorem vX9_copyFrom_k (G : GP) (d : Nat)  (m : Mem) (K : Mem → Prop) (hF : (¬ (0 : Int32) < 0 ∧ ¬ (0 : Int32) < 0 ∧ ¬ (10 : Int32) < 0 ∧ (0 : Int32).toNatClampNeg + (10 : Int32).toNatClampNeg ≤ 10 ∧ (0 : Int32).toNatClampNeg + (10 : Int32).toNatClampNeg ≤ 10) ∧ ∀ m1 : Mem, m1 = wA m 221 (va_cpy (m.1 108) (m.1 221) (0 : Int32).toNatClampNeg (0 : Int32).toNatClampNeg (10 : Int32).toNatClampNeg) → (¬ (0 : Int32) < 0 ∧ ¬ (0 : Int32) < 0 ∧ ¬ (10 : Int32) < 0 ∧ (0 : Int32).toNatClampNeg + (10 : Int32).toNatClampNeg ≤ 10 ∧ (0 : Int32).toNatClampNeg + (10 : Int32).toNatClampNeg ≤ 10) ∧ ∀ m2 : Mem, m2 = wA m1 222 (va_cpy (m1.1 109) (m1.1 222) (0 : Int32).toNatClampNeg (0 : Int32).toNatClampNeg (10 : Int32).toNatClampNeg) → ∀ m3 : Mem, m3 = wI m2 220 2 (m2.1 107 2) → (¬ (0 : Int32) < 0 ∧ ¬ (0 : Int32) < 0 ∧ ¬ (8 : Int32) < 0 ∧ (0 : Int32).toNatClampNeg + (8 : Int32).toNatClampNeg ≤ 8 ∧ (0 : Int32).toNatClampNeg + (8 : Int32).toNatClampNeg ≤ 8) ∧ ∀ m4 : Mem, m4 = wA m3 223 (va_cpy (m3.1 110) (m3.1 223) (0 : Int32).toNatClampNeg (0 : Int32).toNatClampNeg (8 : Int32).toNatClampNeg) → (¬ (0 : Int32) < 0 ∧ ¬ (0 : Int32) < 0 ∧ ¬ (8 : Int32) < 0 ∧ (0 : Int32).toNatClampNeg + (8 : Int32).toNatClampNeg ≤ 8 ∧ (0 : Int32).toNatClampNeg + (8 : Int32).toNatClampNeg ≤ 8) ∧ ∀ m5 : Mem, m5 = wA m4 224 (va_cpy (m4.1 111) (m4.1 224) (0 : Int32).toNatClampNeg (0 : Int32).toNatClampNeg (8 : Int32).toNatClampNeg) → (¬ (0 : Int32) < 0 ∧ ¬ (0 : Int32) < 0 ∧ ¬ (2 : Int32) < 0 ∧ (0 : Int32).toNatClampNeg + (2 : Int32).toNatClampNeg ≤ 2 ∧ (0 : Int32).toNatClampNeg + (2 : Int32).toNatClampNeg ≤ 2) ∧ ∀ m6 : Mem, m6 = wA m5 225 (va_cpy (m5.1 112) (m5.1 225) (0 : Int32).toNatClampNeg (0 : Int32).toNatClampNeg (2 : Int32).toNatClampNeg) → (¬ (0 : Int32) < 0 ∧ ¬ (0 : Int32) < 0 ∧ ¬ (24 : Int32) < 0 ∧ (0 : Int32).toNatClampNeg + (24 : Int32).toNatClampNeg ≤ 24 ∧ (0 : Int32).toNatClampNeg + (24 : Int32).toNatClampNeg ≤ 24) ∧ ∀ m7 : Mem, m7 = wA m6 226 (va_cpy (m6.1 113) (m6.1 226) (0 : Int32).toNatClampNeg (0 : Int32).toNatClampNeg (24 : Int32).toNatClampNeg) → K m7) : Evv G (d + 1) mX9_copyFrom [.ref (ga G 220), .ref (ga G 107)] m K := by
  refine Ev.go [.ref (ga G 220), .ref (ga G 107)] (by decide) (Nat.le_of_ble_eq_true rfl) rfl ?_
  refine go_aload_n dX9_copyFrom_0 rfl ?_
  refine go_getR (k := 0) (r := 108) dX9_copyFrom_1 sh_107 rfl inX9 (Nat.le_of_ble_eq_true rfl) lf_X9_9 rfl rfl ?_
  refine go_iconst (v := 0) dX9_copyFrom_4 (by decide) ?_
  refine go_aload_n dX9_copyFrom_5 rfl ?_
  refine go_getR (k := 0) (r := 221) dX9_copyFrom_6 sh_220 rfl inX9 (Nat.le_of_ble_eq_true rfl) lf_X9_9 rfl rfl ?_
  refine go_iconst (v := 0) dX9_copyFrom_9 (by decide) ?_
  refine go_bipush (v := 10) dX9_copyFrom_10 (by decide) ?_
  obtain ⟨hi, hF⟩ := hF
  refine go_acopy dX9_copyFrom_12 lm_X9_46 wcopy sh_108 sh_221 (Nat.le_of_ble_eq_true rfl) hi ?_
  obtain ⟨m1, em1⟩ : ∃ z : Mem, z = wA m 221 (va_cpy (m.1 108) (m.1 221) (0 : Int32).toNatClampNeg (0 : Int32).toNatClampNeg (10 : Int32).toNatClampNeg) := ⟨_, rfl⟩
  rw [← em1]
  have hF := hF m1 em1
  refine go_aload_n dX9_copyFrom_15 rfl ?_
  refine go_getR (k := 1) (r := 109) dX9_copyFrom_16 sh_107 rfl inX9 (Nat.le_of_ble_eq_true rfl) lf_X9_15 rfl rfl ?_
  refine go_iconst (v := 0) dX9_copyFrom_19 (by decide) ?_
  refine go_aload_n dX9_copyFrom_20 rfl ?_
  refine go_getR (k := 1) (r := 222) dX9_copyFrom_21 sh_220 rfl inX9 (Nat.le_of_ble_eq_true rfl) lf_X9_15 rfl rfl ?_
  refine go_iconst (v := 0) dX9_copyFrom_24 (by decide) ?_
  refine go_bipush (v := 10) dX9_copyFrom_25 (by decide) ?_
  obtain ⟨hi, hF⟩ := hF
  refine go_acopy dX9_copyFrom_27 lm_X9_46 wcopy sh_109 sh_222 (Nat.le_of_ble_eq_true rfl) hi ?_
  obtain ⟨m2, em2⟩ : ∃ z : Mem, z = wA m1 222 (va_cpy (m1.1 109) (m1.1 222) (0 : Int32).toNatClampNeg (0 : Int32).toNatClampNeg (10 : Int32).toNatClampNeg) := ⟨_, rfl⟩
  rw [← em2]
  have hF := hF m2 em2
  refine go_aload_n dX9_copyFrom_30 rfl ?_
  refine go_aload_n dX9_copyFrom_31 rfl ?_
  refine go_getI (k := 2) dX9_copyFrom_32 sh_107 rfl inX9 (Nat.le_of_ble_eq_true rfl) lf_X9_30 rfl ?_
  refine go_putI (k := 2) dX9_copyFrom_35 sh_220 rfl inX9 (Nat.le_of_ble_eq_true rfl) lf_X9_30 tyX9 tyX9_ok nmX9 rfl rfl (by decide +kernel) ?_
  obtain ⟨m3, em3⟩ : ∃ z : Mem, z = wI m2 220 2 (m2.1 107 2) := ⟨_, rfl⟩
  rw [← em3]
  have hF := hF m3 em3
  refine go_aload_n dX9_copyFrom_38 rfl ?_
  refine go_getR (k := 3) (r := 110) dX9_copyFrom_39 sh_107 rfl inX9 (Nat.le_of_ble_eq_true rfl) lf_X9_18 rfl rfl ?_
  refine go_iconst (v := 0) dX9_copyFrom_42 (by decide) ?_
  refine go_aload_n dX9_copyFrom_43 rfl ?_
  refine go_getR (k := 3) (r := 223) dX9_copyFrom_44 sh_220 rfl inX9 (Nat.le_of_ble_eq_true rfl) lf_X9_18 rfl rfl ?_
  refine go_iconst (v := 0) dX9_copyFrom_47 (by decide) ?_
  refine go_bipush (v := 8) dX9_copyFrom_48 (by decide) ?_
  obtain ⟨hi, hF⟩ := hF
  refine go_acopy dX9_copyFrom_50 lm_X9_46 wcopy sh_110 sh_223 (Nat.le_of_ble_eq_true rfl) hi ?_
  obtain ⟨m4, em4⟩ : ∃ z : Mem, z = wA m3 223 (va_cpy (m3.1 110) (m3.1 223) (0 : Int32).toNatClampNeg (0 : Int32).toNatClampNeg (8 : Int32).toNatClampNeg) := ⟨_, rfl⟩
  rw [← em4]
  have hF := hF m4 em4
  refine go_aload_n dX9_copyFrom_53 rfl ?_
  refine go_getR (k := 4) (r := 111) dX9_copyFrom_54 sh_107 rfl inX9 (Nat.le_of_ble_eq_true rfl) lf_X9_21 rfl rfl ?_
  refine go_iconst (v := 0) dX9_copyFrom_57 (by decide) ?_
  refine go_aload_n dX9_copyFrom_58 rfl ?_
  refine go_getR (k := 4) (r := 224) dX9_copyFrom_59 sh_220 rfl inX9 (Nat.le_of_ble_eq_true rfl) lf_X9_21 rfl rfl ?_
  refine go_iconst (v := 0) dX9_copyFrom_62 (by decide) ?_
  refine go_bipush (v := 8) dX9_copyFrom_63 (by decide) ?_
  obtain ⟨hi, hF⟩ := hF
  refine go_acopy dX9_copyFrom_65 lm_X9_46 wcopy sh_111 sh_224 (Nat.le_of_ble_eq_true rfl) hi ?_
  obtain ⟨m5, em5⟩ : ∃ z : Mem, z = wA m4 224 (va_cpy (m4.1 111) (m4.1 224) (0 : Int32).toNatClampNeg (0 : Int32).toNatClampNeg (8 : Int32).toNatClampNeg) := ⟨_, rfl⟩
  rw [← em5]
  have hF := hF m5 em5
  refine go_aload_n dX9_copyFrom_68 rfl ?_
  refine go_getR (k := 5) (r := 112) dX9_copyFrom_69 sh_107 rfl inX9 (Nat.le_of_ble_eq_true rfl) lf_X9_24 rfl rfl ?_
  refine go_iconst (v := 0) dX9_copyFrom_72 (by decide) ?_
  refine go_aload_n dX9_copyFrom_73 rfl ?_
  refine go_getR (k := 5) (r := 225) dX9_copyFrom_74 sh_220 rfl inX9 (Nat.le_of_ble_eq_true rfl) lf_X9_24 rfl rfl ?_
  refine go_iconst (v := 0) dX9_copyFrom_77 (by decide) ?_
  refine go_iconst (v := 2) dX9_copyFrom_78 (by decide) ?_
  obtain ⟨hi, hF⟩ := hF
  refine go_acopy dX9_copyFrom_79 lm_X9_46 wcopy sh_112 sh_225 (Nat.le_of_ble_eq_true rfl) hi ?_
  obtain ⟨m6, em6⟩ : ∃ z : Mem, z = wA m5 225 (va_cpy (m5.1 112) (m5.1 225) (0 : Int32).toNatClampNeg (0 : Int32).toNatClampNeg (2 : Int32).toNatClampNeg) := ⟨_, rfl⟩
  rw [← em6]
  have hF := hF m6 em6
  refine go_aload_n dX9_copyFrom_82 rfl ?_
  refine go_getR (k := 6) (r := 113) dX9_copyFrom_83 sh_107 rfl inX9 (Nat.le_of_ble_eq_true rfl) lf_X9_27 rfl rfl ?_
  refine go_iconst (v := 0) dX9_copyFrom_86 (by decide) ?_
  refine go_aload_n dX9_copyFrom_87 rfl ?_
  refine go_getR (k := 6) (r := 226) dX9_copyFrom_88 sh_220 rfl inX9 (Nat.le_of_ble_eq_true rfl) lf_X9_27 rfl rfl ?_
  refine go_iconst (v := 0) dX9_copyFrom_91 (by decide) ?_
  refine go_bipush (v := 24) dX9_copyFrom_92 (by decide) ?_
  obtain ⟨hi, hF⟩ := hF
  refine go_acopy dX9_copyFrom_94 lm_X9_46 wcopy sh_113 sh_226 (Nat.le_of_ble_eq_true rfl) hi ?_
  obtain ⟨m7, em7⟩ : ∃ z : Mem, z = wA m6 226 (va_cpy (m6.1 113) (m6.1 226) (0 : Int32).toNatClampNeg (0 : Int32).toNatClampNeg (24 : Int32).toNatClampNeg) := ⟨_, rfl⟩
  rw [← em7]
  have hF := hF m7 em7
  exact go_vret (S := []) dX9_copyFrom_97 rfl ⟨rfl, hF⟩
theorem vX10_addWord (G : GP) (d : Nat) (a0 : Int32) (a1 : Int32) (a2 : Int32) (a3 : Int32) (a4 : Int32) (a5 : Int32) (m : Mem) (K : Int32 → Mem → Prop) (hF : Evi G (d + 1) mX2_addWord [.ref (ga G 2), .int a0, .int a1, .int a2, .int a3, .int a4, .int a5] m (fun r2 m1 => ((r2 = (-1)) → K r2 m1) ∧ ((¬ r2 = (-1)) → Evv G (d + 1) mX9_startWord [.ref (ga G 107), .int r2] m1 (fun m3 => K r2 m3)))) : Evi G (d + 2) mX10_addWord [.ref (ga G 1), .int a0, .int a1, .int a2, .int a3, .int a4, .int a5] m K := by
  refine Ev.go [.ref (ga G 1), .int a0, .int a1, .int a2, .int a3, .int a4, .int a5, uu] (by decide) (Nat.le_of_ble_eq_true rfl) rfl ?_
  refine go_aload_n dX10_addWord_0 rfl ?_
  refine go_getR (k := 0) (r := 2) dX10_addWord_1 sh_1 rfl inX10 (Nat.le_of_ble_eq_true rfl) lf_X10_12 rfl rfl ?_
  refine go_iload_n dX10_addWord_4 rfl ?_
  refine go_iload_n dX10_addWord_5 rfl ?_
  refine go_iload_n dX10_addWord_6 rfl ?_
  refine go_iload dX10_addWord_7 rfl ?_
  refine go_iload dX10_addWord_9 rfl ?_
  refine go_iload dX10_addWord_11 rfl ?_
  refine go_callV mX2_addWord dX10_addWord_13 lm_X10_49 okX2_addWord isX2_addWord sh_2 rfl (As := [.int a0, .int a1, .int a2, .int a3, .int a4, .int a5]) (S := []) rfl rfl (Nat.le_of_ble_eq_true rfl) hF (k_i (fun r2 m1 hF => ?_))
  refine go_istore (L' := [.ref (ga G 1), .int a0, .int a1, .int a2, .int a3, .int a4, .int a5, .int r2]) dX10_addWord_16 (Nat.le_of_ble_eq_true rfl) rfl ?_
  refine go_iload dX10_addWord_18 rfl ?_
  refine go_iconst (v := -1) dX10_addWord_20 (by decide) ?_
  refine go_icmp_eq 33 dX10_addWord_21 rfl ⟨fun hc => ?_, fun hc => ?_⟩
  · have hF := hF.1 hc
    refine go_iload dX10_addWord_33 rfl ?_
    exact go_iret (S := []) dX10_addWord_35 rfl ⟨_, rfl, hF⟩
  · have hF := hF.2 hc
    refine go_aload_n dX10_addWord_24 rfl ?_
    refine go_getR (k := 3) (r := 107) dX10_addWord_25 sh_1 rfl inX10 (Nat.le_of_ble_eq_true rfl) lf_X10_35 rfl rfl ?_
    refine go_iload dX10_addWord_28 rfl ?_
    refine go_callV mX9_startWord dX10_addWord_30 lm_X10_53 okX9_startWord isX9_startWord sh_107 rfl (As := [.int r2]) (S := []) rfl rfl (Nat.le_of_ble_eq_true rfl) hF (k_v (fun m3 hF => ?_))
    refine go_iload dX10_addWord_33 rfl ?_
    exact go_iret (S := []) dX10_addWord_35 rfl ⟨_, rfl, hF⟩
theorem vX10_canStrike (G : GP) (d : Nat) (a0 : Int32) (m : Mem) (K : Int32 → Mem → Prop) (hF : ((0 ≤ a0 ∧ a0 < m.1 2 0) → vp_in a0 6 ∧ (((m.1 1 4) < (m.1 5 a0.toNatClampNeg)) → K 0 m) ∧ ((¬ (m.1 1 4) < (m.1 5 a0.toNatClampNeg)) → ((24 ≤ (m.1 12 4)) → K 0 m) ∧ ((¬ 24 ≤ (m.1 12 4)) → K 1 m))) ∧ (¬ (0 ≤ a0 ∧ a0 < m.1 2 0) → K 0 m)) : Evi G (d + 1) mX10_canStrike [.ref (ga G 1), .int a0] m K := by
  refine Ev.go [.ref (ga G 1), .int a0] (by decide) (Nat.le_of_ble_eq_true rfl) rfl ?_
  refine go_aload_n dX10_canStrike_0 rfl ?_
  refine go_getR (k := 0) (r := 2) dX10_canStrike_1 sh_1 rfl inX10 (Nat.le_of_ble_eq_true rfl) lf_X10_12 rfl rfl ?_
  refine go_iload_n dX10_canStrike_4 rfl ?_
  rcases Classical.em (0 ≤ a0 ∧ a0 < m.1 2 0) with hp | hp
  · have hF := hF.1 hp
    refine go_callV mX2_hasBell dX10_canStrike_5 lm_X10_57 okX2_hasBell isX2_hasBell sh_2 rfl (As := [.int a0]) (S := []) rfl rfl (Nat.le_of_ble_eq_true rfl) (eX2_hasBell G _ a0 m (fun r m' => r = 1 ∧ m = m') ⟨fun _ => ⟨rfl, rfl⟩, fun q => absurd hp q⟩) (k_i (fun r m' hr => ?_))
    obtain ⟨hr1, hr2⟩ := hr
    subst hr1
    subst hr2
    refine go_if_eq 43 dX10_canStrike_8 rfl ⟨fun hc => absurd hc (by decide), fun _ => ?_⟩
    refine go_aload_n dX10_canStrike_11 rfl ?_
    refine go_getR (k := 0) (r := 2) dX10_canStrike_12 sh_1 rfl inX10 (Nat.le_of_ble_eq_true rfl) lf_X10_12 rfl rfl ?_
    refine go_getR (k := 3) (r := 5) dX10_canStrike_15 sh_2 rfl inX2 (Nat.le_of_ble_eq_true rfl) lf_X10_61 rfl rfl ?_
    refine go_iload_n dX10_canStrike_18 rfl ?_
    obtain ⟨hi, hF⟩ := hF
    refine go_iald dX10_canStrike_19 sh_5 hi ?_
    refine go_aload_n dX10_canStrike_20 rfl ?_
    refine go_getI (k := 4) dX10_canStrike_21 sh_1 rfl inX10 (Nat.le_of_ble_eq_true rfl) lf_X10_39 rfl ?_
    refine go_icmp_gt 43 dX10_canStrike_24 rfl ⟨fun hc => ?_, fun hc => ?_⟩
    · have hF := hF.1 hc
      refine go_iconst (v := 0) dX10_canStrike_43 (by decide) ?_
      exact go_zret (S := []) dX10_canStrike_44 rfl (by decide) ⟨_, rfl, hF⟩
    · have hF := hF.2 hc
      refine go_aload_n dX10_canStrike_27 rfl ?_
      refine go_getR (k := 1) (r := 12) dX10_canStrike_28 sh_1 rfl inX10 (Nat.le_of_ble_eq_true rfl) lf_X10_21 rfl rfl ?_
      refine go_getI (k := 4) dX10_canStrike_31 sh_12 rfl inX5 (Nat.le_of_ble_eq_true rfl) lf_X10_65 rfl ?_
      refine go_bipush (v := 24) dX10_canStrike_34 (by decide) ?_
      refine go_icmp_ge 43 dX10_canStrike_36 rfl ⟨fun hc => ?_, fun hc => ?_⟩
      · have hF := hF.1 hc
        refine go_iconst (v := 0) dX10_canStrike_43 (by decide) ?_
        exact go_zret (S := []) dX10_canStrike_44 rfl (by decide) ⟨_, rfl, hF⟩
      · have hF := hF.2 hc
        refine go_iconst (v := 1) dX10_canStrike_39 (by decide) ?_
        refine go_goto 44 dX10_canStrike_40 rfl ?_
        exact go_zret (S := []) dX10_canStrike_44 rfl (by decide) ⟨_, rfl, hF⟩
  · have hF := hF.2 hp
    refine go_callV mX2_hasBell dX10_canStrike_5 lm_X10_57 okX2_hasBell isX2_hasBell sh_2 rfl (As := [.int a0]) (S := []) rfl rfl (Nat.le_of_ble_eq_true rfl) (eX2_hasBell G _ a0 m (fun r m' => r = 0 ∧ m = m') ⟨fun q => absurd q hp, fun _ => ⟨rfl, rfl⟩⟩) (k_i (fun r m' hr => ?_))
    obtain ⟨hr1, hr2⟩ := hr
    subst hr1
    subst hr2
    refine go_if_eq 43 dX10_canStrike_8 rfl ⟨fun _ => ?_, fun hc => absurd hc (by decide)⟩
    refine go_iconst (v := 0) dX10_canStrike_43 (by decide) ?_
    exact go_zret (S := []) dX10_canStrike_44 rfl (by decide) ⟨_, rfl, hF⟩
theorem vX10_canSay (G : GP) (d : Nat) (a0 : Int32) (m : Mem) (K : Int32 → Mem → Prop) (hF : ((0 ≤ a0 ∧ a0 < m.1 2 4) → Evi G (d + 1) mX2_menFor [.ref (ga G 2), .int a0] m (fun r2 m1 => (((m1.1 1 4) < r2) → K 0 m1) ∧ ((¬ (m1.1 1 4) < r2) → vp_in a0 10 ∧ ((24 < ((m1.1 12 4) + (m1.1 7 a0.toNatClampNeg))) → K 0 m1) ∧ ((¬ 24 < ((m1.1 12 4) + (m1.1 7 a0.toNatClampNeg))) → K 1 m1)))) ∧ (¬ (0 ≤ a0 ∧ a0 < m.1 2 4) → K 0 m)) : Evi G (d + 2) mX10_canSay [.ref (ga G 1), .int a0] m K := by
  refine Ev.go [.ref (ga G 1), .int a0] (by decide) (Nat.le_of_ble_eq_true rfl) rfl ?_
  refine go_aload_n dX10_canSay_0 rfl ?_
  refine go_getR (k := 0) (r := 2) dX10_canSay_1 sh_1 rfl inX10 (Nat.le_of_ble_eq_true rfl) lf_X10_12 rfl rfl ?_
  refine go_iload_n dX10_canSay_4 rfl ?_
  rcases Classical.em (0 ≤ a0 ∧ a0 < m.1 2 4) with hp | hp
  · have hF := hF.1 hp
    refine go_callV mX2_hasWord dX10_canSay_5 lm_X10_68 okX2_hasWord isX2_hasWord sh_2 rfl (As := [.int a0]) (S := []) rfl rfl (Nat.le_of_ble_eq_true rfl) (eX2_hasWord G _ a0 m (fun r m' => r = 1 ∧ m = m') ⟨fun _ => ⟨rfl, rfl⟩, fun q => absurd hp q⟩) (k_i (fun r m' hr => ?_))
    obtain ⟨hr1, hr2⟩ := hr
    subst hr1
    subst hr2
    refine go_if_eq 52 dX10_canSay_8 rfl ⟨fun hc => absurd hc (by decide), fun _ => ?_⟩
    refine go_aload_n dX10_canSay_11 rfl ?_
    refine go_getR (k := 0) (r := 2) dX10_canSay_12 sh_1 rfl inX10 (Nat.le_of_ble_eq_true rfl) lf_X10_12 rfl rfl ?_
    refine go_iload_n dX10_canSay_15 rfl ?_
    refine go_callV mX2_menFor dX10_canSay_16 lm_X10_71 okX2_menFor isX2_menFor sh_2 rfl (As := [.int a0]) (S := []) rfl rfl (Nat.le_of_ble_eq_true rfl) hF (k_i (fun r2 m1 hF => ?_))
    refine go_aload_n dX10_canSay_19 rfl ?_
    refine go_getI (k := 4) dX10_canSay_20 sh_1 rfl inX10 (Nat.le_of_ble_eq_true rfl) lf_X10_39 rfl ?_
    refine go_icmp_gt 52 dX10_canSay_23 rfl ⟨fun hc => ?_, fun hc => ?_⟩
    · have hF := hF.1 hc
      refine go_iconst (v := 0) dX10_canSay_52 (by decide) ?_
      exact go_zret (S := []) dX10_canSay_53 rfl (by decide) ⟨_, rfl, hF⟩
    · have hF := hF.2 hc
      refine go_aload_n dX10_canSay_26 rfl ?_
      refine go_getR (k := 1) (r := 12) dX10_canSay_27 sh_1 rfl inX10 (Nat.le_of_ble_eq_true rfl) lf_X10_21 rfl rfl ?_
      refine go_getI (k := 4) dX10_canSay_30 sh_12 rfl inX5 (Nat.le_of_ble_eq_true rfl) lf_X10_65 rfl ?_
      refine go_aload_n dX10_canSay_33 rfl ?_
      refine go_getR (k := 0) (r := 2) dX10_canSay_34 sh_1 rfl inX10 (Nat.le_of_ble_eq_true rfl) lf_X10_12 rfl rfl ?_
      refine go_getR (k := 6) (r := 7) dX10_canSay_37 sh_2 rfl inX2 (Nat.le_of_ble_eq_true rfl) lf_X10_75 rfl rfl ?_
      refine go_iload_n dX10_canSay_40 rfl ?_
      obtain ⟨hi, hF⟩ := hF
      refine go_iald dX10_canSay_41 sh_7 hi ?_
      refine go_iadd dX10_canSay_42 ?_
      refine go_bipush (v := 24) dX10_canSay_43 (by decide) ?_
      refine go_icmp_gt 52 dX10_canSay_45 rfl ⟨fun hc => ?_, fun hc => ?_⟩
      · have hF := hF.1 hc
        refine go_iconst (v := 0) dX10_canSay_52 (by decide) ?_
        exact go_zret (S := []) dX10_canSay_53 rfl (by decide) ⟨_, rfl, hF⟩
      · have hF := hF.2 hc
        refine go_iconst (v := 1) dX10_canSay_48 (by decide) ?_
        refine go_goto 53 dX10_canSay_49 rfl ?_
        exact go_zret (S := []) dX10_canSay_53 rfl (by decide) ⟨_, rfl, hF⟩
  · have hF := hF.2 hp
    refine go_callV mX2_hasWord dX10_canSay_5 lm_X10_68 okX2_hasWord isX2_hasWord sh_2 rfl (As := [.int a0]) (S := []) rfl rfl (Nat.le_of_ble_eq_true rfl) (eX2_hasWord G _ a0 m (fun r m' => r = 0 ∧ m = m') ⟨fun q => absurd q hp, fun _ => ⟨rfl, rfl⟩⟩) (k_i (fun r m' hr => ?_))
    obtain ⟨hr1, hr2⟩ := hr
    subst hr1
    subst hr2
    refine go_if_eq 52 dX10_canSay_8 rfl ⟨fun _ => ?_, fun hc => absurd hc (by decide)⟩
    refine go_iconst (v := 0) dX10_canSay_52 (by decide) ?_
    exact go_zret (S := []) dX10_canSay_53 rfl (by decide) ⟨_, rfl, hF⟩
theorem vX10_keepStep (G : GP) (d : Nat)  (m : Mem) (K : Mem → Prop) (hF : Evv G (d + 2) mX6_keep [.ref (ga G 15), .ref (ga G 12)] m (fun m1 => K m1)) : Evv G (d + 3) mX10_keepStep [.ref (ga G 1)] m K := by
  refine Ev.go [.ref (ga G 1)] (by decide) (Nat.le_of_ble_eq_true rfl) rfl ?_
  refine go_aload_n dX10_keepStep_0 rfl ?_
  refine go_getR (k := 2) (r := 15) dX10_keepStep_1 sh_1 rfl inX10 (Nat.le_of_ble_eq_true rfl) lf_X10_28 rfl rfl ?_
  refine go_aload_n dX10_keepStep_4 rfl ?_
  refine go_getR (k := 1) (r := 12) dX10_keepStep_5 sh_1 rfl inX10 (Nat.le_of_ble_eq_true rfl) lf_X10_21 rfl rfl ?_
  refine go_callV mX6_keep dX10_keepStep_8 lm_X10_78 okX6_keep isX6_keep sh_15 rfl (As := [.ref (ga G 12)]) (S := []) rfl rfl (Nat.le_of_ble_eq_true rfl) hF (k_v (fun m1 hF => ?_))
  exact go_vret (S := []) dX10_keepStep_11 rfl ⟨rfl, hF⟩
theorem vX10_copyFrom_w (G : GP) (d : Nat)  (m : Mem) (K : Mem → Prop) (hF : Evv G (d + 2) mX2_copyFrom [.ref (ga G 2), .ref (ga G 115)] m (fun m1 => Evv G (d + 2) mX5_copyFrom [.ref (ga G 12), .ref (ga G 125)] m1 (fun m2 => Evv G (d + 2) mX6_copyFrom [.ref (ga G 15), .ref (ga G 128)] m2 (fun m3 => Evv G (d + 2) mX9_copyFrom [.ref (ga G 107), .ref (ga G 220)] m3 (fun m4 => ∀ m5 : Mem, m5 = wI m4 1 4 (m4.1 114 4) → ∀ m6 : Mem, m6 = wI m5 1 5 (m5.1 114 5) → ∀ m7 : Mem, m7 = wI m6 1 6 (m6.1 114 6) → K m7))))) : Evv G (d + 3) mX10_copyFrom [.ref (ga G 1), .ref (ga G 114)] m K := by
  refine Ev.go [.ref (ga G 1), .ref (ga G 114)] (by decide) (Nat.le_of_ble_eq_true rfl) rfl ?_
  refine go_aload_n dX10_copyFrom_0 rfl ?_
  refine go_getR (k := 0) (r := 2) dX10_copyFrom_1 sh_1 rfl inX10 (Nat.le_of_ble_eq_true rfl) lf_X10_12 rfl rfl ?_
  refine go_aload_n dX10_copyFrom_4 rfl ?_
  refine go_getR (k := 0) (r := 115) dX10_copyFrom_5 sh_114 rfl inX10 (Nat.le_of_ble_eq_true rfl) lf_X10_12 rfl rfl ?_
  refine go_callV mX2_copyFrom dX10_copyFrom_8 lm_X10_82 okX2_copyFrom isX2_copyFrom sh_2 rfl (As := [.ref (ga G 115)]) (S := []) rfl rfl (Nat.le_of_ble_eq_true rfl) hF (k_v (fun m1 hF => ?_))
  refine go_aload_n dX10_copyFrom_11 rfl ?_
  refine go_getR (k := 1) (r := 12) dX10_copyFrom_12 sh_1 rfl inX10 (Nat.le_of_ble_eq_true rfl) lf_X10_21 rfl rfl ?_
  refine go_aload_n dX10_copyFrom_15 rfl ?_
  refine go_getR (k := 1) (r := 125) dX10_copyFrom_16 sh_114 rfl inX10 (Nat.le_of_ble_eq_true rfl) lf_X10_21 rfl rfl ?_
  refine go_callV mX5_copyFrom dX10_copyFrom_19 lm_X10_86 okX5_copyFrom isX5_copyFrom sh_12 rfl (As := [.ref (ga G 125)]) (S := []) rfl rfl (Nat.le_of_ble_eq_true rfl) hF (k_v (fun m2 hF => ?_))
  refine go_aload_n dX10_copyFrom_22 rfl ?_
  refine go_getR (k := 2) (r := 15) dX10_copyFrom_23 sh_1 rfl inX10 (Nat.le_of_ble_eq_true rfl) lf_X10_28 rfl rfl ?_
  refine go_aload_n dX10_copyFrom_26 rfl ?_
  refine go_getR (k := 2) (r := 128) dX10_copyFrom_27 sh_114 rfl inX10 (Nat.le_of_ble_eq_true rfl) lf_X10_28 rfl rfl ?_
  refine go_callV mX6_copyFrom dX10_copyFrom_30 lm_X10_88 okX6_copyFrom isX6_copyFrom sh_15 rfl (As := [.ref (ga G 128)]) (S := []) rfl rfl (Nat.le_of_ble_eq_true rfl) hF (k_v (fun m3 hF => ?_))
  refine go_aload_n dX10_copyFrom_33 rfl ?_
  refine go_getR (k := 3) (r := 107) dX10_copyFrom_34 sh_1 rfl inX10 (Nat.le_of_ble_eq_true rfl) lf_X10_35 rfl rfl ?_
  refine go_aload_n dX10_copyFrom_37 rfl ?_
  refine go_getR (k := 3) (r := 220) dX10_copyFrom_38 sh_114 rfl inX10 (Nat.le_of_ble_eq_true rfl) lf_X10_35 rfl rfl ?_
  refine go_callV mX9_copyFrom dX10_copyFrom_41 lm_X10_91 okX9_copyFrom isX9_copyFrom sh_107 rfl (As := [.ref (ga G 220)]) (S := []) rfl rfl (Nat.le_of_ble_eq_true rfl) hF (k_v (fun m4 hF => ?_))
  refine go_aload_n dX10_copyFrom_44 rfl ?_
  refine go_aload_n dX10_copyFrom_45 rfl ?_
  refine go_getI (k := 4) dX10_copyFrom_46 sh_114 rfl inX10 (Nat.le_of_ble_eq_true rfl) lf_X10_39 rfl ?_
  refine go_putI (k := 4) dX10_copyFrom_49 sh_1 rfl inX10 (Nat.le_of_ble_eq_true rfl) lf_X10_39 tyX10 tyX10_ok nmX10 rfl rfl (by decide +kernel) ?_
  obtain ⟨m5, em5⟩ : ∃ z : Mem, z = wI m4 1 4 (m4.1 114 4) := ⟨_, rfl⟩
  rw [← em5]
  have hF := hF m5 em5
  refine go_aload_n dX10_copyFrom_52 rfl ?_
  refine go_aload_n dX10_copyFrom_53 rfl ?_
  refine go_getI (k := 5) dX10_copyFrom_54 sh_114 rfl inX10 (Nat.le_of_ble_eq_true rfl) lf_X10_46 rfl ?_
  refine go_putI (k := 5) dX10_copyFrom_57 sh_1 rfl inX10 (Nat.le_of_ble_eq_true rfl) lf_X10_46 tyX10 tyX10_ok nmX10 rfl rfl (by decide +kernel) ?_
  obtain ⟨m6, em6⟩ : ∃ z : Mem, z = wI m5 1 5 (m5.1 114 5) := ⟨_, rfl⟩
  rw [← em6]
  have hF := hF m6 em6
  refine go_aload_n dX10_copyFrom_60 rfl ?_
  refine go_aload_n dX10_copyFrom_61 rfl ?_
  refine go_getI (k := 6) dX10_copyFrom_62 sh_114 rfl inX10 (Nat.le_of_ble_eq_true rfl) lf_X10_43 rfl ?_
  refine go_putI (k := 6) dX10_copyFrom_65 sh_1 rfl inX10 (Nat.le_of_ble_eq_true rfl) lf_X10_43 tyX10 tyX10_ok nmX10 rfl rfl (by decide +kernel) ?_
  obtain ⟨m7, em7⟩ : ∃ z : Mem, z = wI m6 1 6 (m6.1 114 6) := ⟨_, rfl⟩
  rw [← em7]
  have hF := hF m7 em7
  exact go_vret (S := []) dX10_copyFrom_68 rfl ⟨rfl, hF⟩
theorem vX10_copyFrom_k (G : GP) (d : Nat)  (m : Mem) (K : Mem → Prop) (hF : Evv G (d + 2) mX2_copyFrom [.ref (ga G 115), .ref (ga G 2)] m (fun m1 => Evv G (d + 2) mX5_copyFrom [.ref (ga G 125), .ref (ga G 12)] m1 (fun m2 => Evv G (d + 2) mX6_copyFrom [.ref (ga G 128), .ref (ga G 15)] m2 (fun m3 => Evv G (d + 2) mX9_copyFrom [.ref (ga G 220), .ref (ga G 107)] m3 (fun m4 => ∀ m5 : Mem, m5 = wI m4 114 4 (m4.1 1 4) → ∀ m6 : Mem, m6 = wI m5 114 5 (m5.1 1 5) → ∀ m7 : Mem, m7 = wI m6 114 6 (m6.1 1 6) → K m7))))) : Evv G (d + 3) mX10_copyFrom [.ref (ga G 114), .ref (ga G 1)] m K := by
  refine Ev.go [.ref (ga G 114), .ref (ga G 1)] (by decide) (Nat.le_of_ble_eq_true rfl) rfl ?_
  refine go_aload_n dX10_copyFrom_0 rfl ?_
  refine go_getR (k := 0) (r := 115) dX10_copyFrom_1 sh_114 rfl inX10 (Nat.le_of_ble_eq_true rfl) lf_X10_12 rfl rfl ?_
  refine go_aload_n dX10_copyFrom_4 rfl ?_
  refine go_getR (k := 0) (r := 2) dX10_copyFrom_5 sh_1 rfl inX10 (Nat.le_of_ble_eq_true rfl) lf_X10_12 rfl rfl ?_
  refine go_callV mX2_copyFrom dX10_copyFrom_8 lm_X10_82 okX2_copyFrom isX2_copyFrom sh_115 rfl (As := [.ref (ga G 2)]) (S := []) rfl rfl (Nat.le_of_ble_eq_true rfl) hF (k_v (fun m1 hF => ?_))
  refine go_aload_n dX10_copyFrom_11 rfl ?_
  refine go_getR (k := 1) (r := 125) dX10_copyFrom_12 sh_114 rfl inX10 (Nat.le_of_ble_eq_true rfl) lf_X10_21 rfl rfl ?_
  refine go_aload_n dX10_copyFrom_15 rfl ?_
  refine go_getR (k := 1) (r := 12) dX10_copyFrom_16 sh_1 rfl inX10 (Nat.le_of_ble_eq_true rfl) lf_X10_21 rfl rfl ?_
  refine go_callV mX5_copyFrom dX10_copyFrom_19 lm_X10_86 okX5_copyFrom isX5_copyFrom sh_125 rfl (As := [.ref (ga G 12)]) (S := []) rfl rfl (Nat.le_of_ble_eq_true rfl) hF (k_v (fun m2 hF => ?_))
  refine go_aload_n dX10_copyFrom_22 rfl ?_
  refine go_getR (k := 2) (r := 128) dX10_copyFrom_23 sh_114 rfl inX10 (Nat.le_of_ble_eq_true rfl) lf_X10_28 rfl rfl ?_
  refine go_aload_n dX10_copyFrom_26 rfl ?_
  refine go_getR (k := 2) (r := 15) dX10_copyFrom_27 sh_1 rfl inX10 (Nat.le_of_ble_eq_true rfl) lf_X10_28 rfl rfl ?_
  refine go_callV mX6_copyFrom dX10_copyFrom_30 lm_X10_88 okX6_copyFrom isX6_copyFrom sh_128 rfl (As := [.ref (ga G 15)]) (S := []) rfl rfl (Nat.le_of_ble_eq_true rfl) hF (k_v (fun m3 hF => ?_))
  refine go_aload_n dX10_copyFrom_33 rfl ?_
  refine go_getR (k := 3) (r := 220) dX10_copyFrom_34 sh_114 rfl inX10 (Nat.le_of_ble_eq_true rfl) lf_X10_35 rfl rfl ?_
  refine go_aload_n dX10_copyFrom_37 rfl ?_
  refine go_getR (k := 3) (r := 107) dX10_copyFrom_38 sh_1 rfl inX10 (Nat.le_of_ble_eq_true rfl) lf_X10_35 rfl rfl ?_
  refine go_callV mX9_copyFrom dX10_copyFrom_41 lm_X10_91 okX9_copyFrom isX9_copyFrom sh_220 rfl (As := [.ref (ga G 107)]) (S := []) rfl rfl (Nat.le_of_ble_eq_true rfl) hF (k_v (fun m4 hF => ?_))
  refine go_aload_n dX10_copyFrom_44 rfl ?_
  refine go_aload_n dX10_copyFrom_45 rfl ?_
  refine go_getI (k := 4) dX10_copyFrom_46 sh_1 rfl inX10 (Nat.le_of_ble_eq_true rfl) lf_X10_39 rfl ?_
  refine go_putI (k := 4) dX10_copyFrom_49 sh_114 rfl inX10 (Nat.le_of_ble_eq_true rfl) lf_X10_39 tyX10 tyX10_ok nmX10 rfl rfl (by decide +kernel) ?_
  obtain ⟨m5, em5⟩ : ∃ z : Mem, z = wI m4 114 4 (m4.1 1 4) := ⟨_, rfl⟩
  rw [← em5]
  have hF := hF m5 em5
  refine go_aload_n dX10_copyFrom_52 rfl ?_
  refine go_aload_n dX10_copyFrom_53 rfl ?_
  refine go_getI (k := 5) dX10_copyFrom_54 sh_1 rfl inX10 (Nat.le_of_ble_eq_true rfl) lf_X10_46 rfl ?_
  refine go_putI (k := 5) dX10_copyFrom_57 sh_114 rfl inX10 (Nat.le_of_ble_eq_true rfl) lf_X10_46 tyX10 tyX10_ok nmX10 rfl rfl (by decide +kernel) ?_
  obtain ⟨m6, em6⟩ : ∃ z : Mem, z = wI m5 114 5 (m5.1 1 5) := ⟨_, rfl⟩
  rw [← em6]
  have hF := hF m6 em6
  refine go_aload_n dX10_copyFrom_60 rfl ?_
  refine go_aload_n dX10_copyFrom_61 rfl ?_
  refine go_getI (k := 6) dX10_copyFrom_62 sh_1 rfl inX10 (Nat.le_of_ble_eq_true rfl) lf_X10_43 rfl ?_
  refine go_putI (k := 6) dX10_copyFrom_65 sh_114 rfl inX10 (Nat.le_of_ble_eq_true rfl) lf_X10_43 tyX10 tyX10_ok nmX10 rfl rfl (by decide +kernel) ?_
  obtain ⟨m7, em7⟩ : ∃ z : Mem, z = wI m6 114 6 (m6.1 1 6) := ⟨_, rfl⟩
  rw [← em7]
  have hF := hF m7 em7
  exact go_vret (S := []) dX10_copyFrom_68 rfl ⟨rfl, hF⟩
