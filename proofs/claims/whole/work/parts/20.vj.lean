theorem vJ7_fill_53178 (G : GP) (d : Nat) (p0 p0l : Nat) (hp0 : SH[p0]? = some (100, p0l, [])) (a1 : Int32) (m : Mem) (K : Mem → Prop) (hF : ∀ x1 : Int32, x1 = Int32.ofNat p0l → Gw G (d) mJ7_fill_53178 5 [.ref (ga G p0), .int a1, .int 0, .int x1] [] m (Qv K)) : Evv G (d) mJ7_fill_53178 [.ref (ga G p0), .int a1] m K := by
  refine Ev.go [.ref (ga G p0), .int a1, uu, uu] (by decide) (Nat.le_of_ble_eq_true rfl) rfl ?_
  refine go_iconst (v := 0) dJ7_fill_53178_0 (by decide) ?_
  refine go_istore_n (L' := [.ref (ga G p0), .int a1, .int 0, uu]) dJ7_fill_53178_1 (Nat.le_of_ble_eq_true rfl) rfl ?_
  refine go_aload_n dJ7_fill_53178_2 rfl ?_
  refine go_alenI dJ7_fill_53178_3 hp0 ?_
  refine Gw.namei (fun x1 ex1 => ?_)
  have hF := hF x1 ex1
  refine go_istore_n (L' := [.ref (ga G p0), .int a1, .int 0, .int x1]) dJ7_fill_53178_4 (Nat.le_of_ble_eq_true rfl) rfl ?_
  exact hF
theorem vJ7_fill_53178_5 (G : GP) (d : Nat) (p0 p0l : Nat) (hp0 : SH[p0]? = some (100, p0l, [])) (l1 : Int32) (l2 : Int32) (l3 : Int32) (m : Mem) (K : Mem → Prop) (hF : ((l3 ≤ l2) → K m) ∧ ((¬ l3 ≤ l2) → vp_in l2 p0l ∧ ∀ m2 : Mem, m2 = wI m p0 l2.toNatClampNeg l1 → ∀ x3 : Int32, x3 = l2 + 1 → Gw G (d) mJ7_fill_53178 5 [.ref (ga G p0), .int l1, .int x3, .int l3] [] m2 (Qv K))) : Gw G (d) mJ7_fill_53178 5 [.ref (ga G p0), .int l1, .int l2, .int l3] [] m (Qv K) := by
  refine go_iload_n dJ7_fill_53178_5 rfl ?_
  refine go_iload_n dJ7_fill_53178_6 rfl ?_
  refine go_icmp_ge 20 dJ7_fill_53178_7 rfl ⟨fun hc => ?_, fun hc => ?_⟩
  · have hF := hF.1 hc
    exact go_vret (S := []) dJ7_fill_53178_20 rfl ⟨rfl, hF⟩
  · have hF := hF.2 hc
    refine go_aload_n dJ7_fill_53178_10 rfl ?_
    refine go_iload_n dJ7_fill_53178_11 rfl ?_
    refine go_iload_n dJ7_fill_53178_12 rfl ?_
    obtain ⟨hi, hF⟩ := hF
    refine go_iast dJ7_fill_53178_13 hp0 hi ?_
    obtain ⟨m2, em2⟩ : ∃ z : Mem, z = wI m p0 l2.toNatClampNeg l1 := ⟨_, rfl⟩
    rw [← em2]
    have hF := hF m2 em2
    obtain ⟨x3, ex3⟩ : ∃ z : Int32, z = l2 + 1 := ⟨_, rfl⟩
    have hF := hF x3 ex3
    refine go_iinc (v := x3) (L' := [.ref (ga G p0), .int l1, .int x3, .int l3]) dJ7_fill_53178_14 rfl (by rw [ex3]; rfl) (Nat.le_of_ble_eq_true rfl) rfl ?_
    refine go_goto 5 dJ7_fill_53178_17 rfl ?_
    exact hF
