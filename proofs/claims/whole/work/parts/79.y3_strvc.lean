/-! THE TWO METHODS THAT LOOK INTO THE CONSTANTS -/
def chA (x : Int32) : Int32 := nI (kwN.getD x.toNatClampNeg 0)
def isBt (x : Int32) : Prop := ∃ v, v < 256 ∧ x = nI v
def inSg (x : Int32) : Prop := ∃ v, v ∈ sgL ∧ x = nI v
theorem go_charAt {G : GP} {d : Nat} {aK aV : Nat → Nat} (hz : StrG G aK aV) {y : MD} {pc idx : Nat} {L S : List Value} {m : Mem} {Q : Option Value → Mem → Prop} {x : Int32} (dg : decode y.2.1 pc = .ok (.invokevirtual idx, 3)) (hk : Cond.methodLink y.1.cls idx yJ0_charAt_5068e ∈ tblG) (hi : vp_in x 184) (hrm : (S.map fun v => v.category).sum ≤ 8) (kk : Gw G (d + 4) y (pc + 3) L (.int (chA x) :: S) m Q) : Gw G (d + 4) y pc L (.int x :: .ref (aK 0) :: S) m Q := by
  have hx := vp_in_iff.mp hi
  obtain ⟨k, e, hk2⟩ : ∃ k, x = nI k ∧ k < 184 := by
    have h0 : ¬ x < 0 := fun z => hi (Or.inl z)
    obtain ⟨k, h1, h2⟩ := nI_of h0
    refine ⟨k, h2, ?_⟩
    rw [h2, nI_toInt h1] at hx
    omega
  subst e
  refine go_callVS hz (by omega) mJ0_charAt_5068e dg hk okJ0_charAt_5068e isJ0_charAt_5068e rfl (As := [.int (nI k)]) (S := S) rfl rfl hrm (eJ0_charAt hz d k hk2 m (fun r m' => r = nI (kwN.getD k 0) ∧ m = m') ⟨rfl, rfl⟩) (k_i (fun r m' hr => ?_))
  obtain ⟨hr1, hr2⟩ := hr
  subst hr1 hr2
  have e2 : chA (nI k) = nI (kwN.getD k 0) := by unfold chA; rw [show (nI k).toNatClampNeg = k from tn_nI (by omega)]
  rw [e2] at kk
  exact kk
theorem go_indexOf {G : GP} {d : Nat} {aK aV : Nat → Nat} (hz : StrG G aK aV) {y : MD} {pc idx : Nat} {L S : List Value} {m : Mem} {Q : Option Value → Mem → Prop} {x : Int32} (dg : decode y.2.1 pc = .ok (.invokevirtual idx, 3)) (hk : Cond.methodLink y.1.cls idx yJ0_indexOf_0f7a4 ∈ tblG) (hi : isBt x) (hrm : (S.map fun v => v.category).sum ≤ 8) (kk : ∀ r : Int32, (0 ≤ r ↔ inSg x) → Gw G (d + 4) y (pc + 3) L (.int r :: S) m Q) : Gw G (d + 4) y pc L (.int x :: .ref (aK 1) :: S) m Q := by
  obtain ⟨v, hv, e⟩ := hi
  subst e
  refine go_callVS hz (by omega) mJ0_indexOf_0f7a4 dg hk okJ0_indexOf_0f7a4 isJ0_indexOf_0f7a4 rfl (As := [.int (nI v)]) (S := S) rfl rfl hrm (eJ0_indexOf hz d v hv m (fun r m' => (0 ≤ r ↔ inSg (nI v)) ∧ m = m') (fun z j hj => ⟨⟨fun _ => ⟨v, z, rfl⟩, fun _ => (le_nI (a := 0) (by omega) (by omega)).mpr (Nat.zero_le _)⟩, rfl⟩) (fun z => ⟨⟨fun y => absurd y (by decide), fun y => by
    obtain ⟨w, w1, w2⟩ := y
    have hw : w < 256 := (show ∀ x ∈ sgL, x < 256 by decide) w w1
    rw [(eq_nI (by omega) (by omega)).mp w2] at z
    exact absurd w1 z⟩, rfl⟩)) (k_i (fun r m' hr => ?_))
  obtain ⟨hr1, hr2⟩ := hr
  subst hr2
  exact kk r hr1
theorem vX7_symbolOf (G : GP) (d : Nat) {aK aV : Nat → Nat} (hz : StrG G aK aV) (a0 : Int32) (m : Mem) (K : Int32 → Mem → Prop) (hF : vp_in a0 300 ∧ ∀ x1 : Int32, x1 = (((m.1 229 a0.toNatClampNeg) &&& 255).toUInt32 % 65536).toInt32 → (((m.1 228 0) ≤ (a0 + 1)) → isBt x1 ∧ ∀ r2 : Int32, (0 ≤ r2 ↔ inSg x1) → ((r2 < 0) → K 0 m) ∧ ((¬ r2 < 0) → K x1 m)) ∧ ((¬ (m.1 228 0) ≤ (a0 + 1)) → vp_in (a0 + 1) 300 ∧ ((¬ (m.1 229 (a0 + 1).toNatClampNeg) = 61) → isBt x1 ∧ ∀ r3 : Int32, (0 ≤ r3 ↔ inSg x1) → ((r3 < 0) → K 0 m) ∧ ((¬ r3 < 0) → K x1 m)) ∧ (((m.1 229 (a0 + 1).toNatClampNeg) = 61) → ((¬ x1 = 60) → ((¬ x1 = 62) → isBt x1 ∧ ∀ r4 : Int32, (0 ≤ r4 ↔ inSg x1) → ((r4 < 0) → K 0 m) ∧ ((¬ r4 < 0) → K x1 m)) ∧ ((x1 = 62) → K 4 m)) ∧ ((x1 = 60) → K 3 m)))) : Evi G (d + 6) mX7_symbolOf [.ref (ga G 228), .int a0] m K := by
  refine Ev.go [.ref (ga G 228), .int a0, uu, uu] (by decide) (Nat.le_of_ble_eq_true rfl) rfl ?_
  refine go_aload_n dX7_symbolOf_0 rfl ?_
  refine go_getR (k := 1) (r := 229) dX7_symbolOf_1 sh_228 rfl inX7 (Nat.le_of_ble_eq_true rfl) lf_X7_11 rfl rfl ?_
  refine go_iload_n dX7_symbolOf_4 rfl ?_
  obtain ⟨hi, hF⟩ := hF
  refine go_bald dX7_symbolOf_5 sh_229 hi ?_
  refine go_sipush (v := 255) dX7_symbolOf_6 (by decide) ?_
  refine go_iand dX7_symbolOf_9 ?_
  refine go_i2c dX7_symbolOf_10 ?_
  refine Gw.namei (fun x1 ex1 => ?_)
  have hF := hF x1 ex1
  refine go_istore_n (L' := [.ref (ga G 228), .int a0, .int x1, uu]) dX7_symbolOf_11 (Nat.le_of_ble_eq_true rfl) rfl ?_
  refine go_iload_n dX7_symbolOf_12 rfl ?_
  refine go_iconst (v := 1) dX7_symbolOf_13 (by decide) ?_
  refine go_iadd dX7_symbolOf_14 ?_
  refine go_aload_n dX7_symbolOf_15 rfl ?_
  refine go_getI (k := 0) dX7_symbolOf_16 sh_228 rfl inX7 (Nat.le_of_ble_eq_true rfl) lf_X7_25 rfl ?_
  refine go_icmp_ge 39 dX7_symbolOf_19 rfl ⟨fun hc => ?_, fun hc => ?_⟩
  · have hF := hF.1 hc
    refine go_iconst (v := 0) dX7_symbolOf_39 (by decide) ?_
    refine go_istore_n (L' := [.ref (ga G 228), .int a0, .int x1, .int 0]) dX7_symbolOf_40 (Nat.le_of_ble_eq_true rfl) rfl ?_
    refine go_iload_n dX7_symbolOf_41 rfl ?_
    refine go_if_eq 53 dX7_symbolOf_42 rfl ⟨fun _ => ?_, fun hc => absurd hc (by decide)⟩
    refine go_iload_n dX7_symbolOf_53 rfl ?_
    refine go_if_eq 65 dX7_symbolOf_54 rfl ⟨fun _ => ?_, fun hc => absurd hc (by decide)⟩
    refine go_ldc53 hz rfl dX7_symbolOf_65 ?_
    refine go_iload_n dX7_symbolOf_67 rfl ?_
    obtain ⟨hi, hF⟩ := hF
    refine go_indexOf hz dX7_symbolOf_68 lm_X7_55 (S := []) hi (Nat.le_of_ble_eq_true rfl) (fun r2 hr2 => ?_)
    have hF := hF r2 hr2
    refine go_if_lt 78 dX7_symbolOf_71 rfl ⟨fun hc => ?_, fun hc => ?_⟩
    · have hF := hF.1 hc
      refine go_iconst (v := 0) dX7_symbolOf_78 (by decide) ?_
      exact go_iret (S := []) dX7_symbolOf_79 rfl ⟨_, rfl, hF⟩
    · have hF := hF.2 hc
      refine go_iload_n dX7_symbolOf_74 rfl ?_
      refine go_goto 79 dX7_symbolOf_75 rfl ?_
      exact go_iret (S := []) dX7_symbolOf_79 rfl ⟨_, rfl, hF⟩
  · have hF := hF.2 hc
    refine go_aload_n dX7_symbolOf_22 rfl ?_
    refine go_getR (k := 1) (r := 229) dX7_symbolOf_23 sh_228 rfl inX7 (Nat.le_of_ble_eq_true rfl) lf_X7_11 rfl rfl ?_
    refine go_iload_n dX7_symbolOf_26 rfl ?_
    refine go_iconst (v := 1) dX7_symbolOf_27 (by decide) ?_
    refine go_iadd dX7_symbolOf_28 ?_
    obtain ⟨hi, hF⟩ := hF
    refine go_bald dX7_symbolOf_29 sh_229 hi ?_
    refine go_bipush (v := 61) dX7_symbolOf_30 (by decide) ?_
    refine go_icmp_ne 39 dX7_symbolOf_32 rfl ⟨fun hc => ?_, fun hc => ?_⟩
    · have hF := hF.1 hc
      refine go_iconst (v := 0) dX7_symbolOf_39 (by decide) ?_
      refine go_istore_n (L' := [.ref (ga G 228), .int a0, .int x1, .int 0]) dX7_symbolOf_40 (Nat.le_of_ble_eq_true rfl) rfl ?_
      refine go_iload_n dX7_symbolOf_41 rfl ?_
      refine go_if_eq 53 dX7_symbolOf_42 rfl ⟨fun _ => ?_, fun hc => absurd hc (by decide)⟩
      refine go_iload_n dX7_symbolOf_53 rfl ?_
      refine go_if_eq 65 dX7_symbolOf_54 rfl ⟨fun _ => ?_, fun hc => absurd hc (by decide)⟩
      refine go_ldc53 hz rfl dX7_symbolOf_65 ?_
      refine go_iload_n dX7_symbolOf_67 rfl ?_
      obtain ⟨hi, hF⟩ := hF
      refine go_indexOf hz dX7_symbolOf_68 lm_X7_55 (S := []) hi (Nat.le_of_ble_eq_true rfl) (fun r3 hr3 => ?_)
      have hF := hF r3 hr3
      refine go_if_lt 78 dX7_symbolOf_71 rfl ⟨fun hc => ?_, fun hc => ?_⟩
      · have hF := hF.1 hc
        refine go_iconst (v := 0) dX7_symbolOf_78 (by decide) ?_
        exact go_iret (S := []) dX7_symbolOf_79 rfl ⟨_, rfl, hF⟩
      · have hF := hF.2 hc
        refine go_iload_n dX7_symbolOf_74 rfl ?_
        refine go_goto 79 dX7_symbolOf_75 rfl ?_
        exact go_iret (S := []) dX7_symbolOf_79 rfl ⟨_, rfl, hF⟩
    · have hF := hF.2 hc
      refine go_iconst (v := 1) dX7_symbolOf_35 (by decide) ?_
      refine go_goto 40 dX7_symbolOf_36 rfl ?_
      refine go_istore_n (L' := [.ref (ga G 228), .int a0, .int x1, .int 1]) dX7_symbolOf_40 (Nat.le_of_ble_eq_true rfl) rfl ?_
      refine go_iload_n dX7_symbolOf_41 rfl ?_
      refine go_if_eq 53 dX7_symbolOf_42 rfl ⟨fun hc => absurd hc (by decide), fun _ => ?_⟩
      refine go_iload_n dX7_symbolOf_45 rfl ?_
      refine go_bipush (v := 60) dX7_symbolOf_46 (by decide) ?_
      refine go_icmp_ne 53 dX7_symbolOf_48 rfl ⟨fun hc => ?_, fun hc => ?_⟩
      · have hF := hF.1 hc
        refine go_iload_n dX7_symbolOf_53 rfl ?_
        refine go_if_eq 65 dX7_symbolOf_54 rfl ⟨fun hc => absurd hc (by decide), fun _ => ?_⟩
        refine go_iload_n dX7_symbolOf_57 rfl ?_
        refine go_bipush (v := 62) dX7_symbolOf_58 (by decide) ?_
        refine go_icmp_ne 65 dX7_symbolOf_60 rfl ⟨fun hc => ?_, fun hc => ?_⟩
        · have hF := hF.1 hc
          refine go_ldc53 hz rfl dX7_symbolOf_65 ?_
          refine go_iload_n dX7_symbolOf_67 rfl ?_
          obtain ⟨hi, hF⟩ := hF
          refine go_indexOf hz dX7_symbolOf_68 lm_X7_55 (S := []) hi (Nat.le_of_ble_eq_true rfl) (fun r4 hr4 => ?_)
          have hF := hF r4 hr4
          refine go_if_lt 78 dX7_symbolOf_71 rfl ⟨fun hc => ?_, fun hc => ?_⟩
          · have hF := hF.1 hc
            refine go_iconst (v := 0) dX7_symbolOf_78 (by decide) ?_
            exact go_iret (S := []) dX7_symbolOf_79 rfl ⟨_, rfl, hF⟩
          · have hF := hF.2 hc
            refine go_iload_n dX7_symbolOf_74 rfl ?_
            refine go_goto 79 dX7_symbolOf_75 rfl ?_
            exact go_iret (S := []) dX7_symbolOf_79 rfl ⟨_, rfl, hF⟩
        · have hF := hF.2 hc
          refine go_iconst (v := 4) dX7_symbolOf_63 (by decide) ?_
          exact go_iret (S := []) dX7_symbolOf_64 rfl ⟨_, rfl, hF⟩
      · have hF := hF.2 hc
        refine go_iconst (v := 3) dX7_symbolOf_51 (by decide) ?_
        exact go_iret (S := []) dX7_symbolOf_52 rfl ⟨_, rfl, hF⟩
theorem vX7_keywordOf (G : GP) (d : Nat) {aK aV : Nat → Nat} (hz : StrG G aK aV) (a0 : Int32) (a1 : Int32) (m : Mem) (K : Int32 → Mem → Prop) (hF : ((a1 < 8) → Gw G (d + 6) mX7_keywordOf 10 [.ref (ga G 228), .int a0, .int a1, .int 0, uu] [] m (Qi K)) ∧ ((¬ a1 < 8) → K 0 m)) : Evi G (d + 6) mX7_keywordOf [.ref (ga G 228), .int a0, .int a1] m K := by
  refine Ev.go [.ref (ga G 228), .int a0, .int a1, uu, uu] (by decide) (Nat.le_of_ble_eq_true rfl) rfl ?_
  refine go_iload_n dX7_keywordOf_0 rfl ?_
  refine go_bipush (v := 8) dX7_keywordOf_1 (by decide) ?_
  refine go_icmp_lt 8 dX7_keywordOf_3 rfl ⟨fun hc => ?_, fun hc => ?_⟩
  · have hF := hF.1 hc
    refine go_iconst (v := 0) dX7_keywordOf_8 (by decide) ?_
    refine go_istore_n (L' := [.ref (ga G 228), .int a0, .int a1, .int 0, uu]) dX7_keywordOf_9 (Nat.le_of_ble_eq_true rfl) rfl ?_
    exact hF
  · have hF := hF.2 hc
    refine go_iconst (v := 0) dX7_keywordOf_6 (by decide) ?_
    exact go_iret (S := []) dX7_keywordOf_7 rfl ⟨_, rfl, hF⟩
theorem vX7_keywordOf_10 (G : GP) (d : Nat) {aK aV : Nat → Nat} (hz : StrG G aK aV) (l1 : Int32) (l2 : Int32) (l3 : Int32) (u4 : Value) (m : Mem) (K : Int32 → Mem → Prop) (hF : ((23 ≤ l3) → K 0 m) ∧ ((¬ 23 ≤ l3) → Gw G (d + 6) mX7_keywordOf 19 [.ref (ga G 228), .int l1, .int l2, .int l3, .int 0] [] m (Qi K))) : Gw G (d + 6) mX7_keywordOf 10 [.ref (ga G 228), .int l1, .int l2, .int l3, u4] [] m (Qi K) := by
  refine Gw.weak (L' := [.ref (ga G 228), .int l1, .int l2, .int l3, uu]) ⟨Or.inl rfl, Or.inl rfl, Or.inl rfl, Or.inl rfl, Or.inr rfl, trivial⟩ ?_
  refine go_iload_n dX7_keywordOf_10 rfl ?_
  refine go_bipush (v := 23) dX7_keywordOf_11 (by decide) ?_
  refine go_icmp_ge 88 dX7_keywordOf_13 rfl ⟨fun hc => ?_, fun hc => ?_⟩
  · have hF := hF.1 hc
    refine go_iconst (v := 0) dX7_keywordOf_88 (by decide) ?_
    exact go_iret (S := []) dX7_keywordOf_89 rfl ⟨_, rfl, hF⟩
  · have hF := hF.2 hc
    refine go_iconst (v := 0) dX7_keywordOf_16 (by decide) ?_
    refine go_istore (L' := [.ref (ga G 228), .int l1, .int l2, .int l3, .int 0]) dX7_keywordOf_17 (Nat.le_of_ble_eq_true rfl) rfl ?_
    exact hF
theorem vX7_keywordOf_19 (G : GP) (d : Nat) {aK aV : Nat → Nat} (hz : StrG G aK aV) (l1 : Int32) (l2 : Int32) (l3 : Int32) (l4 : Int32) (m : Mem) (K : Int32 → Mem → Prop) (hF : ((l2 ≤ l4) → ((¬ l4 = l2) → ∀ x1 : Int32, x1 = l3 + 1 → Gw G (d + 6) mX7_keywordOf 10 [.ref (ga G 228), .int l1, .int l2, .int x1, .int l4] [] m (Qi K)) ∧ ((l4 = l2) → vp_in ((l3 * 8) + l2) 184 ∧ ((¬ (chA ((l3 * 8) + l2)) = 32) → ∀ x2 : Int32, x2 = l3 + 1 → Gw G (d + 6) mX7_keywordOf 10 [.ref (ga G 228), .int l1, .int l2, .int x2, .int l4] [] m (Qi K)) ∧ (((chA ((l3 * 8) + l2)) = 32) → K ((100 : Int32) + l3) m))) ∧ ((¬ l2 ≤ l4) → vp_in ((l3 * 8) + l4) 184 ∧ vp_in (l1 + l4) 300 ∧ ((¬ (chA ((l3 * 8) + l4)) = (m.1 229 (l1 + l4).toNatClampNeg)) → ((¬ l4 = l2) → ∀ x3 : Int32, x3 = l3 + 1 → Gw G (d + 6) mX7_keywordOf 10 [.ref (ga G 228), .int l1, .int l2, .int x3, .int l4] [] m (Qi K)) ∧ ((l4 = l2) → vp_in ((l3 * 8) + l2) 184 ∧ ((¬ (chA ((l3 * 8) + l2)) = 32) → ∀ x4 : Int32, x4 = l3 + 1 → Gw G (d + 6) mX7_keywordOf 10 [.ref (ga G 228), .int l1, .int l2, .int x4, .int l4] [] m (Qi K)) ∧ (((chA ((l3 * 8) + l2)) = 32) → K ((100 : Int32) + l3) m))) ∧ (((chA ((l3 * 8) + l4)) = (m.1 229 (l1 + l4).toNatClampNeg)) → ∀ x5 : Int32, x5 = l4 + 1 → Gw G (d + 6) mX7_keywordOf 19 [.ref (ga G 228), .int l1, .int l2, .int l3, .int x5] [] m (Qi K)))) : Gw G (d + 6) mX7_keywordOf 19 [.ref (ga G 228), .int l1, .int l2, .int l3, .int l4] [] m (Qi K) := by
  refine go_iload dX7_keywordOf_19 rfl ?_
  refine go_iload_n dX7_keywordOf_21 rfl ?_
  refine go_icmp_ge 55 dX7_keywordOf_22 rfl ⟨fun hc => ?_, fun hc => ?_⟩
  · have hF := hF.1 hc
    refine go_iload dX7_keywordOf_55 rfl ?_
    refine go_iload_n dX7_keywordOf_57 rfl ?_
    refine go_icmp_ne 82 dX7_keywordOf_58 rfl ⟨fun hc => ?_, fun hc => ?_⟩
    · have hF := hF.1 hc
      obtain ⟨x1, ex1⟩ : ∃ z : Int32, z = l3 + 1 := ⟨_, rfl⟩
      have hF := hF x1 ex1
      refine go_iinc (v := x1) (L' := [.ref (ga G 228), .int l1, .int l2, .int x1, .int l4]) dX7_keywordOf_82 rfl (by rw [ex1]; rfl) (Nat.le_of_ble_eq_true rfl) rfl ?_
      refine go_goto 10 dX7_keywordOf_85 rfl ?_
      exact hF
    · have hF := hF.2 hc
      refine go_ldc60 hz rfl dX7_keywordOf_61 ?_
      refine go_iload_n dX7_keywordOf_63 rfl ?_
      refine go_bipush (v := 8) dX7_keywordOf_64 (by decide) ?_
      refine go_imul dX7_keywordOf_66 ?_
      refine go_iload_n dX7_keywordOf_67 rfl ?_
      refine go_iadd dX7_keywordOf_68 ?_
      obtain ⟨hi, hF⟩ := hF
      refine go_charAt hz dX7_keywordOf_69 lm_X7_62 (S := []) hi (Nat.le_of_ble_eq_true rfl) ?_
      refine go_bipush (v := 32) dX7_keywordOf_72 (by decide) ?_
      refine go_icmp_ne 82 dX7_keywordOf_74 rfl ⟨fun hc => ?_, fun hc => ?_⟩
      · have hF := hF.1 hc
        obtain ⟨x2, ex2⟩ : ∃ z : Int32, z = l3 + 1 := ⟨_, rfl⟩
        have hF := hF x2 ex2
        refine go_iinc (v := x2) (L' := [.ref (ga G 228), .int l1, .int l2, .int x2, .int l4]) dX7_keywordOf_82 rfl (by rw [ex2]; rfl) (Nat.le_of_ble_eq_true rfl) rfl ?_
        refine go_goto 10 dX7_keywordOf_85 rfl ?_
        exact hF
      · have hF := hF.2 hc
        refine go_bipush (v := 100) dX7_keywordOf_77 (by decide) ?_
        refine go_iload_n dX7_keywordOf_79 rfl ?_
        refine go_iadd dX7_keywordOf_80 ?_
        exact go_iret (S := []) dX7_keywordOf_81 rfl ⟨_, rfl, hF⟩
  · have hF := hF.2 hc
    refine go_ldc60 hz rfl dX7_keywordOf_25 ?_
    refine go_iload_n dX7_keywordOf_27 rfl ?_
    refine go_bipush (v := 8) dX7_keywordOf_28 (by decide) ?_
    refine go_imul dX7_keywordOf_30 ?_
    refine go_iload dX7_keywordOf_31 rfl ?_
    refine go_iadd dX7_keywordOf_33 ?_
    obtain ⟨hi, hF⟩ := hF
    refine go_charAt hz dX7_keywordOf_34 lm_X7_62 (S := []) hi (Nat.le_of_ble_eq_true rfl) ?_
    refine go_aload_n dX7_keywordOf_37 rfl ?_
    refine go_getR (k := 1) (r := 229) dX7_keywordOf_38 sh_228 rfl inX7 (Nat.le_of_ble_eq_true rfl) lf_X7_11 rfl rfl ?_
    refine go_iload_n dX7_keywordOf_41 rfl ?_
    refine go_iload dX7_keywordOf_42 rfl ?_
    refine go_iadd dX7_keywordOf_44 ?_
    obtain ⟨hi, hF⟩ := hF
    refine go_bald dX7_keywordOf_45 sh_229 hi ?_
    refine go_icmp_ne 55 dX7_keywordOf_46 rfl ⟨fun hc => ?_, fun hc => ?_⟩
    · have hF := hF.1 hc
      refine go_iload dX7_keywordOf_55 rfl ?_
      refine go_iload_n dX7_keywordOf_57 rfl ?_
      refine go_icmp_ne 82 dX7_keywordOf_58 rfl ⟨fun hc => ?_, fun hc => ?_⟩
      · have hF := hF.1 hc
        obtain ⟨x3, ex3⟩ : ∃ z : Int32, z = l3 + 1 := ⟨_, rfl⟩
        have hF := hF x3 ex3
        refine go_iinc (v := x3) (L' := [.ref (ga G 228), .int l1, .int l2, .int x3, .int l4]) dX7_keywordOf_82 rfl (by rw [ex3]; rfl) (Nat.le_of_ble_eq_true rfl) rfl ?_
        refine go_goto 10 dX7_keywordOf_85 rfl ?_
        exact hF
      · have hF := hF.2 hc
        refine go_ldc60 hz rfl dX7_keywordOf_61 ?_
        refine go_iload_n dX7_keywordOf_63 rfl ?_
        refine go_bipush (v := 8) dX7_keywordOf_64 (by decide) ?_
        refine go_imul dX7_keywordOf_66 ?_
        refine go_iload_n dX7_keywordOf_67 rfl ?_
        refine go_iadd dX7_keywordOf_68 ?_
        obtain ⟨hi, hF⟩ := hF
        refine go_charAt hz dX7_keywordOf_69 lm_X7_62 (S := []) hi (Nat.le_of_ble_eq_true rfl) ?_
        refine go_bipush (v := 32) dX7_keywordOf_72 (by decide) ?_
        refine go_icmp_ne 82 dX7_keywordOf_74 rfl ⟨fun hc => ?_, fun hc => ?_⟩
        · have hF := hF.1 hc
          obtain ⟨x4, ex4⟩ : ∃ z : Int32, z = l3 + 1 := ⟨_, rfl⟩
          have hF := hF x4 ex4
          refine go_iinc (v := x4) (L' := [.ref (ga G 228), .int l1, .int l2, .int x4, .int l4]) dX7_keywordOf_82 rfl (by rw [ex4]; rfl) (Nat.le_of_ble_eq_true rfl) rfl ?_
          refine go_goto 10 dX7_keywordOf_85 rfl ?_
          exact hF
        · have hF := hF.2 hc
          refine go_bipush (v := 100) dX7_keywordOf_77 (by decide) ?_
          refine go_iload_n dX7_keywordOf_79 rfl ?_
          refine go_iadd dX7_keywordOf_80 ?_
          exact go_iret (S := []) dX7_keywordOf_81 rfl ⟨_, rfl, hF⟩
    · have hF := hF.2 hc
      obtain ⟨x5, ex5⟩ : ∃ z : Int32, z = l4 + 1 := ⟨_, rfl⟩
      have hF := hF x5 ex5
      refine go_iinc (v := x5) (L' := [.ref (ga G 228), .int l1, .int l2, .int l3, .int x5]) dX7_keywordOf_49 rfl (by rw [ex5]; rfl) (Nat.le_of_ble_eq_true rfl) rfl ?_
      refine go_goto 19 dX7_keywordOf_52 rfl ?_
      exact hF
