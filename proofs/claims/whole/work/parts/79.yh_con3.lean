/-! CONSTRUCTORS THAT CALL CONSTRUCTORS -/
theorem se_15 (i : Nat) (h : i < 30) : SeAt (17 + 3 * i) := by
  have h1 : ∀ i, i < 30 → SH[17 + 3 * i]? = some (5, 8, [0, 0, 0, 0, 0, 17 + 3 * i + 1, 0, 17 + 3 * i + 2]) := by decide +kernel
  have h2 : ∀ i, i < 30 → SH[17 + 3 * i + 1]? = some (100, 24, []) := by decide +kernel
  have h3 : ∀ i, i < 30 → SH[17 + 3 * i + 2]? = some (100, 80, []) := by decide +kernel
  exact ⟨h1 i h, h2 i h, h3 i h⟩
theorem eX6_init_15 (G : GP) (d : Nat) (hov5 : ∀ (U : State) (H : Heap), gZ G U H → va_AO RX5 U) (m0 : Mem) (hF0 : Fz 15 m0) (Q : Nat → Mem → Prop) (hQ : ∀ m', MC 15 107 m' → (∀ q, q < 15 → Eq3 m0 m' q) → Q 107 m') : Ec G (d + 2) mX6_init 91 3390 [.ref (ga G 15)] 16 m0 Q := by
  refine Ec.go [.ref (ga G 15), uu] rfl (by decide) (Nat.le_of_ble_eq_true rfl) rfl ?_
  obtain ⟨i0, l0, z0⟩ := hF0 15 (by omega)
  obtain ⟨i1, l1, z1⟩ := hF0 16 (by omega)
  have lp : ∀ (f i : Nat) (m : Mem), i + f = 30 → Fz (17 + 3 * i) m → MC 17 (17 + 3 * i) m → m.1 15 = (fun _ => 0) → m.2.1 15 = (fun _ => 0) → m.2.2 15 = (fun k => [0, 0, 16].getD k 0) → m.1 16 = (fun _ => 0) → m.2.1 16 = (fun _ => 0) → m.2.2 16 = (fun k => if k < i then 17 + 3 * k else 0) → (∀ q, q < 15 → Eq3 m0 m q) → Gc G (d + 2) mX6_init 91 3390 15 [.ref (ga G 15), .int (nI i)] [] (17 + 3 * i) (1 + 3 * i) (30 + 112 * i) m Q := by
    intro f
    induction f with
    | zero =>
      intro i m e hF hM a1 a2 a3 b1 b2 b3 hq
      have : i = 30 := by omega
      subst this
      refine co_iload_n dX6_init_15 rfl ?_
      refine co_bipush (v := 30) dX6_init_16 (by decide) ?_
      refine co_icmp_ge 40 dX6_init_18 rfl ⟨fun _ => ?_, fun z => absurd ((le_nI (a := 30) (b := 30) (by omega) (by omega)).mpr (Nat.le_refl _)) z⟩
      refine co_ret dX6_init_40 rfl rfl rfl ?_
      refine hQ m (((MC.one (a := 15) (a1.trans (by rw [iM_of sh_15]; rfl)) a2 (a3.trans (by rw [Mr_of sh_15]))).join (MC.one (a := 16) (b1.trans (by rw [iM_of sh_16]; rfl)) b2 (b3.trans ?_))).join hM) hq
      rw [Mr_of sh_16]
      funext k
      by_cases hk : k < 30
      · rw [if_pos hk]
        exact (show ∀ k, k < 30 → 17 + 3 * k = ([17, 20, 23, 26, 29, 32, 35, 38, 41, 44, 47, 50, 53, 56, 59, 62, 65, 68, 71, 74, 77, 80, 83, 86, 89, 92, 95, 98, 101, 104] : List Nat).getD k 0 by decide) k hk
      · rw [if_neg hk, List.getD_eq_getElem?_getD, List.getElem?_eq_none (show ([17, 20, 23, 26, 29, 32, 35, 38, 41, 44, 47, 50, 53, 56, 59, 62, 65, 68, 71, 74, 77, 80, 83, 86, 89, 92, 95, 98, 101, 104] : List Nat).length ≤ k by simp; omega)]; rfl
    | succ f ih =>
      intro i m e hF hM a1 a2 a3 b1 b2 b3 hq
      have hSe : SeAt (17 + 3 * i) := se_15 i (by omega)
      refine co_iload_n dX6_init_15 rfl ?_
      refine co_bipush (v := 30) dX6_init_16 (by decide) ?_
      refine co_icmp_ge 40 dX6_init_18 rfl ⟨fun z => absurd ((le_nI (a := 30) (b := i) (by omega) (by omega)).mp z) (by omega), fun _ => ?_⟩
      refine co_aload_n dX6_init_21 rfl ?_
      refine co_getR (k := 2) (r := 16) dX6_init_22 sh_15 (by omega) rfl inX6 (Nat.le_of_ble_eq_true rfl) lf_X6_11 rfl (by rw [a3]; rfl) (by omega) ?_
      refine co_iload_n dX6_init_25 rfl ?_
      refine co_new dX6_init_26 (by omega) hSe.1 rfl inX5 tyX5 tyX5_ok lcl_X6_9 lin_X5 wi_X5 (by decide) (by omega) (by omega) ?_
      refine co_dup dX6_init_29 rfl ?_
      refine co_callN mX5_init "BellTongue" dX6_init_30 (by omega) ln_X6_17 okX5_init imX5_init rfl rfl (As := []) (S := [.ref (ga G (17 + 3 * i)), .int (nI i), .ref (ga G 16)]) rfl rfl (Nat.le_of_ble_eq_true rfl) (ct' := 2) (st' := 104) (by omega) (by omega) (eX5_init G d hSe m hF (fun n' m' => n' = 17 + 3 * i + 3 ∧ MC (17 + 3 * i) (17 + 3 * i + 3) m' ∧ ∀ q, q < 17 + 3 * i → Eq3 m m' q) (fun m' q1 q2 => ⟨rfl, q1, q2⟩)) (fun n' m1 hq1 hF1 => ?_)
      obtain ⟨en, hM1, hE1⟩ := hq1
      subst en
      refine ⟨by omega, ?_⟩
      refine co_aast (q := 16) (r := 17 + 3 * i) (ix := 5) dX6_init_33 sh_16 (by omega) (by omega) rfl rfl hSe.1 (by omega) (by omega) rfl (in_nI (by omega) (by omega)) ?_
      rw [show (nI i).toNatClampNeg = i from tn_nI (by omega)]
      refine co_iinc (v := nI (i + 1)) dX6_init_34 rfl (nI_succ i).symm (by decide) rfl ?_
      refine co_goto 15 dX6_init_37 rfl ?_
      have e1 : 17 + 3 * i + 3 = 17 + 3 * (i + 1) := by omega
      have e2 : 1 + 3 * i + 1 + 2 = 1 + 3 * (i + 1) := by omega
      have e3 : 30 + 112 * i + 8 + 104 = 30 + 112 * (i + 1) := by omega
      have hFw : Fz (17 + 3 * i + 3) (wR m1 16 i (17 + 3 * i)) := hF1.wR (by omega)
      have hMw : MC 17 (17 + 3 * i + 3) (wR m1 16 i (17 + 3 * i)) := (hM.eq (fun q b1 b2 => (hE1 q b2).wR (by omega))).join (hM1.eq (fun q b1 b2 => (Eq3.rf _ _).wR (by omega)))
      have hAq := hE1 15 (by omega)
      have hRq := hE1 16 (by omega)
      rw [e1] at hFw hMw
      rw [e1, e2, e3]
      refine ih (i + 1) _ (by omega) hFw hMw (hAq.1.trans a1) (hAq.2.1.trans a2) ?_ (hRq.1.trans b1) (hRq.2.1.trans b2) ?_ (fun q hq2 => (hq q hq2).tr ((hE1 q (by omega)).wR (by omega)))
      · rw [wR_n m1 _ _ (by omega)]; exact hAq.2.2.trans a3
      · rw [wR_s, hRq.2.2, b3]
        funext k
        unfold va_up
        by_cases hk : k = i
        · rw [if_pos hk, if_pos (by omega), hk]
        · rw [if_neg hk]
          show (if k < i then 17 + 3 * k else 0) = _
          by_cases hk2 : k < i
          · rw [if_pos hk2, if_pos (by omega)]
          · rw [if_neg hk2, if_neg (by omega)]
  refine co_aload_n dX6_init_0 rfl ?_
  refine co_objInit dX6_init_1 lo_X6 wobj (by omega) (Nat.le_of_ble_eq_true rfl) ?_
  refine co_aload_n dX6_init_4 rfl ?_
  refine co_bipush (v := 30) dX6_init_5 (by decide) ?_
  refine co_anew (ix := 5) (len := 30) dX6_init_7 (by omega) lcl_X6_9 hov5 rfl sh_16 (by omega) rfl ⟨by decide, by decide⟩ (by decide) (by decide) (by decide) ?_
  refine co_putR (k := 2) (ty := .array (.object "BellTongue$Season")) dX6_init_10 sh_15 (by omega) rfl inX6 (Nat.le_of_ble_eq_true rfl) lf_X6_11 tyX6 tyX6_ok nmX6 rfl rfl rfl (by decide +kernel) rfl rfl (by omega) ?_
  refine co_iconst (v := 0) dX6_init_13 (by decide) ?_
  refine co_istore_n dX6_init_14 (by decide) rfl ?_
  refine lp 30 0 _ (by omega) (hF0.up.up.wR (by omega)) (MC.nil _ _) i0 l0 ?_ i1 l1 ?_ (fun q hq => (Eq3.rf _ _).wR (by omega))
  · rw [wR_s, z0, zeroL 3, va_upL (by decide)]; rfl
  · rw [wR_n m0 _ _ (by omega), z1]
    funext k
    rw [if_neg (Nat.not_lt_zero k)]
theorem se_128 (i : Nat) (h : i < 30) : SeAt (130 + 3 * i) := by
  have h1 : ∀ i, i < 30 → SH[130 + 3 * i]? = some (5, 8, [0, 0, 0, 0, 0, 130 + 3 * i + 1, 0, 130 + 3 * i + 2]) := by decide +kernel
  have h2 : ∀ i, i < 30 → SH[130 + 3 * i + 1]? = some (100, 24, []) := by decide +kernel
  have h3 : ∀ i, i < 30 → SH[130 + 3 * i + 2]? = some (100, 80, []) := by decide +kernel
  exact ⟨h1 i h, h2 i h, h3 i h⟩
theorem eX6_init_128 (G : GP) (d : Nat) (hov5 : ∀ (U : State) (H : Heap), gZ G U H → va_AO RX5 U) (m0 : Mem) (hF0 : Fz 128 m0) (Q : Nat → Mem → Prop) (hQ : ∀ m', MC 128 220 m' → (∀ q, q < 128 → Eq3 m0 m' q) → Q 220 m') : Ec G (d + 2) mX6_init 91 3390 [.ref (ga G 128)] 129 m0 Q := by
  refine Ec.go [.ref (ga G 128), uu] rfl (by decide) (Nat.le_of_ble_eq_true rfl) rfl ?_
  obtain ⟨i0, l0, z0⟩ := hF0 128 (by omega)
  obtain ⟨i1, l1, z1⟩ := hF0 129 (by omega)
  have lp : ∀ (f i : Nat) (m : Mem), i + f = 30 → Fz (130 + 3 * i) m → MC 130 (130 + 3 * i) m → m.1 128 = (fun _ => 0) → m.2.1 128 = (fun _ => 0) → m.2.2 128 = (fun k => [0, 0, 129].getD k 0) → m.1 129 = (fun _ => 0) → m.2.1 129 = (fun _ => 0) → m.2.2 129 = (fun k => if k < i then 130 + 3 * k else 0) → (∀ q, q < 128 → Eq3 m0 m q) → Gc G (d + 2) mX6_init 91 3390 15 [.ref (ga G 128), .int (nI i)] [] (130 + 3 * i) (1 + 3 * i) (30 + 112 * i) m Q := by
    intro f
    induction f with
    | zero =>
      intro i m e hF hM a1 a2 a3 b1 b2 b3 hq
      have : i = 30 := by omega
      subst this
      refine co_iload_n dX6_init_15 rfl ?_
      refine co_bipush (v := 30) dX6_init_16 (by decide) ?_
      refine co_icmp_ge 40 dX6_init_18 rfl ⟨fun _ => ?_, fun z => absurd ((le_nI (a := 30) (b := 30) (by omega) (by omega)).mpr (Nat.le_refl _)) z⟩
      refine co_ret dX6_init_40 rfl rfl rfl ?_
      refine hQ m (((MC.one (a := 128) (a1.trans (by rw [iM_of sh_128]; rfl)) a2 (a3.trans (by rw [Mr_of sh_128]))).join (MC.one (a := 129) (b1.trans (by rw [iM_of sh_129]; rfl)) b2 (b3.trans ?_))).join hM) hq
      rw [Mr_of sh_129]
      funext k
      by_cases hk : k < 30
      · rw [if_pos hk]
        exact (show ∀ k, k < 30 → 130 + 3 * k = ([130, 133, 136, 139, 142, 145, 148, 151, 154, 157, 160, 163, 166, 169, 172, 175, 178, 181, 184, 187, 190, 193, 196, 199, 202, 205, 208, 211, 214, 217] : List Nat).getD k 0 by decide) k hk
      · rw [if_neg hk, List.getD_eq_getElem?_getD, List.getElem?_eq_none (show ([130, 133, 136, 139, 142, 145, 148, 151, 154, 157, 160, 163, 166, 169, 172, 175, 178, 181, 184, 187, 190, 193, 196, 199, 202, 205, 208, 211, 214, 217] : List Nat).length ≤ k by simp; omega)]; rfl
    | succ f ih =>
      intro i m e hF hM a1 a2 a3 b1 b2 b3 hq
      have hSe : SeAt (130 + 3 * i) := se_128 i (by omega)
      refine co_iload_n dX6_init_15 rfl ?_
      refine co_bipush (v := 30) dX6_init_16 (by decide) ?_
      refine co_icmp_ge 40 dX6_init_18 rfl ⟨fun z => absurd ((le_nI (a := 30) (b := i) (by omega) (by omega)).mp z) (by omega), fun _ => ?_⟩
      refine co_aload_n dX6_init_21 rfl ?_
      refine co_getR (k := 2) (r := 129) dX6_init_22 sh_128 (by omega) rfl inX6 (Nat.le_of_ble_eq_true rfl) lf_X6_11 rfl (by rw [a3]; rfl) (by omega) ?_
      refine co_iload_n dX6_init_25 rfl ?_
      refine co_new dX6_init_26 (by omega) hSe.1 rfl inX5 tyX5 tyX5_ok lcl_X6_9 lin_X5 wi_X5 (by decide) (by omega) (by omega) ?_
      refine co_dup dX6_init_29 rfl ?_
      refine co_callN mX5_init "BellTongue" dX6_init_30 (by omega) ln_X6_17 okX5_init imX5_init rfl rfl (As := []) (S := [.ref (ga G (130 + 3 * i)), .int (nI i), .ref (ga G 129)]) rfl rfl (Nat.le_of_ble_eq_true rfl) (ct' := 2) (st' := 104) (by omega) (by omega) (eX5_init G d hSe m hF (fun n' m' => n' = 130 + 3 * i + 3 ∧ MC (130 + 3 * i) (130 + 3 * i + 3) m' ∧ ∀ q, q < 130 + 3 * i → Eq3 m m' q) (fun m' q1 q2 => ⟨rfl, q1, q2⟩)) (fun n' m1 hq1 hF1 => ?_)
      obtain ⟨en, hM1, hE1⟩ := hq1
      subst en
      refine ⟨by omega, ?_⟩
      refine co_aast (q := 129) (r := 130 + 3 * i) (ix := 5) dX6_init_33 sh_129 (by omega) (by omega) rfl rfl hSe.1 (by omega) (by omega) rfl (in_nI (by omega) (by omega)) ?_
      rw [show (nI i).toNatClampNeg = i from tn_nI (by omega)]
      refine co_iinc (v := nI (i + 1)) dX6_init_34 rfl (nI_succ i).symm (by decide) rfl ?_
      refine co_goto 15 dX6_init_37 rfl ?_
      have e1 : 130 + 3 * i + 3 = 130 + 3 * (i + 1) := by omega
      have e2 : 1 + 3 * i + 1 + 2 = 1 + 3 * (i + 1) := by omega
      have e3 : 30 + 112 * i + 8 + 104 = 30 + 112 * (i + 1) := by omega
      have hFw : Fz (130 + 3 * i + 3) (wR m1 129 i (130 + 3 * i)) := hF1.wR (by omega)
      have hMw : MC 130 (130 + 3 * i + 3) (wR m1 129 i (130 + 3 * i)) := (hM.eq (fun q b1 b2 => (hE1 q b2).wR (by omega))).join (hM1.eq (fun q b1 b2 => (Eq3.rf _ _).wR (by omega)))
      have hAq := hE1 128 (by omega)
      have hRq := hE1 129 (by omega)
      rw [e1] at hFw hMw
      rw [e1, e2, e3]
      refine ih (i + 1) _ (by omega) hFw hMw (hAq.1.trans a1) (hAq.2.1.trans a2) ?_ (hRq.1.trans b1) (hRq.2.1.trans b2) ?_ (fun q hq2 => (hq q hq2).tr ((hE1 q (by omega)).wR (by omega)))
      · rw [wR_n m1 _ _ (by omega)]; exact hAq.2.2.trans a3
      · rw [wR_s, hRq.2.2, b3]
        funext k
        unfold va_up
        by_cases hk : k = i
        · rw [if_pos hk, if_pos (by omega), hk]
        · rw [if_neg hk]
          show (if k < i then 130 + 3 * k else 0) = _
          by_cases hk2 : k < i
          · rw [if_pos hk2, if_pos (by omega)]
          · rw [if_neg hk2, if_neg (by omega)]
  refine co_aload_n dX6_init_0 rfl ?_
  refine co_objInit dX6_init_1 lo_X6 wobj (by omega) (Nat.le_of_ble_eq_true rfl) ?_
  refine co_aload_n dX6_init_4 rfl ?_
  refine co_bipush (v := 30) dX6_init_5 (by decide) ?_
  refine co_anew (ix := 5) (len := 30) dX6_init_7 (by omega) lcl_X6_9 hov5 rfl sh_129 (by omega) rfl ⟨by decide, by decide⟩ (by decide) (by decide) (by decide) ?_
  refine co_putR (k := 2) (ty := .array (.object "BellTongue$Season")) dX6_init_10 sh_128 (by omega) rfl inX6 (Nat.le_of_ble_eq_true rfl) lf_X6_11 tyX6 tyX6_ok nmX6 rfl rfl rfl (by decide +kernel) rfl rfl (by omega) ?_
  refine co_iconst (v := 0) dX6_init_13 (by decide) ?_
  refine co_istore_n dX6_init_14 (by decide) rfl ?_
  refine lp 30 0 _ (by omega) (hF0.up.up.wR (by omega)) (MC.nil _ _) i0 l0 ?_ i1 l1 ?_ (fun q hq => (Eq3.rf _ _).wR (by omega))
  · rw [wR_s, z0, zeroL 3, va_upL (by decide)]; rfl
  · rw [wR_n m0 _ _ (by omega), z1]
    funext k
    rw [if_neg (Nat.not_lt_zero k)]
theorem eX10_init_1 (G : GP) (d : Nat) (hov5 : ∀ (U : State) (H : Heap), gZ G U H → va_AO RX5 U) (m0 : Mem) (hF0 : Fz 1 m0) (Q : Nat → Mem → Prop) (hQ : ∀ m', MC 1 114 m' → (∀ q, q < 1 → Eq3 m0 m' q) → Q 114 m') : Ec G (d + 3) mX10_init 112 3688 [.ref (ga G 1)] 2 m0 Q := by
  refine Ec.go [.ref (ga G 1)] rfl (by decide) (Nat.le_of_ble_eq_true rfl) rfl ?_
  obtain ⟨i0_1, l0_1, z0_1⟩ := hF0 1 (by omega)
  have r0_1 : m0.2.2 1 = fun k => [0, 0, 0, 0, 0, 0, 0].getD k 0 := by rw [z0_1, zeroL 7]; rfl
  have hF : Fz 2 m0 := hF0.up
  refine co_aload_n dX10_init_0 rfl ?_
  refine co_objInit dX10_init_1 lo_X10 wobj (by omega) (Nat.le_of_ble_eq_true rfl) ?_
  refine co_aload_n dX10_init_4 rfl ?_
  refine co_new dX10_init_5 (by omega) sh_2 rfl inX2 tyX2 tyX2_ok lcl_X10_9 lin_X2 wi_X2 (by decide) (by decide) (by decide) ?_
  refine co_dup dX10_init_8 rfl ?_
  have hZ1 : Fz 2 m0 := hF
  refine co_callN mX2_init "BellTongue" dX10_init_9 (by omega) ln_X10_11 okX2_init imX2_init rfl rfl (As := []) (S := [.ref (ga G 2), .ref (ga G 1)]) rfl rfl (Nat.le_of_ble_eq_true rfl) (by decide) (by decide) (eX2_init_2 G (d + 1) m0 hZ1 (fun n' m' => n' = 12 ∧ MC 2 12 m' ∧ ∀ q, q < 2 → Eq3 m0 m' q) (fun m' q1 q2 => ⟨rfl, q1, q2⟩)) (fun n' m1 hq hF1 => ?_)
  obtain ⟨rfl, hM1, hE1⟩ := hq
  refine ⟨rfl, ?_⟩
  have r1_1 := (hE1 1 (by omega)).2.2.trans r0_1
  have i1_1 := (hE1 1 (by omega)).1.trans i0_1
  have l1_1 := (hE1 1 (by omega)).2.1.trans l0_1
  refine co_putR (k := 0) (ty := .object "BellTongue$Lexicon") dX10_init_12 sh_1 (by omega) rfl inX10 (Nat.le_of_ble_eq_true rfl) lf_X10_12 tyX10 tyX10_ok nmX10 rfl rfl rfl (by decide +kernel) rfl rfl (by omega) ?_
  obtain ⟨m2, e2⟩ : ∃ z : Mem, z = wR m1 1 0 2 := ⟨_, rfl⟩
  rw [← e2]
  have hF2 : Fz 12 m2 := by rw [e2]; exact hF1.wR (by omega)
  have r2_1 : m2.2.2 1 = fun k => [2, 0, 0, 0, 0, 0, 0].getD k 0 := by rw [e2, wR_s, r1_1, va_upL (by decide)]; rfl
  have i2_1 : m2.1 1 = (fun _ => 0) := by rw [e2]; exact i1_1
  have l2_1 : m2.2.1 1 = (fun _ => 0) := by rw [e2]; exact l1_1
  have q2 : ∀ q, q ≠ 1 → Eq3 m1 m2 q := fun q h => by rw [e2]; exact (Eq3.rf _ _).wR h
  refine co_aload_n dX10_init_15 rfl ?_
  refine co_new dX10_init_16 (by omega) sh_12 rfl inX5 tyX5 tyX5_ok lcl_X10_18 lin_X5 wi_X5 (by decide) (by decide) (by decide) ?_
  refine co_dup dX10_init_19 rfl ?_
  have hZ3 : Fz 12 m2 := hF2
  refine co_callN mX5_init "BellTongue" dX10_init_20 (by omega) ln_X10_20 okX5_init imX5_init rfl rfl (As := []) (S := [.ref (ga G 12), .ref (ga G 1)]) rfl rfl (Nat.le_of_ble_eq_true rfl) (by decide) (by decide) (eX5_init G (d + 1) ⟨sh_12, sh_13, sh_14⟩ m2 hZ3 (fun n' m' => n' = 15 ∧ MC 12 15 m' ∧ ∀ q, q < 12 → Eq3 m2 m' q) (fun m' q1 q2 => ⟨rfl, q1, q2⟩)) (fun n' m3 hq hF3 => ?_)
  obtain ⟨rfl, hM3, hE3⟩ := hq
  refine ⟨rfl, ?_⟩
  have r3_1 := (hE3 1 (by omega)).2.2.trans r2_1
  have i3_1 := (hE3 1 (by omega)).1.trans i2_1
  have l3_1 := (hE3 1 (by omega)).2.1.trans l2_1
  refine co_putR (k := 1) (ty := .object "BellTongue$Season") dX10_init_23 sh_1 (by omega) rfl inX10 (Nat.le_of_ble_eq_true rfl) lf_X10_21 tyX10 tyX10_ok nmX10 rfl rfl rfl (by decide +kernel) rfl rfl (by omega) ?_
  obtain ⟨m4, e4⟩ : ∃ z : Mem, z = wR m3 1 1 12 := ⟨_, rfl⟩
  rw [← e4]
  have hF4 : Fz 15 m4 := by rw [e4]; exact hF3.wR (by omega)
  have r4_1 : m4.2.2 1 = fun k => [2, 12, 0, 0, 0, 0, 0].getD k 0 := by rw [e4, wR_s, r3_1, va_upL (by decide)]; rfl
  have i4_1 : m4.1 1 = (fun _ => 0) := by rw [e4]; exact i3_1
  have l4_1 : m4.2.1 1 = (fun _ => 0) := by rw [e4]; exact l3_1
  have q4 : ∀ q, q ≠ 1 → Eq3 m3 m4 q := fun q h => by rw [e4]; exact (Eq3.rf _ _).wR h
  refine co_aload_n dX10_init_26 rfl ?_
  refine co_new dX10_init_27 (by omega) sh_15 rfl inX6 tyX6 tyX6_ok lcl_X10_25 lin_X6 wi_X6 (by decide) (by decide) (by decide) ?_
  refine co_dup dX10_init_30 rfl ?_
  have hZ5 : Fz 15 m4 := hF4
  refine co_callI mX6_init dX10_init_31 (by omega) lm_X10_27 okX6_init imX6_init rfl rfl (As := []) (S := [.ref (ga G 15), .ref (ga G 1)]) rfl rfl (Nat.le_of_ble_eq_true rfl) (by decide) (by decide) (eX6_init_15 G d hov5 m4 hZ5 (fun n' m' => n' = 107 ∧ MC 15 107 m' ∧ ∀ q, q < 15 → Eq3 m4 m' q) (fun m' q1 q2 => ⟨rfl, q1, q2⟩)) (fun n' m5 hq hF5 => ?_)
  obtain ⟨rfl, hM5, hE5⟩ := hq
  refine ⟨rfl, ?_⟩
  have r5_1 := (hE5 1 (by omega)).2.2.trans r4_1
  have i5_1 := (hE5 1 (by omega)).1.trans i4_1
  have l5_1 := (hE5 1 (by omega)).2.1.trans l4_1
  refine co_putR (k := 2) (ty := .object "BellTongue$Steps") dX10_init_34 sh_1 (by omega) rfl inX10 (Nat.le_of_ble_eq_true rfl) lf_X10_28 tyX10 tyX10_ok nmX10 rfl rfl rfl (by decide +kernel) rfl rfl (by omega) ?_
  obtain ⟨m6, e6⟩ : ∃ z : Mem, z = wR m5 1 2 15 := ⟨_, rfl⟩
  rw [← e6]
  have hF6 : Fz 107 m6 := by rw [e6]; exact hF5.wR (by omega)
  have r6_1 : m6.2.2 1 = fun k => [2, 12, 15, 0, 0, 0, 0].getD k 0 := by rw [e6, wR_s, r5_1, va_upL (by decide)]; rfl
  have i6_1 : m6.1 1 = (fun _ => 0) := by rw [e6]; exact i5_1
  have l6_1 : m6.2.1 1 = (fun _ => 0) := by rw [e6]; exact l5_1
  have q6 : ∀ q, q ≠ 1 → Eq3 m5 m6 q := fun q h => by rw [e6]; exact (Eq3.rf _ _).wR h
  refine co_aload_n dX10_init_37 rfl ?_
  refine co_new dX10_init_38 (by omega) sh_107 rfl inX9 tyX9 tyX9_ok lcl_X10_32 lin_X9 wi_X9 (by decide) (by decide) (by decide) ?_
  refine co_dup dX10_init_41 rfl ?_
  have hZ7 : Fz 107 m6 := hF6
  refine co_callN mX9_init "BellTongue" dX10_init_42 (by omega) ln_X10_34 okX9_init imX9_init rfl rfl (As := []) (S := [.ref (ga G 107), .ref (ga G 1)]) rfl rfl (Nat.le_of_ble_eq_true rfl) (by decide) (by decide) (eX9_init_107 G (d + 1) m6 hZ7 (fun n' m' => n' = 114 ∧ MC 107 114 m' ∧ ∀ q, q < 107 → Eq3 m6 m' q) (fun m' q1 q2 => ⟨rfl, q1, q2⟩)) (fun n' m7 hq hF7 => ?_)
  obtain ⟨rfl, hM7, hE7⟩ := hq
  refine ⟨rfl, ?_⟩
  have r7_1 := (hE7 1 (by omega)).2.2.trans r6_1
  have i7_1 := (hE7 1 (by omega)).1.trans i6_1
  have l7_1 := (hE7 1 (by omega)).2.1.trans l6_1
  refine co_putR (k := 3) (ty := .object "BellTongue$Told") dX10_init_45 sh_1 (by omega) rfl inX10 (Nat.le_of_ble_eq_true rfl) lf_X10_35 tyX10 tyX10_ok nmX10 rfl rfl rfl (by decide +kernel) rfl rfl (by omega) ?_
  obtain ⟨m8, e8⟩ : ∃ z : Mem, z = wR m7 1 3 107 := ⟨_, rfl⟩
  rw [← e8]
  have hF8 : Fz 114 m8 := by rw [e8]; exact hF7.wR (by omega)
  have r8_1 : m8.2.2 1 = fun k => [2, 12, 15, 107, 0, 0, 0].getD k 0 := by rw [e8, wR_s, r7_1, va_upL (by decide)]; rfl
  have i8_1 : m8.1 1 = (fun _ => 0) := by rw [e8]; exact i7_1
  have l8_1 : m8.2.1 1 = (fun _ => 0) := by rw [e8]; exact l7_1
  have q8 : ∀ q, q ≠ 1 → Eq3 m7 m8 q := fun q h => by rw [e8]; exact (Eq3.rf _ _).wR h
  refine co_aload_n dX10_init_48 rfl ?_
  refine co_bipush (v := 9) dX10_init_49 (by decide) ?_
  refine co_putI (k := 4) dX10_init_51 sh_1 (by omega) rfl inX10 (Nat.le_of_ble_eq_true rfl) lf_X10_39 tyX10 tyX10_ok nmX10 rfl rfl (by decide +kernel) ?_
  obtain ⟨m9, e9⟩ : ∃ z : Mem, z = wI m8 1 4 9 := ⟨_, rfl⟩
  rw [← e9]
  have hF9 : Fz 114 m9 := by rw [e9]; exact hF8.wI (by omega)
  have r9_1 : m9.2.2 1 = fun k => [2, 12, 15, 107, 0, 0, 0].getD k 0 := by rw [e9]; exact r8_1
  have i9_1 : m9.1 1 = (upd (fun _ => 0) 4 9) := by rw [e9, wI_s, i8_1]
  have l9_1 : m9.2.1 1 = (fun _ => 0) := by rw [e9]; exact l8_1
  have q9 : ∀ q, q ≠ 1 → Eq3 m8 m9 q := fun q h => by rw [e9]; exact (Eq3.rf _ _).wI h
  refine co_aload_n dX10_init_54 rfl ?_
  refine co_iconst (v := -1) dX10_init_55 (by decide) ?_
  refine co_putI (k := 6) dX10_init_56 sh_1 (by omega) rfl inX10 (Nat.le_of_ble_eq_true rfl) lf_X10_43 tyX10 tyX10_ok nmX10 rfl rfl (by decide +kernel) ?_
  obtain ⟨m10, e10⟩ : ∃ z : Mem, z = wI m9 1 6 (-1) := ⟨_, rfl⟩
  rw [← e10]
  have hF10 : Fz 114 m10 := by rw [e10]; exact hF9.wI (by omega)
  have r10_1 : m10.2.2 1 = fun k => [2, 12, 15, 107, 0, 0, 0].getD k 0 := by rw [e10]; exact r9_1
  have i10_1 : m10.1 1 = (upd (upd (fun _ => 0) 4 9) 6 (-1)) := by rw [e10, wI_s, i9_1]
  have l10_1 : m10.2.1 1 = (fun _ => 0) := by rw [e10]; exact l9_1
  have q10 : ∀ q, q ≠ 1 → Eq3 m9 m10 q := fun q h => by rw [e10]; exact (Eq3.rf _ _).wI h
  refine co_ret dX10_init_59 rfl rfl rfl ?_
  have E10 : ∀ q, q ≠ 1 → Eq3 m10 m10 q := fun q h1 => Eq3.rf _ _
  have E9 : ∀ q, q ≠ 1 → Eq3 m9 m10 q := fun q h1 => (q10 q h1).tr (E10 q h1)
  have E8 : ∀ q, q ≠ 1 → Eq3 m8 m10 q := fun q h1 => (q9 q h1).tr (E9 q h1)
  have E7 : ∀ q, q ≠ 1 → Eq3 m7 m10 q := fun q h1 => (q8 q h1).tr (E8 q h1)
  have E6 : ∀ q, q ≠ 1 → q < 107 → Eq3 m6 m10 q := fun q h1 b => (hE7 q b).tr (E7 q h1)
  have E5 : ∀ q, q ≠ 1 → q < 107 → Eq3 m5 m10 q := fun q h1 b => (q6 q h1).tr (E6 q h1 b)
  have E4 : ∀ q, q ≠ 1 → q < 15 → Eq3 m4 m10 q := fun q h1 b => (hE5 q b).tr (E5 q h1 (by omega))
  have E3 : ∀ q, q ≠ 1 → q < 15 → Eq3 m3 m10 q := fun q h1 b => (q4 q h1).tr (E4 q h1 b)
  have E2 : ∀ q, q ≠ 1 → q < 12 → Eq3 m2 m10 q := fun q h1 b => (hE3 q b).tr (E3 q h1 (by omega))
  have E1 : ∀ q, q ≠ 1 → q < 12 → Eq3 m1 m10 q := fun q h1 b => (q2 q h1).tr (E2 q h1 b)
  have E0 : ∀ q, q ≠ 1 → q < 2 → Eq3 m0 m10 q := fun q h1 b => (hE1 q b).tr (E1 q h1 (by omega))
  exact hQ m10 (((((MC.one (a := 1) (i10_1.trans (by rw [iM_of sh_1]; rfl)) l10_1 (r10_1.trans (by rw [Mr_of sh_1]))).join (hM1.eq (fun q b1 b2 => E1 q (by omega) (by omega)))).join (hM3.eq (fun q b1 b2 => E3 q (by omega) (by omega)))).join (hM5.eq (fun q b1 b2 => E5 q (by omega) (by omega)))).join (hM7.eq (fun q b1 b2 => E7 q (by omega)))) (fun q b => E0 q (by omega) (by omega))
theorem eX10_init_114 (G : GP) (d : Nat) (hov5 : ∀ (U : State) (H : Heap), gZ G U H → va_AO RX5 U) (m0 : Mem) (hF0 : Fz 114 m0) (Q : Nat → Mem → Prop) (hQ : ∀ m', MC 114 227 m' → (∀ q, q < 114 → Eq3 m0 m' q) → Q 227 m') : Ec G (d + 3) mX10_init 112 3688 [.ref (ga G 114)] 115 m0 Q := by
  refine Ec.go [.ref (ga G 114)] rfl (by decide) (Nat.le_of_ble_eq_true rfl) rfl ?_
  obtain ⟨i0_114, l0_114, z0_114⟩ := hF0 114 (by omega)
  have r0_114 : m0.2.2 114 = fun k => [0, 0, 0, 0, 0, 0, 0].getD k 0 := by rw [z0_114, zeroL 7]; rfl
  have hF : Fz 115 m0 := hF0.up
  refine co_aload_n dX10_init_0 rfl ?_
  refine co_objInit dX10_init_1 lo_X10 wobj (by omega) (Nat.le_of_ble_eq_true rfl) ?_
  refine co_aload_n dX10_init_4 rfl ?_
  refine co_new dX10_init_5 (by omega) sh_115 rfl inX2 tyX2 tyX2_ok lcl_X10_9 lin_X2 wi_X2 (by decide) (by decide) (by decide) ?_
  refine co_dup dX10_init_8 rfl ?_
  have hZ1 : Fz 115 m0 := hF
  refine co_callN mX2_init "BellTongue" dX10_init_9 (by omega) ln_X10_11 okX2_init imX2_init rfl rfl (As := []) (S := [.ref (ga G 115), .ref (ga G 114)]) rfl rfl (Nat.le_of_ble_eq_true rfl) (by decide) (by decide) (eX2_init_115 G (d + 1) m0 hZ1 (fun n' m' => n' = 125 ∧ MC 115 125 m' ∧ ∀ q, q < 115 → Eq3 m0 m' q) (fun m' q1 q2 => ⟨rfl, q1, q2⟩)) (fun n' m1 hq hF1 => ?_)
  obtain ⟨rfl, hM1, hE1⟩ := hq
  refine ⟨rfl, ?_⟩
  have r1_114 := (hE1 114 (by omega)).2.2.trans r0_114
  have i1_114 := (hE1 114 (by omega)).1.trans i0_114
  have l1_114 := (hE1 114 (by omega)).2.1.trans l0_114
  refine co_putR (k := 0) (ty := .object "BellTongue$Lexicon") dX10_init_12 sh_114 (by omega) rfl inX10 (Nat.le_of_ble_eq_true rfl) lf_X10_12 tyX10 tyX10_ok nmX10 rfl rfl rfl (by decide +kernel) rfl rfl (by omega) ?_
  obtain ⟨m2, e2⟩ : ∃ z : Mem, z = wR m1 114 0 115 := ⟨_, rfl⟩
  rw [← e2]
  have hF2 : Fz 125 m2 := by rw [e2]; exact hF1.wR (by omega)
  have r2_114 : m2.2.2 114 = fun k => [115, 0, 0, 0, 0, 0, 0].getD k 0 := by rw [e2, wR_s, r1_114, va_upL (by decide)]; rfl
  have i2_114 : m2.1 114 = (fun _ => 0) := by rw [e2]; exact i1_114
  have l2_114 : m2.2.1 114 = (fun _ => 0) := by rw [e2]; exact l1_114
  have q2 : ∀ q, q ≠ 114 → Eq3 m1 m2 q := fun q h => by rw [e2]; exact (Eq3.rf _ _).wR h
  refine co_aload_n dX10_init_15 rfl ?_
  refine co_new dX10_init_16 (by omega) sh_125 rfl inX5 tyX5 tyX5_ok lcl_X10_18 lin_X5 wi_X5 (by decide) (by decide) (by decide) ?_
  refine co_dup dX10_init_19 rfl ?_
  have hZ3 : Fz 125 m2 := hF2
  refine co_callN mX5_init "BellTongue" dX10_init_20 (by omega) ln_X10_20 okX5_init imX5_init rfl rfl (As := []) (S := [.ref (ga G 125), .ref (ga G 114)]) rfl rfl (Nat.le_of_ble_eq_true rfl) (by decide) (by decide) (eX5_init G (d + 1) ⟨sh_125, sh_126, sh_127⟩ m2 hZ3 (fun n' m' => n' = 128 ∧ MC 125 128 m' ∧ ∀ q, q < 125 → Eq3 m2 m' q) (fun m' q1 q2 => ⟨rfl, q1, q2⟩)) (fun n' m3 hq hF3 => ?_)
  obtain ⟨rfl, hM3, hE3⟩ := hq
  refine ⟨rfl, ?_⟩
  have r3_114 := (hE3 114 (by omega)).2.2.trans r2_114
  have i3_114 := (hE3 114 (by omega)).1.trans i2_114
  have l3_114 := (hE3 114 (by omega)).2.1.trans l2_114
  refine co_putR (k := 1) (ty := .object "BellTongue$Season") dX10_init_23 sh_114 (by omega) rfl inX10 (Nat.le_of_ble_eq_true rfl) lf_X10_21 tyX10 tyX10_ok nmX10 rfl rfl rfl (by decide +kernel) rfl rfl (by omega) ?_
  obtain ⟨m4, e4⟩ : ∃ z : Mem, z = wR m3 114 1 125 := ⟨_, rfl⟩
  rw [← e4]
  have hF4 : Fz 128 m4 := by rw [e4]; exact hF3.wR (by omega)
  have r4_114 : m4.2.2 114 = fun k => [115, 125, 0, 0, 0, 0, 0].getD k 0 := by rw [e4, wR_s, r3_114, va_upL (by decide)]; rfl
  have i4_114 : m4.1 114 = (fun _ => 0) := by rw [e4]; exact i3_114
  have l4_114 : m4.2.1 114 = (fun _ => 0) := by rw [e4]; exact l3_114
  have q4 : ∀ q, q ≠ 114 → Eq3 m3 m4 q := fun q h => by rw [e4]; exact (Eq3.rf _ _).wR h
  refine co_aload_n dX10_init_26 rfl ?_
  refine co_new dX10_init_27 (by omega) sh_128 rfl inX6 tyX6 tyX6_ok lcl_X10_25 lin_X6 wi_X6 (by decide) (by decide) (by decide) ?_
  refine co_dup dX10_init_30 rfl ?_
  have hZ5 : Fz 128 m4 := hF4
  refine co_callI mX6_init dX10_init_31 (by omega) lm_X10_27 okX6_init imX6_init rfl rfl (As := []) (S := [.ref (ga G 128), .ref (ga G 114)]) rfl rfl (Nat.le_of_ble_eq_true rfl) (by decide) (by decide) (eX6_init_128 G d hov5 m4 hZ5 (fun n' m' => n' = 220 ∧ MC 128 220 m' ∧ ∀ q, q < 128 → Eq3 m4 m' q) (fun m' q1 q2 => ⟨rfl, q1, q2⟩)) (fun n' m5 hq hF5 => ?_)
  obtain ⟨rfl, hM5, hE5⟩ := hq
  refine ⟨rfl, ?_⟩
  have r5_114 := (hE5 114 (by omega)).2.2.trans r4_114
  have i5_114 := (hE5 114 (by omega)).1.trans i4_114
  have l5_114 := (hE5 114 (by omega)).2.1.trans l4_114
  refine co_putR (k := 2) (ty := .object "BellTongue$Steps") dX10_init_34 sh_114 (by omega) rfl inX10 (Nat.le_of_ble_eq_true rfl) lf_X10_28 tyX10 tyX10_ok nmX10 rfl rfl rfl (by decide +kernel) rfl rfl (by omega) ?_
  obtain ⟨m6, e6⟩ : ∃ z : Mem, z = wR m5 114 2 128 := ⟨_, rfl⟩
  rw [← e6]
  have hF6 : Fz 220 m6 := by rw [e6]; exact hF5.wR (by omega)
  have r6_114 : m6.2.2 114 = fun k => [115, 125, 128, 0, 0, 0, 0].getD k 0 := by rw [e6, wR_s, r5_114, va_upL (by decide)]; rfl
  have i6_114 : m6.1 114 = (fun _ => 0) := by rw [e6]; exact i5_114
  have l6_114 : m6.2.1 114 = (fun _ => 0) := by rw [e6]; exact l5_114
  have q6 : ∀ q, q ≠ 114 → Eq3 m5 m6 q := fun q h => by rw [e6]; exact (Eq3.rf _ _).wR h
  refine co_aload_n dX10_init_37 rfl ?_
  refine co_new dX10_init_38 (by omega) sh_220 rfl inX9 tyX9 tyX9_ok lcl_X10_32 lin_X9 wi_X9 (by decide) (by decide) (by decide) ?_
  refine co_dup dX10_init_41 rfl ?_
  have hZ7 : Fz 220 m6 := hF6
  refine co_callN mX9_init "BellTongue" dX10_init_42 (by omega) ln_X10_34 okX9_init imX9_init rfl rfl (As := []) (S := [.ref (ga G 220), .ref (ga G 114)]) rfl rfl (Nat.le_of_ble_eq_true rfl) (by decide) (by decide) (eX9_init_220 G (d + 1) m6 hZ7 (fun n' m' => n' = 227 ∧ MC 220 227 m' ∧ ∀ q, q < 220 → Eq3 m6 m' q) (fun m' q1 q2 => ⟨rfl, q1, q2⟩)) (fun n' m7 hq hF7 => ?_)
  obtain ⟨rfl, hM7, hE7⟩ := hq
  refine ⟨rfl, ?_⟩
  have r7_114 := (hE7 114 (by omega)).2.2.trans r6_114
  have i7_114 := (hE7 114 (by omega)).1.trans i6_114
  have l7_114 := (hE7 114 (by omega)).2.1.trans l6_114
  refine co_putR (k := 3) (ty := .object "BellTongue$Told") dX10_init_45 sh_114 (by omega) rfl inX10 (Nat.le_of_ble_eq_true rfl) lf_X10_35 tyX10 tyX10_ok nmX10 rfl rfl rfl (by decide +kernel) rfl rfl (by omega) ?_
  obtain ⟨m8, e8⟩ : ∃ z : Mem, z = wR m7 114 3 220 := ⟨_, rfl⟩
  rw [← e8]
  have hF8 : Fz 227 m8 := by rw [e8]; exact hF7.wR (by omega)
  have r8_114 : m8.2.2 114 = fun k => [115, 125, 128, 220, 0, 0, 0].getD k 0 := by rw [e8, wR_s, r7_114, va_upL (by decide)]; rfl
  have i8_114 : m8.1 114 = (fun _ => 0) := by rw [e8]; exact i7_114
  have l8_114 : m8.2.1 114 = (fun _ => 0) := by rw [e8]; exact l7_114
  have q8 : ∀ q, q ≠ 114 → Eq3 m7 m8 q := fun q h => by rw [e8]; exact (Eq3.rf _ _).wR h
  refine co_aload_n dX10_init_48 rfl ?_
  refine co_bipush (v := 9) dX10_init_49 (by decide) ?_
  refine co_putI (k := 4) dX10_init_51 sh_114 (by omega) rfl inX10 (Nat.le_of_ble_eq_true rfl) lf_X10_39 tyX10 tyX10_ok nmX10 rfl rfl (by decide +kernel) ?_
  obtain ⟨m9, e9⟩ : ∃ z : Mem, z = wI m8 114 4 9 := ⟨_, rfl⟩
  rw [← e9]
  have hF9 : Fz 227 m9 := by rw [e9]; exact hF8.wI (by omega)
  have r9_114 : m9.2.2 114 = fun k => [115, 125, 128, 220, 0, 0, 0].getD k 0 := by rw [e9]; exact r8_114
  have i9_114 : m9.1 114 = (upd (fun _ => 0) 4 9) := by rw [e9, wI_s, i8_114]
  have l9_114 : m9.2.1 114 = (fun _ => 0) := by rw [e9]; exact l8_114
  have q9 : ∀ q, q ≠ 114 → Eq3 m8 m9 q := fun q h => by rw [e9]; exact (Eq3.rf _ _).wI h
  refine co_aload_n dX10_init_54 rfl ?_
  refine co_iconst (v := -1) dX10_init_55 (by decide) ?_
  refine co_putI (k := 6) dX10_init_56 sh_114 (by omega) rfl inX10 (Nat.le_of_ble_eq_true rfl) lf_X10_43 tyX10 tyX10_ok nmX10 rfl rfl (by decide +kernel) ?_
  obtain ⟨m10, e10⟩ : ∃ z : Mem, z = wI m9 114 6 (-1) := ⟨_, rfl⟩
  rw [← e10]
  have hF10 : Fz 227 m10 := by rw [e10]; exact hF9.wI (by omega)
  have r10_114 : m10.2.2 114 = fun k => [115, 125, 128, 220, 0, 0, 0].getD k 0 := by rw [e10]; exact r9_114
  have i10_114 : m10.1 114 = (upd (upd (fun _ => 0) 4 9) 6 (-1)) := by rw [e10, wI_s, i9_114]
  have l10_114 : m10.2.1 114 = (fun _ => 0) := by rw [e10]; exact l9_114
  have q10 : ∀ q, q ≠ 114 → Eq3 m9 m10 q := fun q h => by rw [e10]; exact (Eq3.rf _ _).wI h
  refine co_ret dX10_init_59 rfl rfl rfl ?_
  have E10 : ∀ q, q ≠ 114 → Eq3 m10 m10 q := fun q h114 => Eq3.rf _ _
  have E9 : ∀ q, q ≠ 114 → Eq3 m9 m10 q := fun q h114 => (q10 q h114).tr (E10 q h114)
  have E8 : ∀ q, q ≠ 114 → Eq3 m8 m10 q := fun q h114 => (q9 q h114).tr (E9 q h114)
  have E7 : ∀ q, q ≠ 114 → Eq3 m7 m10 q := fun q h114 => (q8 q h114).tr (E8 q h114)
  have E6 : ∀ q, q ≠ 114 → q < 220 → Eq3 m6 m10 q := fun q h114 b => (hE7 q b).tr (E7 q h114)
  have E5 : ∀ q, q ≠ 114 → q < 220 → Eq3 m5 m10 q := fun q h114 b => (q6 q h114).tr (E6 q h114 b)
  have E4 : ∀ q, q ≠ 114 → q < 128 → Eq3 m4 m10 q := fun q h114 b => (hE5 q b).tr (E5 q h114 (by omega))
  have E3 : ∀ q, q ≠ 114 → q < 128 → Eq3 m3 m10 q := fun q h114 b => (q4 q h114).tr (E4 q h114 b)
  have E2 : ∀ q, q ≠ 114 → q < 125 → Eq3 m2 m10 q := fun q h114 b => (hE3 q b).tr (E3 q h114 (by omega))
  have E1 : ∀ q, q ≠ 114 → q < 125 → Eq3 m1 m10 q := fun q h114 b => (q2 q h114).tr (E2 q h114 b)
  have E0 : ∀ q, q ≠ 114 → q < 115 → Eq3 m0 m10 q := fun q h114 b => (hE1 q b).tr (E1 q h114 (by omega))
  exact hQ m10 (((((MC.one (a := 114) (i10_114.trans (by rw [iM_of sh_114]; rfl)) l10_114 (r10_114.trans (by rw [Mr_of sh_114]))).join (hM1.eq (fun q b1 b2 => E1 q (by omega) (by omega)))).join (hM3.eq (fun q b1 b2 => E3 q (by omega) (by omega)))).join (hM5.eq (fun q b1 b2 => E5 q (by omega) (by omega)))).join (hM7.eq (fun q b1 b2 => E7 q (by omega)))) (fun q b => E0 q (by omega) (by omega))
