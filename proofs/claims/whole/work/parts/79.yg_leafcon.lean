/-! CONSTRUCTORS THAT MAKE ROWS ALONE -/
def iC (kd : Nat) : Nat → Int32 := if kd = 3 then upd (upd (fun _ => 0) 0 (-1)) 1 (-1) else if kd = 5 then upd (upd (fun _ => 0) 0 2) 3 101 else if kd = 10 then upd (upd (fun _ => 0) 4 9) 6 (-1) else if kd = 12 then upd (upd (fun _ => 0) 6 (-1)) 7 (-1) else fun _ => 0
def iM (q : Nat) : Nat → Int32 := match SH[q]? with
  | some t => iC t.1
  | none => fun _ => 0
def Mr (q : Nat) : Nat → Nat := match SH[q]? with
  | some t => fun k => t.2.2.getD k 0
  | none => fun _ => 0
theorem iM_of {q kd len : Nat} {refs : List Nat} (h : SH[q]? = some (kd, len, refs)) : iM q = iC kd := by unfold iM; rw [h]
theorem Mr_of {q kd len : Nat} {refs : List Nat} (h : SH[q]? = some (kd, len, refs)) : Mr q = fun k => refs.getD k 0 := by unfold Mr; rw [h]
def MC (a b : Nat) (m : Mem) : Prop := ∀ q, a ≤ q → q < b → m.1 q = iM q ∧ m.2.1 q = (fun _ => 0) ∧ m.2.2 q = Mr q
def Eq3 (m m' : Mem) (q : Nat) : Prop := m'.1 q = m.1 q ∧ m'.2.1 q = m.2.1 q ∧ m'.2.2 q = m.2.2 q
theorem Eq3.rf (m : Mem) (q : Nat) : Eq3 m m q := ⟨rfl, rfl, rfl⟩
theorem Eq3.tr {a b c : Mem} {q : Nat} (h : Eq3 a b q) (k : Eq3 b c q) : Eq3 a c q := ⟨k.1.trans h.1, k.2.1.trans h.2.1, k.2.2.trans h.2.2⟩
theorem Eq3.wI {a b : Mem} {q : Nat} (h : Eq3 a b q) {c k : Nat} {v : Int32} (hq : q ≠ c) : Eq3 a (wI b c k v) q := h.tr ⟨wI_n b k v hq, rfl, rfl⟩
theorem Eq3.wR {a b : Mem} {q : Nat} (h : Eq3 a b q) {c k r : Nat} (hq : q ≠ c) : Eq3 a (wR b c k r) q := h.tr ⟨rfl, rfl, wR_n b k r hq⟩
theorem MC.join {a b c : Nat} {m : Mem} (h : MC a b m) (k : MC b c m) : MC a c m := fun q h1 h2 => by
  rcases Nat.lt_or_ge q b with z | z
  · exact h q h1 z
  · exact k q z h2
theorem MC.eq {a b : Nat} {m m' : Mem} (h : MC a b m) (k : ∀ q, a ≤ q → q < b → Eq3 m m' q) : MC a b m' := fun q h1 h2 => by
  obtain ⟨k1, k2, k3⟩ := k q h1 h2
  rw [k1, k2, k3]; exact h q h1 h2
theorem MC.nil (a : Nat) (m : Mem) : MC a a m := fun q h1 h2 => absurd h2 (by omega)
theorem MC.one {a : Nat} {m : Mem} (h1 : m.1 a = iM a) (h2 : m.2.1 a = (fun _ => 0)) (h3 : m.2.2 a = Mr a) : MC a (a + 1) m := fun q q1 q2 => by
  have : q = a := by omega
  subst this
  exact ⟨h1, h2, h3⟩
/-- a row that is new -/
theorem MC.row {a c kd len : Nat} {m m' : Mem} (hs : SH[a]? = some (kd, len, [])) (hk : 100 ≤ kd) (hz : Fz c m) (hc : c ≤ a) (he : Eq3 m m' a) : MC a (a + 1) m' := by
  obtain ⟨z1, z2, z3⟩ := hz a hc
  refine MC.one ?_ (by rw [he.2.1, z2]) ?_
  · rw [he.1, z1, iM_of hs]; unfold iC; rw [if_neg (by omega), if_neg (by omega), if_neg (by omega), if_neg (by omega)]
  · rw [he.2.2, z3, Mr_of hs]; rfl
theorem va_upL {l : List Nat} {i r : Nat} (h : i < l.length) : va_up (fun k => l.getD k 0) i r = fun k => (l.set i r).getD k 0 := by
  funext k
  unfold va_up
  rw [List.getD_eq_getElem?_getD, List.getElem?_set]
  by_cases e : k = i
  · rw [if_pos e, if_pos e.symm, if_pos h]; rfl
  · rw [if_neg e, if_neg (fun z => e z.symm)]; exact List.getD_eq_getElem?_getD
theorem zeroL (N : Nat) : (fun _ : Nat => (0 : Nat)) = fun k => (List.replicate N 0).getD k 0 := by
  funext k
  rw [List.getD_eq_getElem?_getD, List.getElem?_replicate]
  split <;> rfl
theorem kcI {G : GP} {n len : Nat} {m : Mem} (h : Fz n m) : kC G m n 100 len = .inl (gy G 0, len, .inl (fun _ => 0)) := by
  unfold kC; rw [if_neg (by omega), if_neg (by omega), if_pos (by omega), (h n (Nat.le_refl n)).1]
theorem kcB {G : GP} {n len : Nat} {m : Mem} (h : Fz n m) : kC G m n 101 len = .inl (gy G 1, len, .inl (fun _ => 0)) := by
  unfold kC; rw [if_neg (by omega), if_neg (by omega), if_pos (by omega), (h n (Nat.le_refl n)).1]
theorem kcZ {G : GP} {n len : Nat} {m : Mem} (h : Fz n m) : kC G m n 102 len = .inl (gy G 2, len, .inl (fun _ => 0)) := by
  unfold kC; rw [if_neg (by omega), if_neg (by omega), if_pos (by omega), (h n (Nat.le_refl n)).1]
theorem kcL {G : GP} {n len : Nat} {m : Mem} (h : Fz n m) : kC G m n 103 len = .inl (gy G 3, len, .inr (.inl (fun _ => 0))) := by
  unfold kC; rw [if_neg (by omega), if_pos rfl, (h n (Nat.le_refl n)).2.1]
theorem wI_r (m : Mem) (c k : Nat) (v : Int32) : (wI m c k v).2.2 = m.2.2 := rfl
theorem wI_l (m : Mem) (c k : Nat) (v : Int32) : (wI m c k v).2.1 = m.2.1 := rfl
theorem wR_i (m : Mem) (c k r : Nat) : (wR m c k r).1 = m.1 := rfl
theorem wR_l (m : Mem) (c k r : Nat) : (wR m c k r).2.1 = m.2.1 := rfl
theorem eX5_init (G : GP) (d : Nat) {c : Nat} (hc : SeAt c) (m : Mem) (hz : Fz c m) (Q : Nat → Mem → Prop) (hQ : ∀ m', MC (c) (c + 3) m' → (∀ q, q < c → Eq3 m m' q) → Q (c + 3) m') : Ec G (d + 1) mX5_init 2 104 [.ref (ga G c)] (c + 1) m Q := by
  refine Ec.go [.ref (ga G c)] rfl (by decide) (Nat.le_of_ble_eq_true rfl) rfl ?_
  refine co_aload_n dX5_init_0 rfl ?_
  refine co_objInit dX5_init_1 lo_X5 wobj (by omega) (Nat.le_of_ble_eq_true rfl) ?_
  refine co_aload_n dX5_init_4 rfl ?_
  refine co_iconst (v := 2) dX5_init_5 (by decide) ?_
  refine co_putI (k := 0) dX5_init_6 hc.1 (by omega) rfl inX5 (Nat.le_of_ble_eq_true rfl) lf_X5_9 tyX5 tyX5_ok nmX5 rfl rfl (by decide +kernel) ?_
  refine co_aload_n dX5_init_9 rfl ?_
  refine co_bipush (v := 101) dX5_init_10 (by decide) ?_
  refine co_putI (k := 3) dX5_init_12 hc.1 (by omega) rfl inX5 (Nat.le_of_ble_eq_true rfl) lf_X5_15 tyX5 tyX5_ok nmX5 rfl rfl (by decide +kernel) ?_
  refine co_aload_n dX5_init_15 rfl ?_
  refine co_bipush (v := 24) dX5_init_16 (by decide) ?_
  refine co_newa (ty := .int) (ix := 0) (a0 := (24, .inl (fun _ => 0))) dX5_init_18 (by omega) rfl lar_int rfl (fun _ _ h => h) hc.2.1 kcI (fun _ => rfl) ⟨by decide, by decide⟩ (by decide) (by decide) (by decide) ?_
  refine co_putR (k := 5) (ty := .array .int) dX5_init_20 hc.1 (by omega) rfl inX5 (Nat.le_of_ble_eq_true rfl) lf_X5_18 tyX5 tyX5_ok nmX5 rfl rfl rfl (by decide +kernel) rfl rfl (by omega) ?_
  refine co_aload_n dX5_init_23 rfl ?_
  refine co_bipush (v := 80) dX5_init_24 (by decide) ?_
  refine co_newa (ty := .int) (ix := 0) (a0 := (80, .inl (fun _ => 0))) dX5_init_26 (by omega) rfl lar_int rfl (fun _ _ h => h) hc.2.2 kcI (fun _ => rfl) ⟨by decide, by decide⟩ (by decide) (by decide) (by decide) ?_
  refine co_putR (k := 7) (ty := .array .int) dX5_init_28 hc.1 (by omega) rfl inX5 (Nat.le_of_ble_eq_true rfl) lf_X5_22 tyX5 tyX5_ok nmX5 rfl rfl rfl (by decide +kernel) rfl rfl (by omega) ?_
  refine co_ret dX5_init_31 rfl rfl rfl ?_
  obtain ⟨z1, z2, z3⟩ := hz _ (Nat.le_refl _)
  refine hQ _ (((MC.one (a := c) ?_ ?_ ?_).join (MC.row (c := c) hc.2.1 (by omega) hz (by omega) (((((Eq3.rf m _).wI (by omega)).wI (by omega)).wR (by omega)).wR (by omega)))).join (MC.row (c := c) hc.2.2 (by omega) hz (by omega) (((((Eq3.rf m _).wI (by omega)).wI (by omega)).wR (by omega)).wR (by omega)))) (fun q hq => ((((Eq3.rf m _).wI (by omega)).wI (by omega)).wR (by omega)).wR (by omega))
  · simp only [wR_i, wI_s]; rw [z1, iM_of hc.1]; rfl
  · simp only [wR_l, wI_l]; exact z2
  · simp only [wR_s, wI_r]; rw [z3, Mr_of hc.1, zeroL 8, va_upL (by simp), va_upL (by simp)]; rfl
theorem eX8_init (G : GP) (d : Nat) {c : Nat} (hc : TxAt c) (m : Mem) (hz : Fz c m) (Q : Nat → Mem → Prop) (hQ : ∀ m', MC (c) (c + 6) m' → (∀ q, q < c → Eq3 m m' q) → Q (c + 6) m') : Ec G (d + 1) mX8_init 5 474 [.ref (ga G c)] (c + 1) m Q := by
  refine Ec.go [.ref (ga G c)] rfl (by decide) (Nat.le_of_ble_eq_true rfl) rfl ?_
  refine co_aload_n dX8_init_0 rfl ?_
  refine co_objInit dX8_init_1 lo_X8 wobj (by omega) (Nat.le_of_ble_eq_true rfl) ?_
  refine co_aload_n dX8_init_4 rfl ?_
  refine co_bipush (v := 24) dX8_init_5 (by decide) ?_
  refine co_newa (ty := .int) (ix := 0) (a0 := (24, .inl (fun _ => 0))) dX8_init_7 (by omega) rfl lar_int rfl (fun _ _ h => h) hc.2.1 kcI (fun _ => rfl) ⟨by decide, by decide⟩ (by decide) (by decide) (by decide) ?_
  refine co_putR (k := 2) (ty := .array .int) dX8_init_9 hc.1 (by omega) rfl inX8 (Nat.le_of_ble_eq_true rfl) lf_X8_9 tyX8 tyX8_ok nmX8 rfl rfl rfl (by decide +kernel) rfl rfl (by omega) ?_
  refine co_aload_n dX8_init_12 rfl ?_
  refine co_sipush (v := 144) dX8_init_13 (by decide) ?_
  refine co_newa (ty := .int) (ix := 0) (a0 := (144, .inl (fun _ => 0))) dX8_init_16 (by omega) rfl lar_int rfl (fun _ _ h => h) hc.2.2.1 kcI (fun _ => rfl) ⟨by decide, by decide⟩ (by decide) (by decide) (by decide) ?_
  refine co_putR (k := 3) (ty := .array .int) dX8_init_18 hc.1 (by omega) rfl inX8 (Nat.le_of_ble_eq_true rfl) lf_X8_15 tyX8 tyX8_ok nmX8 rfl rfl rfl (by decide +kernel) rfl rfl (by omega) ?_
  refine co_aload_n dX8_init_21 rfl ?_
  refine co_sipush (v := 300) dX8_init_22 (by decide) ?_
  refine co_newa (ty := .int) (ix := 0) (a0 := (300, .inl (fun _ => 0))) dX8_init_25 (by omega) rfl lar_int rfl (fun _ _ h => h) hc.2.2.2.1 kcI (fun _ => rfl) ⟨by decide, by decide⟩ (by decide) (by decide) (by decide) ?_
  refine co_putR (k := 6) (ty := .array .int) dX8_init_27 hc.1 (by omega) rfl inX8 (Nat.le_of_ble_eq_true rfl) lf_X8_18 tyX8 tyX8_ok nmX8 rfl rfl rfl (by decide +kernel) rfl rfl (by omega) ?_
  refine co_aload_n dX8_init_30 rfl ?_
  refine co_iconst (v := 3) dX8_init_31 (by decide) ?_
  refine co_newa (ty := .int) (ix := 0) (a0 := (3, .inl (fun _ => 0))) dX8_init_32 (by omega) rfl lar_int rfl (fun _ _ h => h) hc.2.2.2.2.1 kcI (fun _ => rfl) ⟨by decide, by decide⟩ (by decide) (by decide) (by decide) ?_
  refine co_putR (k := 7) (ty := .array .int) dX8_init_34 hc.1 (by omega) rfl inX8 (Nat.le_of_ble_eq_true rfl) lf_X8_21 tyX8 tyX8_ok nmX8 rfl rfl rfl (by decide +kernel) rfl rfl (by omega) ?_
  refine co_aload_n dX8_init_37 rfl ?_
  refine co_iconst (v := 3) dX8_init_38 (by decide) ?_
  refine co_newa (ty := .int) (ix := 0) (a0 := (3, .inl (fun _ => 0))) dX8_init_39 (by omega) rfl lar_int rfl (fun _ _ h => h) hc.2.2.2.2.2 kcI (fun _ => rfl) ⟨by decide, by decide⟩ (by decide) (by decide) (by decide) ?_
  refine co_putR (k := 8) (ty := .array .int) dX8_init_41 hc.1 (by omega) rfl inX8 (Nat.le_of_ble_eq_true rfl) lf_X8_24 tyX8 tyX8_ok nmX8 rfl rfl rfl (by decide +kernel) rfl rfl (by omega) ?_
  refine co_ret dX8_init_44 rfl rfl rfl ?_
  obtain ⟨z1, z2, z3⟩ := hz _ (Nat.le_refl _)
  refine hQ _ ((((((MC.one (a := c) ?_ ?_ ?_).join (MC.row (c := c) hc.2.1 (by omega) hz (by omega) ((((((Eq3.rf m _).wR (by omega)).wR (by omega)).wR (by omega)).wR (by omega)).wR (by omega)))).join (MC.row (c := c) hc.2.2.1 (by omega) hz (by omega) ((((((Eq3.rf m _).wR (by omega)).wR (by omega)).wR (by omega)).wR (by omega)).wR (by omega)))).join (MC.row (c := c) hc.2.2.2.1 (by omega) hz (by omega) ((((((Eq3.rf m _).wR (by omega)).wR (by omega)).wR (by omega)).wR (by omega)).wR (by omega)))).join (MC.row (c := c) hc.2.2.2.2.1 (by omega) hz (by omega) ((((((Eq3.rf m _).wR (by omega)).wR (by omega)).wR (by omega)).wR (by omega)).wR (by omega)))).join (MC.row (c := c) hc.2.2.2.2.2 (by omega) hz (by omega) ((((((Eq3.rf m _).wR (by omega)).wR (by omega)).wR (by omega)).wR (by omega)).wR (by omega)))) (fun q hq => (((((Eq3.rf m _).wR (by omega)).wR (by omega)).wR (by omega)).wR (by omega)).wR (by omega))
  · simp only [wR_i, wI_s]; rw [z1, iM_of hc.1]; rfl
  · simp only [wR_l, wI_l]; exact z2
  · simp only [wR_s, wI_r]; rw [z3, Mr_of hc.1, zeroL 9, va_upL (by simp), va_upL (by simp), va_upL (by simp), va_upL (by simp), va_upL (by simp)]; rfl
theorem eX2_init_2 (G : GP) (d : Nat) (m : Mem) (hz : Fz 2 m) (Q : Nat → Mem → Prop) (hQ : ∀ m', MC (2) (12) m' → (∀ q, q < 2 → Eq3 m m' q) → Q (12) m') : Ec G (d + 1) mX2_init 9 103 [.ref (ga G 2)] (3) m Q := by
  refine Ec.go [.ref (ga G 2)] rfl (by decide) (Nat.le_of_ble_eq_true rfl) rfl ?_
  refine co_aload_n dX2_init_0 rfl ?_
  refine co_objInit dX2_init_1 lo_X2 wobj (by omega) (Nat.le_of_ble_eq_true rfl) ?_
  refine co_aload_n dX2_init_4 rfl ?_
  refine co_bipush (v := 6) dX2_init_5 (by decide) ?_
  refine co_newa (ty := .int) (ix := 0) (a0 := (6, .inl (fun _ => 0))) dX2_init_7 (by omega) rfl lar_int rfl (fun _ _ h => h) sh_3 kcI (fun _ => rfl) ⟨by decide, by decide⟩ (by decide) (by decide) (by decide) ?_
  refine co_putR (k := 1) (ty := .array .int) dX2_init_9 sh_2 (by omega) rfl inX2 (Nat.le_of_ble_eq_true rfl) lf_X2_9 tyX2 tyX2_ok nmX2 rfl rfl rfl (by decide +kernel) rfl rfl (by omega) ?_
  refine co_aload_n dX2_init_12 rfl ?_
  refine co_bipush (v := 6) dX2_init_13 (by decide) ?_
  refine co_newa (ty := .int) (ix := 0) (a0 := (6, .inl (fun _ => 0))) dX2_init_15 (by omega) rfl lar_int rfl (fun _ _ h => h) sh_4 kcI (fun _ => rfl) ⟨by decide, by decide⟩ (by decide) (by decide) (by decide) ?_
  refine co_putR (k := 2) (ty := .array .int) dX2_init_17 sh_2 (by omega) rfl inX2 (Nat.le_of_ble_eq_true rfl) lf_X2_15 tyX2 tyX2_ok nmX2 rfl rfl rfl (by decide +kernel) rfl rfl (by omega) ?_
  refine co_aload_n dX2_init_20 rfl ?_
  refine co_bipush (v := 6) dX2_init_21 (by decide) ?_
  refine co_newa (ty := .int) (ix := 0) (a0 := (6, .inl (fun _ => 0))) dX2_init_23 (by omega) rfl lar_int rfl (fun _ _ h => h) sh_5 kcI (fun _ => rfl) ⟨by decide, by decide⟩ (by decide) (by decide) (by decide) ?_
  refine co_putR (k := 3) (ty := .array .int) dX2_init_25 sh_2 (by omega) rfl inX2 (Nat.le_of_ble_eq_true rfl) lf_X2_18 tyX2 tyX2_ok nmX2 rfl rfl rfl (by decide +kernel) rfl rfl (by omega) ?_
  refine co_aload_n dX2_init_28 rfl ?_
  refine co_bipush (v := 40) dX2_init_29 (by decide) ?_
  refine co_newa (ty := .int) (ix := 0) (a0 := (40, .inl (fun _ => 0))) dX2_init_31 (by omega) rfl lar_int rfl (fun _ _ h => h) sh_6 kcI (fun _ => rfl) ⟨by decide, by decide⟩ (by decide) (by decide) (by decide) ?_
  refine co_putR (k := 5) (ty := .array .int) dX2_init_33 sh_2 (by omega) rfl inX2 (Nat.le_of_ble_eq_true rfl) lf_X2_21 tyX2 tyX2_ok nmX2 rfl rfl rfl (by decide +kernel) rfl rfl (by omega) ?_
  refine co_aload_n dX2_init_36 rfl ?_
  refine co_bipush (v := 10) dX2_init_37 (by decide) ?_
  refine co_newa (ty := .int) (ix := 0) (a0 := (10, .inl (fun _ => 0))) dX2_init_39 (by omega) rfl lar_int rfl (fun _ _ h => h) sh_7 kcI (fun _ => rfl) ⟨by decide, by decide⟩ (by decide) (by decide) (by decide) ?_
  refine co_putR (k := 6) (ty := .array .int) dX2_init_41 sh_2 (by omega) rfl inX2 (Nat.le_of_ble_eq_true rfl) lf_X2_24 tyX2 tyX2_ok nmX2 rfl rfl rfl (by decide +kernel) rfl rfl (by omega) ?_
  refine co_aload_n dX2_init_44 rfl ?_
  refine co_bipush (v := 10) dX2_init_45 (by decide) ?_
  refine co_newa (ty := .int) (ix := 0) (a0 := (10, .inl (fun _ => 0))) dX2_init_47 (by omega) rfl lar_int rfl (fun _ _ h => h) sh_8 kcI (fun _ => rfl) ⟨by decide, by decide⟩ (by decide) (by decide) (by decide) ?_
  refine co_putR (k := 7) (ty := .array .int) dX2_init_49 sh_2 (by omega) rfl inX2 (Nat.le_of_ble_eq_true rfl) lf_X2_27 tyX2 tyX2_ok nmX2 rfl rfl rfl (by decide +kernel) rfl rfl (by omega) ?_
  refine co_aload_n dX2_init_52 rfl ?_
  refine co_bipush (v := 10) dX2_init_53 (by decide) ?_
  refine co_newa (ty := .int) (ix := 0) (a0 := (10, .inl (fun _ => 0))) dX2_init_55 (by omega) rfl lar_int rfl (fun _ _ h => h) sh_9 kcI (fun _ => rfl) ⟨by decide, by decide⟩ (by decide) (by decide) (by decide) ?_
  refine co_putR (k := 8) (ty := .array .int) dX2_init_57 sh_2 (by omega) rfl inX2 (Nat.le_of_ble_eq_true rfl) lf_X2_30 tyX2 tyX2_ok nmX2 rfl rfl rfl (by decide +kernel) rfl rfl (by omega) ?_
  refine co_aload_n dX2_init_60 rfl ?_
  refine co_iconst (v := 5) dX2_init_61 (by decide) ?_
  refine co_newa (ty := .int) (ix := 0) (a0 := (5, .inl (fun _ => 0))) dX2_init_62 (by omega) rfl lar_int rfl (fun _ _ h => h) sh_10 kcI (fun _ => rfl) ⟨by decide, by decide⟩ (by decide) (by decide) (by decide) ?_
  refine co_putR (k := 9) (ty := .array .int) dX2_init_64 sh_2 (by omega) rfl inX2 (Nat.le_of_ble_eq_true rfl) lf_X2_33 tyX2 tyX2_ok nmX2 rfl rfl rfl (by decide +kernel) rfl rfl (by omega) ?_
  refine co_aload_n dX2_init_67 rfl ?_
  refine co_bipush (v := 10) dX2_init_68 (by decide) ?_
  refine co_newa (ty := .int) (ix := 0) (a0 := (10, .inl (fun _ => 0))) dX2_init_70 (by omega) rfl lar_int rfl (fun _ _ h => h) sh_11 kcI (fun _ => rfl) ⟨by decide, by decide⟩ (by decide) (by decide) (by decide) ?_
  refine co_putR (k := 10) (ty := .array .int) dX2_init_72 sh_2 (by omega) rfl inX2 (Nat.le_of_ble_eq_true rfl) lf_X2_36 tyX2 tyX2_ok nmX2 rfl rfl rfl (by decide +kernel) rfl rfl (by omega) ?_
  refine co_ret dX2_init_75 rfl rfl rfl ?_
  obtain ⟨z1, z2, z3⟩ := hz _ (Nat.le_refl _)
  refine hQ _ ((((((((((MC.one (a := 2) ?_ ?_ ?_).join (MC.row (c := 2) sh_3 (by omega) hz (by omega) ((((((((((Eq3.rf m _).wR (by omega)).wR (by omega)).wR (by omega)).wR (by omega)).wR (by omega)).wR (by omega)).wR (by omega)).wR (by omega)).wR (by omega)))).join (MC.row (c := 2) sh_4 (by omega) hz (by omega) ((((((((((Eq3.rf m _).wR (by omega)).wR (by omega)).wR (by omega)).wR (by omega)).wR (by omega)).wR (by omega)).wR (by omega)).wR (by omega)).wR (by omega)))).join (MC.row (c := 2) sh_5 (by omega) hz (by omega) ((((((((((Eq3.rf m _).wR (by omega)).wR (by omega)).wR (by omega)).wR (by omega)).wR (by omega)).wR (by omega)).wR (by omega)).wR (by omega)).wR (by omega)))).join (MC.row (c := 2) sh_6 (by omega) hz (by omega) ((((((((((Eq3.rf m _).wR (by omega)).wR (by omega)).wR (by omega)).wR (by omega)).wR (by omega)).wR (by omega)).wR (by omega)).wR (by omega)).wR (by omega)))).join (MC.row (c := 2) sh_7 (by omega) hz (by omega) ((((((((((Eq3.rf m _).wR (by omega)).wR (by omega)).wR (by omega)).wR (by omega)).wR (by omega)).wR (by omega)).wR (by omega)).wR (by omega)).wR (by omega)))).join (MC.row (c := 2) sh_8 (by omega) hz (by omega) ((((((((((Eq3.rf m _).wR (by omega)).wR (by omega)).wR (by omega)).wR (by omega)).wR (by omega)).wR (by omega)).wR (by omega)).wR (by omega)).wR (by omega)))).join (MC.row (c := 2) sh_9 (by omega) hz (by omega) ((((((((((Eq3.rf m _).wR (by omega)).wR (by omega)).wR (by omega)).wR (by omega)).wR (by omega)).wR (by omega)).wR (by omega)).wR (by omega)).wR (by omega)))).join (MC.row (c := 2) sh_10 (by omega) hz (by omega) ((((((((((Eq3.rf m _).wR (by omega)).wR (by omega)).wR (by omega)).wR (by omega)).wR (by omega)).wR (by omega)).wR (by omega)).wR (by omega)).wR (by omega)))).join (MC.row (c := 2) sh_11 (by omega) hz (by omega) ((((((((((Eq3.rf m _).wR (by omega)).wR (by omega)).wR (by omega)).wR (by omega)).wR (by omega)).wR (by omega)).wR (by omega)).wR (by omega)).wR (by omega)))) (fun q hq => (((((((((Eq3.rf m _).wR (by omega)).wR (by omega)).wR (by omega)).wR (by omega)).wR (by omega)).wR (by omega)).wR (by omega)).wR (by omega)).wR (by omega))
  · simp only [wR_i, wI_s]; rw [z1, iM_of sh_2]; rfl
  · simp only [wR_l, wI_l]; exact z2
  · simp only [wR_s, wI_r]; rw [z3, Mr_of sh_2, zeroL 11, va_upL (by simp), va_upL (by simp), va_upL (by simp), va_upL (by simp), va_upL (by simp), va_upL (by simp), va_upL (by simp), va_upL (by simp), va_upL (by simp)]; rfl
theorem eX2_init_115 (G : GP) (d : Nat) (m : Mem) (hz : Fz 115 m) (Q : Nat → Mem → Prop) (hQ : ∀ m', MC (115) (125) m' → (∀ q, q < 115 → Eq3 m m' q) → Q (125) m') : Ec G (d + 1) mX2_init 9 103 [.ref (ga G 115)] (116) m Q := by
  refine Ec.go [.ref (ga G 115)] rfl (by decide) (Nat.le_of_ble_eq_true rfl) rfl ?_
  refine co_aload_n dX2_init_0 rfl ?_
  refine co_objInit dX2_init_1 lo_X2 wobj (by omega) (Nat.le_of_ble_eq_true rfl) ?_
  refine co_aload_n dX2_init_4 rfl ?_
  refine co_bipush (v := 6) dX2_init_5 (by decide) ?_
  refine co_newa (ty := .int) (ix := 0) (a0 := (6, .inl (fun _ => 0))) dX2_init_7 (by omega) rfl lar_int rfl (fun _ _ h => h) sh_116 kcI (fun _ => rfl) ⟨by decide, by decide⟩ (by decide) (by decide) (by decide) ?_
  refine co_putR (k := 1) (ty := .array .int) dX2_init_9 sh_115 (by omega) rfl inX2 (Nat.le_of_ble_eq_true rfl) lf_X2_9 tyX2 tyX2_ok nmX2 rfl rfl rfl (by decide +kernel) rfl rfl (by omega) ?_
  refine co_aload_n dX2_init_12 rfl ?_
  refine co_bipush (v := 6) dX2_init_13 (by decide) ?_
  refine co_newa (ty := .int) (ix := 0) (a0 := (6, .inl (fun _ => 0))) dX2_init_15 (by omega) rfl lar_int rfl (fun _ _ h => h) sh_117 kcI (fun _ => rfl) ⟨by decide, by decide⟩ (by decide) (by decide) (by decide) ?_
  refine co_putR (k := 2) (ty := .array .int) dX2_init_17 sh_115 (by omega) rfl inX2 (Nat.le_of_ble_eq_true rfl) lf_X2_15 tyX2 tyX2_ok nmX2 rfl rfl rfl (by decide +kernel) rfl rfl (by omega) ?_
  refine co_aload_n dX2_init_20 rfl ?_
  refine co_bipush (v := 6) dX2_init_21 (by decide) ?_
  refine co_newa (ty := .int) (ix := 0) (a0 := (6, .inl (fun _ => 0))) dX2_init_23 (by omega) rfl lar_int rfl (fun _ _ h => h) sh_118 kcI (fun _ => rfl) ⟨by decide, by decide⟩ (by decide) (by decide) (by decide) ?_
  refine co_putR (k := 3) (ty := .array .int) dX2_init_25 sh_115 (by omega) rfl inX2 (Nat.le_of_ble_eq_true rfl) lf_X2_18 tyX2 tyX2_ok nmX2 rfl rfl rfl (by decide +kernel) rfl rfl (by omega) ?_
  refine co_aload_n dX2_init_28 rfl ?_
  refine co_bipush (v := 40) dX2_init_29 (by decide) ?_
  refine co_newa (ty := .int) (ix := 0) (a0 := (40, .inl (fun _ => 0))) dX2_init_31 (by omega) rfl lar_int rfl (fun _ _ h => h) sh_119 kcI (fun _ => rfl) ⟨by decide, by decide⟩ (by decide) (by decide) (by decide) ?_
  refine co_putR (k := 5) (ty := .array .int) dX2_init_33 sh_115 (by omega) rfl inX2 (Nat.le_of_ble_eq_true rfl) lf_X2_21 tyX2 tyX2_ok nmX2 rfl rfl rfl (by decide +kernel) rfl rfl (by omega) ?_
  refine co_aload_n dX2_init_36 rfl ?_
  refine co_bipush (v := 10) dX2_init_37 (by decide) ?_
  refine co_newa (ty := .int) (ix := 0) (a0 := (10, .inl (fun _ => 0))) dX2_init_39 (by omega) rfl lar_int rfl (fun _ _ h => h) sh_120 kcI (fun _ => rfl) ⟨by decide, by decide⟩ (by decide) (by decide) (by decide) ?_
  refine co_putR (k := 6) (ty := .array .int) dX2_init_41 sh_115 (by omega) rfl inX2 (Nat.le_of_ble_eq_true rfl) lf_X2_24 tyX2 tyX2_ok nmX2 rfl rfl rfl (by decide +kernel) rfl rfl (by omega) ?_
  refine co_aload_n dX2_init_44 rfl ?_
  refine co_bipush (v := 10) dX2_init_45 (by decide) ?_
  refine co_newa (ty := .int) (ix := 0) (a0 := (10, .inl (fun _ => 0))) dX2_init_47 (by omega) rfl lar_int rfl (fun _ _ h => h) sh_121 kcI (fun _ => rfl) ⟨by decide, by decide⟩ (by decide) (by decide) (by decide) ?_
  refine co_putR (k := 7) (ty := .array .int) dX2_init_49 sh_115 (by omega) rfl inX2 (Nat.le_of_ble_eq_true rfl) lf_X2_27 tyX2 tyX2_ok nmX2 rfl rfl rfl (by decide +kernel) rfl rfl (by omega) ?_
  refine co_aload_n dX2_init_52 rfl ?_
  refine co_bipush (v := 10) dX2_init_53 (by decide) ?_
  refine co_newa (ty := .int) (ix := 0) (a0 := (10, .inl (fun _ => 0))) dX2_init_55 (by omega) rfl lar_int rfl (fun _ _ h => h) sh_122 kcI (fun _ => rfl) ⟨by decide, by decide⟩ (by decide) (by decide) (by decide) ?_
  refine co_putR (k := 8) (ty := .array .int) dX2_init_57 sh_115 (by omega) rfl inX2 (Nat.le_of_ble_eq_true rfl) lf_X2_30 tyX2 tyX2_ok nmX2 rfl rfl rfl (by decide +kernel) rfl rfl (by omega) ?_
  refine co_aload_n dX2_init_60 rfl ?_
  refine co_iconst (v := 5) dX2_init_61 (by decide) ?_
  refine co_newa (ty := .int) (ix := 0) (a0 := (5, .inl (fun _ => 0))) dX2_init_62 (by omega) rfl lar_int rfl (fun _ _ h => h) sh_123 kcI (fun _ => rfl) ⟨by decide, by decide⟩ (by decide) (by decide) (by decide) ?_
  refine co_putR (k := 9) (ty := .array .int) dX2_init_64 sh_115 (by omega) rfl inX2 (Nat.le_of_ble_eq_true rfl) lf_X2_33 tyX2 tyX2_ok nmX2 rfl rfl rfl (by decide +kernel) rfl rfl (by omega) ?_
  refine co_aload_n dX2_init_67 rfl ?_
  refine co_bipush (v := 10) dX2_init_68 (by decide) ?_
  refine co_newa (ty := .int) (ix := 0) (a0 := (10, .inl (fun _ => 0))) dX2_init_70 (by omega) rfl lar_int rfl (fun _ _ h => h) sh_124 kcI (fun _ => rfl) ⟨by decide, by decide⟩ (by decide) (by decide) (by decide) ?_
  refine co_putR (k := 10) (ty := .array .int) dX2_init_72 sh_115 (by omega) rfl inX2 (Nat.le_of_ble_eq_true rfl) lf_X2_36 tyX2 tyX2_ok nmX2 rfl rfl rfl (by decide +kernel) rfl rfl (by omega) ?_
  refine co_ret dX2_init_75 rfl rfl rfl ?_
  obtain ⟨z1, z2, z3⟩ := hz _ (Nat.le_refl _)
  refine hQ _ ((((((((((MC.one (a := 115) ?_ ?_ ?_).join (MC.row (c := 115) sh_116 (by omega) hz (by omega) ((((((((((Eq3.rf m _).wR (by omega)).wR (by omega)).wR (by omega)).wR (by omega)).wR (by omega)).wR (by omega)).wR (by omega)).wR (by omega)).wR (by omega)))).join (MC.row (c := 115) sh_117 (by omega) hz (by omega) ((((((((((Eq3.rf m _).wR (by omega)).wR (by omega)).wR (by omega)).wR (by omega)).wR (by omega)).wR (by omega)).wR (by omega)).wR (by omega)).wR (by omega)))).join (MC.row (c := 115) sh_118 (by omega) hz (by omega) ((((((((((Eq3.rf m _).wR (by omega)).wR (by omega)).wR (by omega)).wR (by omega)).wR (by omega)).wR (by omega)).wR (by omega)).wR (by omega)).wR (by omega)))).join (MC.row (c := 115) sh_119 (by omega) hz (by omega) ((((((((((Eq3.rf m _).wR (by omega)).wR (by omega)).wR (by omega)).wR (by omega)).wR (by omega)).wR (by omega)).wR (by omega)).wR (by omega)).wR (by omega)))).join (MC.row (c := 115) sh_120 (by omega) hz (by omega) ((((((((((Eq3.rf m _).wR (by omega)).wR (by omega)).wR (by omega)).wR (by omega)).wR (by omega)).wR (by omega)).wR (by omega)).wR (by omega)).wR (by omega)))).join (MC.row (c := 115) sh_121 (by omega) hz (by omega) ((((((((((Eq3.rf m _).wR (by omega)).wR (by omega)).wR (by omega)).wR (by omega)).wR (by omega)).wR (by omega)).wR (by omega)).wR (by omega)).wR (by omega)))).join (MC.row (c := 115) sh_122 (by omega) hz (by omega) ((((((((((Eq3.rf m _).wR (by omega)).wR (by omega)).wR (by omega)).wR (by omega)).wR (by omega)).wR (by omega)).wR (by omega)).wR (by omega)).wR (by omega)))).join (MC.row (c := 115) sh_123 (by omega) hz (by omega) ((((((((((Eq3.rf m _).wR (by omega)).wR (by omega)).wR (by omega)).wR (by omega)).wR (by omega)).wR (by omega)).wR (by omega)).wR (by omega)).wR (by omega)))).join (MC.row (c := 115) sh_124 (by omega) hz (by omega) ((((((((((Eq3.rf m _).wR (by omega)).wR (by omega)).wR (by omega)).wR (by omega)).wR (by omega)).wR (by omega)).wR (by omega)).wR (by omega)).wR (by omega)))) (fun q hq => (((((((((Eq3.rf m _).wR (by omega)).wR (by omega)).wR (by omega)).wR (by omega)).wR (by omega)).wR (by omega)).wR (by omega)).wR (by omega)).wR (by omega))
  · simp only [wR_i, wI_s]; rw [z1, iM_of sh_115]; rfl
  · simp only [wR_l, wI_l]; exact z2
  · simp only [wR_s, wI_r]; rw [z3, Mr_of sh_115, zeroL 11, va_upL (by simp), va_upL (by simp), va_upL (by simp), va_upL (by simp), va_upL (by simp), va_upL (by simp), va_upL (by simp), va_upL (by simp), va_upL (by simp)]; rfl
theorem eX9_init_107 (G : GP) (d : Nat) (m : Mem) (hz : Fz 107 m) (Q : Nat → Mem → Prop) (hQ : ∀ m', MC (107) (114) m' → (∀ q, q < 107 → Eq3 m m' q) → Q (114) m') : Ec G (d + 1) mX9_init 6 62 [.ref (ga G 107)] (108) m Q := by
  refine Ec.go [.ref (ga G 107)] rfl (by decide) (Nat.le_of_ble_eq_true rfl) rfl ?_
  refine co_aload_n dX9_init_0 rfl ?_
  refine co_objInit dX9_init_1 lo_X9 wobj (by omega) (Nat.le_of_ble_eq_true rfl) ?_
  refine co_aload_n dX9_init_4 rfl ?_
  refine co_bipush (v := 10) dX9_init_5 (by decide) ?_
  refine co_newa (ty := .int) (ix := 0) (a0 := (10, .inl (fun _ => 0))) dX9_init_7 (by omega) rfl lar_int rfl (fun _ _ h => h) sh_108 kcI (fun _ => rfl) ⟨by decide, by decide⟩ (by decide) (by decide) (by decide) ?_
  refine co_putR (k := 0) (ty := .array .int) dX9_init_9 sh_107 (by omega) rfl inX9 (Nat.le_of_ble_eq_true rfl) lf_X9_9 tyX9 tyX9_ok nmX9 rfl rfl rfl (by decide +kernel) rfl rfl (by omega) ?_
  refine co_aload_n dX9_init_12 rfl ?_
  refine co_bipush (v := 10) dX9_init_13 (by decide) ?_
  refine co_newa (ty := .int) (ix := 0) (a0 := (10, .inl (fun _ => 0))) dX9_init_15 (by omega) rfl lar_int rfl (fun _ _ h => h) sh_109 kcI (fun _ => rfl) ⟨by decide, by decide⟩ (by decide) (by decide) (by decide) ?_
  refine co_putR (k := 1) (ty := .array .int) dX9_init_17 sh_107 (by omega) rfl inX9 (Nat.le_of_ble_eq_true rfl) lf_X9_15 tyX9 tyX9_ok nmX9 rfl rfl rfl (by decide +kernel) rfl rfl (by omega) ?_
  refine co_aload_n dX9_init_20 rfl ?_
  refine co_bipush (v := 8) dX9_init_21 (by decide) ?_
  refine co_newa (ty := .int) (ix := 0) (a0 := (8, .inl (fun _ => 0))) dX9_init_23 (by omega) rfl lar_int rfl (fun _ _ h => h) sh_110 kcI (fun _ => rfl) ⟨by decide, by decide⟩ (by decide) (by decide) (by decide) ?_
  refine co_putR (k := 3) (ty := .array .int) dX9_init_25 sh_107 (by omega) rfl inX9 (Nat.le_of_ble_eq_true rfl) lf_X9_18 tyX9 tyX9_ok nmX9 rfl rfl rfl (by decide +kernel) rfl rfl (by omega) ?_
  refine co_aload_n dX9_init_28 rfl ?_
  refine co_bipush (v := 8) dX9_init_29 (by decide) ?_
  refine co_newa (ty := .int) (ix := 0) (a0 := (8, .inl (fun _ => 0))) dX9_init_31 (by omega) rfl lar_int rfl (fun _ _ h => h) sh_111 kcI (fun _ => rfl) ⟨by decide, by decide⟩ (by decide) (by decide) (by decide) ?_
  refine co_putR (k := 4) (ty := .array .int) dX9_init_33 sh_107 (by omega) rfl inX9 (Nat.le_of_ble_eq_true rfl) lf_X9_21 tyX9 tyX9_ok nmX9 rfl rfl rfl (by decide +kernel) rfl rfl (by omega) ?_
  refine co_aload_n dX9_init_36 rfl ?_
  refine co_iconst (v := 2) dX9_init_37 (by decide) ?_
  refine co_newa (ty := .int) (ix := 0) (a0 := (2, .inl (fun _ => 0))) dX9_init_38 (by omega) rfl lar_int rfl (fun _ _ h => h) sh_112 kcI (fun _ => rfl) ⟨by decide, by decide⟩ (by decide) (by decide) (by decide) ?_
  refine co_putR (k := 5) (ty := .array .int) dX9_init_40 sh_107 (by omega) rfl inX9 (Nat.le_of_ble_eq_true rfl) lf_X9_24 tyX9 tyX9_ok nmX9 rfl rfl rfl (by decide +kernel) rfl rfl (by omega) ?_
  refine co_aload_n dX9_init_43 rfl ?_
  refine co_bipush (v := 24) dX9_init_44 (by decide) ?_
  refine co_newa (ty := .int) (ix := 0) (a0 := (24, .inl (fun _ => 0))) dX9_init_46 (by omega) rfl lar_int rfl (fun _ _ h => h) sh_113 kcI (fun _ => rfl) ⟨by decide, by decide⟩ (by decide) (by decide) (by decide) ?_
  refine co_putR (k := 6) (ty := .array .int) dX9_init_48 sh_107 (by omega) rfl inX9 (Nat.le_of_ble_eq_true rfl) lf_X9_27 tyX9 tyX9_ok nmX9 rfl rfl rfl (by decide +kernel) rfl rfl (by omega) ?_
  refine co_ret dX9_init_51 rfl rfl rfl ?_
  obtain ⟨z1, z2, z3⟩ := hz _ (Nat.le_refl _)
  refine hQ _ (((((((MC.one (a := 107) ?_ ?_ ?_).join (MC.row (c := 107) sh_108 (by omega) hz (by omega) (((((((Eq3.rf m _).wR (by omega)).wR (by omega)).wR (by omega)).wR (by omega)).wR (by omega)).wR (by omega)))).join (MC.row (c := 107) sh_109 (by omega) hz (by omega) (((((((Eq3.rf m _).wR (by omega)).wR (by omega)).wR (by omega)).wR (by omega)).wR (by omega)).wR (by omega)))).join (MC.row (c := 107) sh_110 (by omega) hz (by omega) (((((((Eq3.rf m _).wR (by omega)).wR (by omega)).wR (by omega)).wR (by omega)).wR (by omega)).wR (by omega)))).join (MC.row (c := 107) sh_111 (by omega) hz (by omega) (((((((Eq3.rf m _).wR (by omega)).wR (by omega)).wR (by omega)).wR (by omega)).wR (by omega)).wR (by omega)))).join (MC.row (c := 107) sh_112 (by omega) hz (by omega) (((((((Eq3.rf m _).wR (by omega)).wR (by omega)).wR (by omega)).wR (by omega)).wR (by omega)).wR (by omega)))).join (MC.row (c := 107) sh_113 (by omega) hz (by omega) (((((((Eq3.rf m _).wR (by omega)).wR (by omega)).wR (by omega)).wR (by omega)).wR (by omega)).wR (by omega)))) (fun q hq => ((((((Eq3.rf m _).wR (by omega)).wR (by omega)).wR (by omega)).wR (by omega)).wR (by omega)).wR (by omega))
  · simp only [wR_i, wI_s]; rw [z1, iM_of sh_107]; rfl
  · simp only [wR_l, wI_l]; exact z2
  · simp only [wR_s, wI_r]; rw [z3, Mr_of sh_107, zeroL 7, va_upL (by simp), va_upL (by simp), va_upL (by simp), va_upL (by simp), va_upL (by simp), va_upL (by simp)]; rfl
theorem eX9_init_220 (G : GP) (d : Nat) (m : Mem) (hz : Fz 220 m) (Q : Nat → Mem → Prop) (hQ : ∀ m', MC (220) (227) m' → (∀ q, q < 220 → Eq3 m m' q) → Q (227) m') : Ec G (d + 1) mX9_init 6 62 [.ref (ga G 220)] (221) m Q := by
  refine Ec.go [.ref (ga G 220)] rfl (by decide) (Nat.le_of_ble_eq_true rfl) rfl ?_
  refine co_aload_n dX9_init_0 rfl ?_
  refine co_objInit dX9_init_1 lo_X9 wobj (by omega) (Nat.le_of_ble_eq_true rfl) ?_
  refine co_aload_n dX9_init_4 rfl ?_
  refine co_bipush (v := 10) dX9_init_5 (by decide) ?_
  refine co_newa (ty := .int) (ix := 0) (a0 := (10, .inl (fun _ => 0))) dX9_init_7 (by omega) rfl lar_int rfl (fun _ _ h => h) sh_221 kcI (fun _ => rfl) ⟨by decide, by decide⟩ (by decide) (by decide) (by decide) ?_
  refine co_putR (k := 0) (ty := .array .int) dX9_init_9 sh_220 (by omega) rfl inX9 (Nat.le_of_ble_eq_true rfl) lf_X9_9 tyX9 tyX9_ok nmX9 rfl rfl rfl (by decide +kernel) rfl rfl (by omega) ?_
  refine co_aload_n dX9_init_12 rfl ?_
  refine co_bipush (v := 10) dX9_init_13 (by decide) ?_
  refine co_newa (ty := .int) (ix := 0) (a0 := (10, .inl (fun _ => 0))) dX9_init_15 (by omega) rfl lar_int rfl (fun _ _ h => h) sh_222 kcI (fun _ => rfl) ⟨by decide, by decide⟩ (by decide) (by decide) (by decide) ?_
  refine co_putR (k := 1) (ty := .array .int) dX9_init_17 sh_220 (by omega) rfl inX9 (Nat.le_of_ble_eq_true rfl) lf_X9_15 tyX9 tyX9_ok nmX9 rfl rfl rfl (by decide +kernel) rfl rfl (by omega) ?_
  refine co_aload_n dX9_init_20 rfl ?_
  refine co_bipush (v := 8) dX9_init_21 (by decide) ?_
  refine co_newa (ty := .int) (ix := 0) (a0 := (8, .inl (fun _ => 0))) dX9_init_23 (by omega) rfl lar_int rfl (fun _ _ h => h) sh_223 kcI (fun _ => rfl) ⟨by decide, by decide⟩ (by decide) (by decide) (by decide) ?_
  refine co_putR (k := 3) (ty := .array .int) dX9_init_25 sh_220 (by omega) rfl inX9 (Nat.le_of_ble_eq_true rfl) lf_X9_18 tyX9 tyX9_ok nmX9 rfl rfl rfl (by decide +kernel) rfl rfl (by omega) ?_
  refine co_aload_n dX9_init_28 rfl ?_
  refine co_bipush (v := 8) dX9_init_29 (by decide) ?_
  refine co_newa (ty := .int) (ix := 0) (a0 := (8, .inl (fun _ => 0))) dX9_init_31 (by omega) rfl lar_int rfl (fun _ _ h => h) sh_224 kcI (fun _ => rfl) ⟨by decide, by decide⟩ (by decide) (by decide) (by decide) ?_
  refine co_putR (k := 4) (ty := .array .int) dX9_init_33 sh_220 (by omega) rfl inX9 (Nat.le_of_ble_eq_true rfl) lf_X9_21 tyX9 tyX9_ok nmX9 rfl rfl rfl (by decide +kernel) rfl rfl (by omega) ?_
  refine co_aload_n dX9_init_36 rfl ?_
  refine co_iconst (v := 2) dX9_init_37 (by decide) ?_
  refine co_newa (ty := .int) (ix := 0) (a0 := (2, .inl (fun _ => 0))) dX9_init_38 (by omega) rfl lar_int rfl (fun _ _ h => h) sh_225 kcI (fun _ => rfl) ⟨by decide, by decide⟩ (by decide) (by decide) (by decide) ?_
  refine co_putR (k := 5) (ty := .array .int) dX9_init_40 sh_220 (by omega) rfl inX9 (Nat.le_of_ble_eq_true rfl) lf_X9_24 tyX9 tyX9_ok nmX9 rfl rfl rfl (by decide +kernel) rfl rfl (by omega) ?_
  refine co_aload_n dX9_init_43 rfl ?_
  refine co_bipush (v := 24) dX9_init_44 (by decide) ?_
  refine co_newa (ty := .int) (ix := 0) (a0 := (24, .inl (fun _ => 0))) dX9_init_46 (by omega) rfl lar_int rfl (fun _ _ h => h) sh_226 kcI (fun _ => rfl) ⟨by decide, by decide⟩ (by decide) (by decide) (by decide) ?_
  refine co_putR (k := 6) (ty := .array .int) dX9_init_48 sh_220 (by omega) rfl inX9 (Nat.le_of_ble_eq_true rfl) lf_X9_27 tyX9 tyX9_ok nmX9 rfl rfl rfl (by decide +kernel) rfl rfl (by omega) ?_
  refine co_ret dX9_init_51 rfl rfl rfl ?_
  obtain ⟨z1, z2, z3⟩ := hz _ (Nat.le_refl _)
  refine hQ _ (((((((MC.one (a := 220) ?_ ?_ ?_).join (MC.row (c := 220) sh_221 (by omega) hz (by omega) (((((((Eq3.rf m _).wR (by omega)).wR (by omega)).wR (by omega)).wR (by omega)).wR (by omega)).wR (by omega)))).join (MC.row (c := 220) sh_222 (by omega) hz (by omega) (((((((Eq3.rf m _).wR (by omega)).wR (by omega)).wR (by omega)).wR (by omega)).wR (by omega)).wR (by omega)))).join (MC.row (c := 220) sh_223 (by omega) hz (by omega) (((((((Eq3.rf m _).wR (by omega)).wR (by omega)).wR (by omega)).wR (by omega)).wR (by omega)).wR (by omega)))).join (MC.row (c := 220) sh_224 (by omega) hz (by omega) (((((((Eq3.rf m _).wR (by omega)).wR (by omega)).wR (by omega)).wR (by omega)).wR (by omega)).wR (by omega)))).join (MC.row (c := 220) sh_225 (by omega) hz (by omega) (((((((Eq3.rf m _).wR (by omega)).wR (by omega)).wR (by omega)).wR (by omega)).wR (by omega)).wR (by omega)))).join (MC.row (c := 220) sh_226 (by omega) hz (by omega) (((((((Eq3.rf m _).wR (by omega)).wR (by omega)).wR (by omega)).wR (by omega)).wR (by omega)).wR (by omega)))) (fun q hq => ((((((Eq3.rf m _).wR (by omega)).wR (by omega)).wR (by omega)).wR (by omega)).wR (by omega)).wR (by omega))
  · simp only [wR_i, wI_s]; rw [z1, iM_of sh_220]; rfl
  · simp only [wR_l, wI_l]; exact z2
  · simp only [wR_s, wI_r]; rw [z3, Mr_of sh_220, zeroL 7, va_upL (by simp), va_upL (by simp), va_upL (by simp), va_upL (by simp), va_upL (by simp), va_upL (by simp)]; rfl
theorem eX7_init (G : GP) (d : Nat) (m : Mem) (hz : Fz 228 m) (Q : Nat → Mem → Prop) (hQ : ∀ m', MC (228) (233) m' → (∀ q, q < 228 → Eq3 m m' q) → Q (233) m') : Ec G (d + 1) mX7_init 4 1203 [.ref (ga G 228)] (229) m Q := by
  refine Ec.go [.ref (ga G 228)] rfl (by decide) (Nat.le_of_ble_eq_true rfl) rfl ?_
  refine co_aload_n dX7_init_0 rfl ?_
  refine co_objInit dX7_init_1 lo_X7 wobj (by omega) (Nat.le_of_ble_eq_true rfl) ?_
  refine co_aload_n dX7_init_4 rfl ?_
  refine co_sipush (v := 300) dX7_init_5 (by decide) ?_
  refine co_newa (ty := .byte) (ix := 1) (a0 := (300, .inl (fun _ => 0))) dX7_init_8 (by omega) rfl lar_byte rfl (fun _ _ h => h) sh_229 kcB (fun _ => rfl) ⟨by decide, by decide⟩ (by decide) (by decide) (by decide) ?_
  refine co_putR (k := 1) (ty := .array .byte) dX7_init_10 sh_228 (by omega) rfl inX7 (Nat.le_of_ble_eq_true rfl) lf_X7_11 tyX7 tyX7_ok nmX7 rfl rfl rfl (by decide +kernel) rfl rfl (by omega) ?_
  refine co_aload_n dX7_init_13 rfl ?_
  refine co_sipush (v := 301) dX7_init_14 (by decide) ?_
  refine co_newa (ty := .int) (ix := 0) (a0 := (301, .inl (fun _ => 0))) dX7_init_17 (by omega) rfl lar_int rfl (fun _ _ h => h) sh_230 kcI (fun _ => rfl) ⟨by decide, by decide⟩ (by decide) (by decide) (by decide) ?_
  refine co_putR (k := 2) (ty := .array .int) dX7_init_19 sh_228 (by omega) rfl inX7 (Nat.le_of_ble_eq_true rfl) lf_X7_15 tyX7 tyX7_ok nmX7 rfl rfl rfl (by decide +kernel) rfl rfl (by omega) ?_
  refine co_aload_n dX7_init_22 rfl ?_
  refine co_sipush (v := 301) dX7_init_23 (by decide) ?_
  refine co_newa (ty := .int) (ix := 0) (a0 := (301, .inl (fun _ => 0))) dX7_init_26 (by omega) rfl lar_int rfl (fun _ _ h => h) sh_231 kcI (fun _ => rfl) ⟨by decide, by decide⟩ (by decide) (by decide) (by decide) ?_
  refine co_putR (k := 3) (ty := .array .int) dX7_init_28 sh_228 (by omega) rfl inX7 (Nat.le_of_ble_eq_true rfl) lf_X7_19 tyX7 tyX7_ok nmX7 rfl rfl rfl (by decide +kernel) rfl rfl (by omega) ?_
  refine co_aload_n dX7_init_31 rfl ?_
  refine co_sipush (v := 301) dX7_init_32 (by decide) ?_
  refine co_newa (ty := .int) (ix := 0) (a0 := (301, .inl (fun _ => 0))) dX7_init_35 (by omega) rfl lar_int rfl (fun _ _ h => h) sh_232 kcI (fun _ => rfl) ⟨by decide, by decide⟩ (by decide) (by decide) (by decide) ?_
  refine co_putR (k := 4) (ty := .array .int) dX7_init_37 sh_228 (by omega) rfl inX7 (Nat.le_of_ble_eq_true rfl) lf_X7_22 tyX7 tyX7_ok nmX7 rfl rfl rfl (by decide +kernel) rfl rfl (by omega) ?_
  refine co_ret dX7_init_40 rfl rfl rfl ?_
  obtain ⟨z1, z2, z3⟩ := hz _ (Nat.le_refl _)
  refine hQ _ (((((MC.one (a := 228) ?_ ?_ ?_).join (MC.row (c := 228) sh_229 (by omega) hz (by omega) (((((Eq3.rf m _).wR (by omega)).wR (by omega)).wR (by omega)).wR (by omega)))).join (MC.row (c := 228) sh_230 (by omega) hz (by omega) (((((Eq3.rf m _).wR (by omega)).wR (by omega)).wR (by omega)).wR (by omega)))).join (MC.row (c := 228) sh_231 (by omega) hz (by omega) (((((Eq3.rf m _).wR (by omega)).wR (by omega)).wR (by omega)).wR (by omega)))).join (MC.row (c := 228) sh_232 (by omega) hz (by omega) (((((Eq3.rf m _).wR (by omega)).wR (by omega)).wR (by omega)).wR (by omega)))) (fun q hq => ((((Eq3.rf m _).wR (by omega)).wR (by omega)).wR (by omega)).wR (by omega))
  · simp only [wR_i, wI_s]; rw [z1, iM_of sh_228]; rfl
  · simp only [wR_l, wI_l]; exact z2
  · simp only [wR_s, wI_r]; rw [z3, Mr_of sh_228, zeroL 5, va_upL (by simp), va_upL (by simp), va_upL (by simp), va_upL (by simp)]; rfl
theorem eX3_init (G : GP) (d : Nat) (m : Mem) (hz : Fz 233 m) (Q : Nat → Mem → Prop) (hQ : ∀ m', MC (233) (235) m' → (∀ q, q < 233 → Eq3 m m' q) → Q (235) m') : Ec G (d + 1) mX3_init 1 64 [.ref (ga G 233), .ref (ga G 228)] (234) m Q := by
  refine Ec.go [.ref (ga G 233), .ref (ga G 228)] rfl (by decide) (Nat.le_of_ble_eq_true rfl) rfl ?_
  refine co_aload_n dX3_init_0 rfl ?_
  refine co_objInit dX3_init_1 lo_X3 wobj (by omega) (Nat.le_of_ble_eq_true rfl) ?_
  refine co_aload_n dX3_init_4 rfl ?_
  refine co_iconst (v := -1) dX3_init_5 (by decide) ?_
  refine co_putI (k := 0) dX3_init_6 sh_233 (by omega) rfl inX3 (Nat.le_of_ble_eq_true rfl) lf_X3_13 tyX3 tyX3_ok nmX3 rfl rfl (by decide +kernel) ?_
  refine co_aload_n dX3_init_9 rfl ?_
  refine co_iconst (v := -1) dX3_init_10 (by decide) ?_
  refine co_putI (k := 1) dX3_init_11 sh_233 (by omega) rfl inX3 (Nat.le_of_ble_eq_true rfl) lf_X3_17 tyX3 tyX3_ok nmX3 rfl rfl (by decide +kernel) ?_
  refine co_aload_n dX3_init_14 rfl ?_
  refine co_bipush (v := 64) dX3_init_15 (by decide) ?_
  refine co_newa (ty := .int) (ix := 0) (a0 := (64, .inl (fun _ => 0))) dX3_init_17 (by omega) rfl lar_int rfl (fun _ _ h => h) sh_234 kcI (fun _ => rfl) ⟨by decide, by decide⟩ (by decide) (by decide) (by decide) ?_
  refine co_putR (k := 6) (ty := .array .int) dX3_init_19 sh_233 (by omega) rfl inX3 (Nat.le_of_ble_eq_true rfl) lf_X3_20 tyX3 tyX3_ok nmX3 rfl rfl rfl (by decide +kernel) rfl rfl (by omega) ?_
  refine co_aload_n dX3_init_22 rfl ?_
  refine co_aload_n dX3_init_23 rfl ?_
  refine co_putR (k := 2) (ty := .object "BellTongue$Tape") dX3_init_24 sh_233 (by omega) rfl inX3 (Nat.le_of_ble_eq_true rfl) lf_X3_24 tyX3 tyX3_ok nmX3 rfl rfl rfl (by decide +kernel) rfl rfl (by omega) ?_
  refine co_ret dX3_init_27 rfl rfl rfl ?_
  obtain ⟨z1, z2, z3⟩ := hz _ (Nat.le_refl _)
  refine hQ _ ((MC.one (a := 233) ?_ ?_ ?_).join (MC.row (c := 233) sh_234 (by omega) hz (by omega) (((((Eq3.rf m _).wI (by omega)).wI (by omega)).wR (by omega)).wR (by omega)))) (fun q hq => ((((Eq3.rf m _).wI (by omega)).wI (by omega)).wR (by omega)).wR (by omega))
  · simp only [wR_i, wI_s]; rw [z1, iM_of sh_233]; rfl
  · simp only [wR_l, wI_l]; exact z2
  · simp only [wR_s, wI_r]; rw [z3, Mr_of sh_233, zeroL 13, va_upL (by simp), va_upL (by simp)]; rfl
theorem eX4_init (G : GP) (d : Nat) (m : Mem) (hz : Fz 235 m) (Q : Nat → Mem → Prop) (hQ : ∀ m', MC (235) (238) m' → (∀ q, q < 235 → Eq3 m m' q) → Q (238) m') : Ec G (d + 1) mX4_init 2 240 [.ref (ga G 235)] (236) m Q := by
  refine Ec.go [.ref (ga G 235)] rfl (by decide) (Nat.le_of_ble_eq_true rfl) rfl ?_
  refine co_aload_n dX4_init_0 rfl ?_
  refine co_objInit dX4_init_1 lo_X4 wobj (by omega) (Nat.le_of_ble_eq_true rfl) ?_
  refine co_aload_n dX4_init_4 rfl ?_
  refine co_bipush (v := 120) dX4_init_5 (by decide) ?_
  refine co_newa (ty := .int) (ix := 0) (a0 := (120, .inl (fun _ => 0))) dX4_init_7 (by omega) rfl lar_int rfl (fun _ _ h => h) sh_236 kcI (fun _ => rfl) ⟨by decide, by decide⟩ (by decide) (by decide) (by decide) ?_
  refine co_putR (k := 0) (ty := .array .int) dX4_init_9 sh_235 (by omega) rfl inX4 (Nat.le_of_ble_eq_true rfl) lf_X4_11 tyX4 tyX4_ok nmX4 rfl rfl rfl (by decide +kernel) rfl rfl (by omega) ?_
  refine co_aload_n dX4_init_12 rfl ?_
  refine co_bipush (v := 120) dX4_init_13 (by decide) ?_
  refine co_newa (ty := .int) (ix := 0) (a0 := (120, .inl (fun _ => 0))) dX4_init_15 (by omega) rfl lar_int rfl (fun _ _ h => h) sh_237 kcI (fun _ => rfl) ⟨by decide, by decide⟩ (by decide) (by decide) (by decide) ?_
  refine co_putR (k := 1) (ty := .array .int) dX4_init_17 sh_235 (by omega) rfl inX4 (Nat.le_of_ble_eq_true rfl) lf_X4_15 tyX4 tyX4_ok nmX4 rfl rfl rfl (by decide +kernel) rfl rfl (by omega) ?_
  refine co_ret dX4_init_20 rfl rfl rfl ?_
  obtain ⟨z1, z2, z3⟩ := hz _ (Nat.le_refl _)
  refine hQ _ (((MC.one (a := 235) ?_ ?_ ?_).join (MC.row (c := 235) sh_236 (by omega) hz (by omega) (((Eq3.rf m _).wR (by omega)).wR (by omega)))).join (MC.row (c := 235) sh_237 (by omega) hz (by omega) (((Eq3.rf m _).wR (by omega)).wR (by omega)))) (fun q hq => ((Eq3.rf m _).wR (by omega)).wR (by omega))
  · simp only [wR_i, wI_s]; rw [z1, iM_of sh_235]; rfl
  · simp only [wR_l, wI_l]; exact z2
  · simp only [wR_s, wI_r]; rw [z3, Mr_of sh_235, zeroL 2, va_upL (by simp), va_upL (by simp)]; rfl
theorem eX1_init (G : GP) (d : Nat) (m : Mem) (hz : Fz 262 m) (Q : Nat → Mem → Prop) (hQ : ∀ m', MC (262) (266) m' → (∀ q, q < 262 → Eq3 m m' q) → Q (266) m') : Ec G (d + 1) mX1_init 3 2487 [.ref (ga G 262), .ref (ga G 1), .ref (ga G 227)] (263) m Q := by
  refine Ec.go [.ref (ga G 262), .ref (ga G 1), .ref (ga G 227)] rfl (by decide) (Nat.le_of_ble_eq_true rfl) rfl ?_
  refine co_aload_n dX1_init_0 rfl ?_
  refine co_objInit dX1_init_1 lo_X1 wobj (by omega) (Nat.le_of_ble_eq_true rfl) ?_
  refine co_aload_n dX1_init_4 rfl ?_
  refine co_bipush (v := 23) dX1_init_5 (by decide) ?_
  refine co_newa (ty := .int) (ix := 0) (a0 := (23, .inl (fun _ => 0))) dX1_init_7 (by omega) rfl lar_int rfl (fun _ _ h => h) sh_263 kcI (fun _ => rfl) ⟨by decide, by decide⟩ (by decide) (by decide) (by decide) ?_
  refine co_putR (k := 2) (ty := .array .int) dX1_init_9 sh_262 (by omega) rfl inX1 (Nat.le_of_ble_eq_true rfl) lf_X1_11 tyX1 tyX1_ok nmX1 rfl rfl rfl (by decide +kernel) rfl rfl (by omega) ?_
  refine co_aload_n dX1_init_12 rfl ?_
  refine co_bipush (v := 64) dX1_init_13 (by decide) ?_
  refine co_newa (ty := .int) (ix := 0) (a0 := (64, .inl (fun _ => 0))) dX1_init_15 (by omega) rfl lar_int rfl (fun _ _ h => h) sh_264 kcI (fun _ => rfl) ⟨by decide, by decide⟩ (by decide) (by decide) (by decide) ?_
  refine co_putR (k := 3) (ty := .array .int) dX1_init_17 sh_262 (by omega) rfl inX1 (Nat.le_of_ble_eq_true rfl) lf_X1_19 tyX1 tyX1_ok nmX1 rfl rfl rfl (by decide +kernel) rfl rfl (by omega) ?_
  refine co_aload_n dX1_init_20 rfl ?_
  refine co_sipush (v := 2400) dX1_init_21 (by decide) ?_
  refine co_newa (ty := .int) (ix := 0) (a0 := (2400, .inl (fun _ => 0))) dX1_init_24 (by omega) rfl lar_int rfl (fun _ _ h => h) sh_265 kcI (fun _ => rfl) ⟨by decide, by decide⟩ (by decide) (by decide) (by decide) ?_
  refine co_putR (k := 4) (ty := .array .int) dX1_init_26 sh_262 (by omega) rfl inX1 (Nat.le_of_ble_eq_true rfl) lf_X1_22 tyX1 tyX1_ok nmX1 rfl rfl rfl (by decide +kernel) rfl rfl (by omega) ?_
  refine co_aload_n dX1_init_29 rfl ?_
  refine co_aload_n dX1_init_30 rfl ?_
  refine co_putR (k := 0) (ty := .object "BellTongue$World") dX1_init_31 sh_262 (by omega) rfl inX1 (Nat.le_of_ble_eq_true rfl) lf_X1_25 tyX1 tyX1_ok nmX1 rfl rfl rfl (by decide +kernel) rfl rfl (by omega) ?_
  refine co_aload_n dX1_init_34 rfl ?_
  refine co_aload_n dX1_init_35 rfl ?_
  refine co_putR (k := 1) (ty := .array (.object "BellTongue$Text")) dX1_init_36 sh_262 (by omega) rfl inX1 (Nat.le_of_ble_eq_true rfl) lf_X1_29 tyX1 tyX1_ok nmX1 rfl rfl rfl (by decide +kernel) rfl rfl (by omega) ?_
  refine co_ret dX1_init_39 rfl rfl rfl ?_
  obtain ⟨z1, z2, z3⟩ := hz _ (Nat.le_refl _)
  refine hQ _ ((((MC.one (a := 262) ?_ ?_ ?_).join (MC.row (c := 262) sh_263 (by omega) hz (by omega) ((((((Eq3.rf m _).wR (by omega)).wR (by omega)).wR (by omega)).wR (by omega)).wR (by omega)))).join (MC.row (c := 262) sh_264 (by omega) hz (by omega) ((((((Eq3.rf m _).wR (by omega)).wR (by omega)).wR (by omega)).wR (by omega)).wR (by omega)))).join (MC.row (c := 262) sh_265 (by omega) hz (by omega) ((((((Eq3.rf m _).wR (by omega)).wR (by omega)).wR (by omega)).wR (by omega)).wR (by omega)))) (fun q hq => (((((Eq3.rf m _).wR (by omega)).wR (by omega)).wR (by omega)).wR (by omega)).wR (by omega))
  · simp only [wR_i, wI_s]; rw [z1, iM_of sh_262]; rfl
  · simp only [wR_l, wI_l]; exact z2
  · simp only [wR_s, wI_r]; rw [z3, Mr_of sh_262, zeroL 5, va_upL (by simp), va_upL (by simp), va_upL (by simp), va_upL (by simp), va_upL (by simp)]; rfl
theorem eX0_init (G : GP) (d : Nat) (m : Mem) (hz : Fz 266 m) (Q : Nat → Mem → Prop) (hQ : ∀ m', MC (266) (273) m' → (∀ q, q < 266 → Eq3 m m' q) → Q (273) m') : Ec G (d + 1) mX0_init 6 6354 [.ref (ga G 266), .ref (ga G 1), .ref (ga G 262)] (267) m Q := by
  refine Ec.go [.ref (ga G 266), .ref (ga G 1), .ref (ga G 262)] rfl (by decide) (Nat.le_of_ble_eq_true rfl) rfl ?_
  refine co_aload_n dX0_init_0 rfl ?_
  refine co_objInit dX0_init_1 lo_X0 wobj (by omega) (Nat.le_of_ble_eq_true rfl) ?_
  refine co_aload_n dX0_init_4 rfl ?_
  refine co_bipush (v := 24) dX0_init_5 (by decide) ?_
  refine co_newa (ty := .int) (ix := 0) (a0 := (24, .inl (fun _ => 0))) dX0_init_7 (by omega) rfl lar_int rfl (fun _ _ h => h) sh_267 kcI (fun _ => rfl) ⟨by decide, by decide⟩ (by decide) (by decide) (by decide) ?_
  refine co_putR (k := 3) (ty := .array .int) dX0_init_9 sh_266 (by omega) rfl inX0 (Nat.le_of_ble_eq_true rfl) lf_X0_9 tyX0 tyX0_ok nmX0 rfl rfl rfl (by decide +kernel) rfl rfl (by omega) ?_
  refine co_aload_n dX0_init_12 rfl ?_
  refine co_bipush (v := 25) dX0_init_13 (by decide) ?_
  refine co_newa (ty := .int) (ix := 0) (a0 := (25, .inl (fun _ => 0))) dX0_init_15 (by omega) rfl lar_int rfl (fun _ _ h => h) sh_268 kcI (fun _ => rfl) ⟨by decide, by decide⟩ (by decide) (by decide) (by decide) ?_
  refine co_putR (k := 4) (ty := .array .int) dX0_init_17 sh_266 (by omega) rfl inX0 (Nat.le_of_ble_eq_true rfl) lf_X0_15 tyX0 tyX0_ok nmX0 rfl rfl rfl (by decide +kernel) rfl rfl (by omega) ?_
  refine co_aload_n dX0_init_20 rfl ?_
  refine co_bipush (v := 25) dX0_init_21 (by decide) ?_
  refine co_newa (ty := .int) (ix := 0) (a0 := (25, .inl (fun _ => 0))) dX0_init_23 (by omega) rfl lar_int rfl (fun _ _ h => h) sh_269 kcI (fun _ => rfl) ⟨by decide, by decide⟩ (by decide) (by decide) (by decide) ?_
  refine co_putR (k := 5) (ty := .array .int) dX0_init_25 sh_266 (by omega) rfl inX0 (Nat.le_of_ble_eq_true rfl) lf_X0_18 tyX0 tyX0_ok nmX0 rfl rfl rfl (by decide +kernel) rfl rfl (by omega) ?_
  refine co_aload_n dX0_init_28 rfl ?_
  refine co_bipush (v := 25) dX0_init_29 (by decide) ?_
  refine co_newa (ty := .int) (ix := 0) (a0 := (25, .inl (fun _ => 0))) dX0_init_31 (by omega) rfl lar_int rfl (fun _ _ h => h) sh_270 kcI (fun _ => rfl) ⟨by decide, by decide⟩ (by decide) (by decide) (by decide) ?_
  refine co_putR (k := 6) (ty := .array .int) dX0_init_33 sh_266 (by omega) rfl inX0 (Nat.le_of_ble_eq_true rfl) lf_X0_21 tyX0 tyX0_ok nmX0 rfl rfl rfl (by decide +kernel) rfl rfl (by omega) ?_
  refine co_aload_n dX0_init_36 rfl ?_
  refine co_sipush (v := 6250) dX0_init_37 (by decide) ?_
  refine co_newa (ty := .int) (ix := 0) (a0 := (6250, .inl (fun _ => 0))) dX0_init_40 (by omega) rfl lar_int rfl (fun _ _ h => h) sh_271 kcI (fun _ => rfl) ⟨by decide, by decide⟩ (by decide) (by decide) (by decide) ?_
  refine co_putR (k := 7) (ty := .array .int) dX0_init_42 sh_266 (by omega) rfl inX0 (Nat.le_of_ble_eq_true rfl) lf_X0_24 tyX0 tyX0_ok nmX0 rfl rfl rfl (by decide +kernel) rfl rfl (by omega) ?_
  refine co_aload_n dX0_init_45 rfl ?_
  refine co_iconst (v := 5) dX0_init_46 (by decide) ?_
  refine co_newa (ty := .int) (ix := 0) (a0 := (5, .inl (fun _ => 0))) dX0_init_47 (by omega) rfl lar_int rfl (fun _ _ h => h) sh_272 kcI (fun _ => rfl) ⟨by decide, by decide⟩ (by decide) (by decide) (by decide) ?_
  refine co_putR (k := 8) (ty := .array .int) dX0_init_49 sh_266 (by omega) rfl inX0 (Nat.le_of_ble_eq_true rfl) lf_X0_27 tyX0 tyX0_ok nmX0 rfl rfl rfl (by decide +kernel) rfl rfl (by omega) ?_
  refine co_aload_n dX0_init_52 rfl ?_
  refine co_aload_n dX0_init_53 rfl ?_
  refine co_putR (k := 0) (ty := .object "BellTongue$World") dX0_init_54 sh_266 (by omega) rfl inX0 (Nat.le_of_ble_eq_true rfl) lf_X0_30 tyX0 tyX0_ok nmX0 rfl rfl rfl (by decide +kernel) rfl rfl (by omega) ?_
  refine co_aload_n dX0_init_57 rfl ?_
  refine co_aload_n dX0_init_58 rfl ?_
  refine co_putR (k := 1) (ty := .object "BellTongue$Judge") dX0_init_59 sh_266 (by omega) rfl inX0 (Nat.le_of_ble_eq_true rfl) lf_X0_34 tyX0 tyX0_ok nmX0 rfl rfl rfl (by decide +kernel) rfl rfl (by omega) ?_
  refine co_ret dX0_init_62 rfl rfl rfl ?_
  obtain ⟨z1, z2, z3⟩ := hz _ (Nat.le_refl _)
  refine hQ _ (((((((MC.one (a := 266) ?_ ?_ ?_).join (MC.row (c := 266) sh_267 (by omega) hz (by omega) (((((((((Eq3.rf m _).wR (by omega)).wR (by omega)).wR (by omega)).wR (by omega)).wR (by omega)).wR (by omega)).wR (by omega)).wR (by omega)))).join (MC.row (c := 266) sh_268 (by omega) hz (by omega) (((((((((Eq3.rf m _).wR (by omega)).wR (by omega)).wR (by omega)).wR (by omega)).wR (by omega)).wR (by omega)).wR (by omega)).wR (by omega)))).join (MC.row (c := 266) sh_269 (by omega) hz (by omega) (((((((((Eq3.rf m _).wR (by omega)).wR (by omega)).wR (by omega)).wR (by omega)).wR (by omega)).wR (by omega)).wR (by omega)).wR (by omega)))).join (MC.row (c := 266) sh_270 (by omega) hz (by omega) (((((((((Eq3.rf m _).wR (by omega)).wR (by omega)).wR (by omega)).wR (by omega)).wR (by omega)).wR (by omega)).wR (by omega)).wR (by omega)))).join (MC.row (c := 266) sh_271 (by omega) hz (by omega) (((((((((Eq3.rf m _).wR (by omega)).wR (by omega)).wR (by omega)).wR (by omega)).wR (by omega)).wR (by omega)).wR (by omega)).wR (by omega)))).join (MC.row (c := 266) sh_272 (by omega) hz (by omega) (((((((((Eq3.rf m _).wR (by omega)).wR (by omega)).wR (by omega)).wR (by omega)).wR (by omega)).wR (by omega)).wR (by omega)).wR (by omega)))) (fun q hq => ((((((((Eq3.rf m _).wR (by omega)).wR (by omega)).wR (by omega)).wR (by omega)).wR (by omega)).wR (by omega)).wR (by omega)).wR (by omega))
  · simp only [wR_i, wI_s]; rw [z1, iM_of sh_266]; rfl
  · simp only [wR_l, wI_l]; exact z2
  · simp only [wR_s, wI_r]; rw [z3, Mr_of sh_266, zeroL 9, va_upL (by simp), va_upL (by simp), va_upL (by simp), va_upL (by simp), va_upL (by simp), va_upL (by simp), va_upL (by simp), va_upL (by simp)]; rfl
