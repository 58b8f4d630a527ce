abbrev Qi (K : Int32 → Mem → Prop) : Option Value → Mem → Prop := fun v m' => ∃ r : Int32, v = some (.int r) ∧ K r m'
abbrev Ql (K : Int64 → Mem → Prop) : Option Value → Mem → Prop := fun v m' => ∃ r : Int64, v = some (.long r) ∧ K r m'
abbrev Qv (K : Mem → Prop) : Option Value → Mem → Prop := fun v m' => v = none ∧ K m'
abbrev Qr (G : GP) (K : Option Nat → Mem → Prop) : Option Value → Mem → Prop := fun v m' => ∃ r : Option Nat, v = some (va_rf (r.map (ga G))) ∧ K r m'
theorem k_i {G : GP} {d : Nat} {y : MD} {pc : Nat} {L S : List Value} {K : Int32 → Mem → Prop} {Q : Option Value → Mem → Prop} (kk : ∀ (r : Int32) (m' : Mem), K r m' → Gw G d y pc L (.int r :: S) m' Q) : ∀ (v : Option Value) (m' : Mem), (∃ r : Int32, v = some (.int r) ∧ K r m') → Gw G d y pc L (v.toList ++ S) m' Q := by
  rintro v m' ⟨r, rfl, h⟩
  exact kk r m' h
theorem k_l {G : GP} {d : Nat} {y : MD} {pc : Nat} {L S : List Value} {K : Int64 → Mem → Prop} {Q : Option Value → Mem → Prop} (kk : ∀ (r : Int64) (m' : Mem), K r m' → Gw G d y pc L (.long r :: S) m' Q) : ∀ (v : Option Value) (m' : Mem), (∃ r : Int64, v = some (.long r) ∧ K r m') → Gw G d y pc L (v.toList ++ S) m' Q := by
  rintro v m' ⟨r, rfl, h⟩
  exact kk r m' h
theorem k_v {G : GP} {d : Nat} {y : MD} {pc : Nat} {L S : List Value} {K : Mem → Prop} {Q : Option Value → Mem → Prop} (kk : ∀ (m' : Mem), K m' → Gw G d y pc L S m' Q) : ∀ (v : Option Value) (m' : Mem), (v = none ∧ K m') → Gw G d y pc L (v.toList ++ S) m' Q := by
  rintro v m' ⟨rfl, h⟩
  exact kk m' h
theorem k_r {G : GP} {d : Nat} {y : MD} {pc : Nat} {L S : List Value} {K : Option Nat → Mem → Prop} {Q : Option Value → Mem → Prop} (kn : ∀ (m' : Mem), K none m' → Gw G d y pc L (.null :: S) m' Q) (ks : ∀ (x : Nat) (m' : Mem), K (some x) m' → Gw G d y pc L (.ref (ga G x) :: S) m' Q) : ∀ (v : Option Value) (m' : Mem), (∃ r : Option Nat, v = some (va_rf (r.map (ga G))) ∧ K r m') → Gw G d y pc L (v.toList ++ S) m' Q := by
  rintro v m' ⟨r, rfl, h⟩
  cases r with
  | none => exact kn m' h
  | some x => exact ks x m' h
theorem Gw.namei {G : GP} {d : Nat} {y : MD} {pc : Nat} {L S : List Value} {m : Mem} {Q : Option Value → Mem → Prop} {e : Int32} (k : ∀ n : Int32, n = e → Gw G d y pc L (.int n :: S) m Q) : Gw G d y pc L (.int e :: S) m Q := k e rfl
theorem Gw.namel {G : GP} {d : Nat} {y : MD} {pc : Nat} {L S : List Value} {m : Mem} {Q : Option Value → Mem → Prop} {e : Int64} (k : ∀ n : Int64, n = e → Gw G d y pc L (.long n :: S) m Q) : Gw G d y pc L (.long e :: S) m Q := k e rfl
def TxAt (t : Nat) : Prop := SH[t]? = some (8, 9, [0, 0, t + 1, t + 2, 0, 0, t + 3, t + 4, t + 5]) ∧ SH[t + 1]? = some (100, 24, []) ∧ SH[t + 2]? = some (100, 144, []) ∧ SH[t + 3]? = some (100, 300, []) ∧ SH[t + 4]? = some (100, 3, []) ∧ SH[t + 5]? = some (100, 3, [])
def SeAt (t : Nat) : Prop := SH[t]? = some (5, 8, [0, 0, 0, 0, 0, t + 1, 0, t + 2]) ∧ SH[t + 1]? = some (100, 24, []) ∧ SH[t + 2]? = some (100, 80, [])
theorem tx_all : ∀ i, i < 4 → TxAt (238 + 6 * i) := by
  intro i hi
  have h : (List.range 4).all (fun i => (SH[(238 + 6 * i)]? == some (8, 9, [0, 0, (238 + 6 * i) + 1, (238 + 6 * i) + 2, 0, 0, (238 + 6 * i) + 3, (238 + 6 * i) + 4, (238 + 6 * i) + 5])) && (SH[(238 + 6 * i) + 1]? == some (100, 24, [])) && (SH[(238 + 6 * i) + 2]? == some (100, 144, [])) && (SH[(238 + 6 * i) + 3]? == some (100, 300, [])) && (SH[(238 + 6 * i) + 4]? == some (100, 3, [])) && (SH[(238 + 6 * i) + 5]? == some (100, 3, []))) = true := by decide +kernel
  have h1 := List.all_eq_true.mp h i (List.mem_range.mpr hi)
  simp only [Bool.and_eq_true, beq_iff_eq] at h1
  unfold TxAt
  simp only [h1, and_self]
theorem se_all16 : ∀ i, i < 30 → SeAt (17 + 3 * i) := by
  intro i hi
  have h : (List.range 30).all (fun i => (SH[(17 + 3 * i)]? == some (5, 8, [0, 0, 0, 0, 0, (17 + 3 * i) + 1, 0, (17 + 3 * i) + 2])) && (SH[(17 + 3 * i) + 1]? == some (100, 24, [])) && (SH[(17 + 3 * i) + 2]? == some (100, 80, []))) = true := by decide +kernel
  have h1 := List.all_eq_true.mp h i (List.mem_range.mpr hi)
  simp only [Bool.and_eq_true, beq_iff_eq] at h1
  unfold SeAt
  simp only [h1, and_self]
theorem se_all129 : ∀ i, i < 30 → SeAt (130 + 3 * i) := by
  intro i hi
  have h : (List.range 30).all (fun i => (SH[(130 + 3 * i)]? == some (5, 8, [0, 0, 0, 0, 0, (130 + 3 * i) + 1, 0, (130 + 3 * i) + 2])) && (SH[(130 + 3 * i) + 1]? == some (100, 24, [])) && (SH[(130 + 3 * i) + 2]? == some (100, 80, []))) = true := by decide +kernel
  have h1 := List.all_eq_true.mp h i (List.mem_range.mpr hi)
  simp only [Bool.and_eq_true, beq_iff_eq] at h1
  unfold SeAt
  simp only [h1, and_self]
theorem se_now : SeAt 12 := by unfold SeAt; decide +kernel
theorem se_kept : SeAt 125 := by unfold SeAt; decide +kernel
theorem vp_in_lt {i : Int32} {n : Nat} (h : vp_in i n) : i.toNatClampNeg < n := Nat.lt_of_not_le (fun q => h (Or.inr q))
theorem tx_refs : ∀ i, i < 4 → ([238, 244, 250, 256] : List Nat)[i]? = some (238 + 6 * i) := by decide +kernel
theorem tx_get {i : Int32} {t : Nat} (h : vp_in i 4) (e : t = 238 + 6 * i.toNatClampNeg) : ([238, 244, 250, 256] : List Nat)[i.toNatClampNeg]? = some t ∧ TxAt t := by
  subst e
  exact ⟨tx_refs _ (vp_in_lt h), tx_all _ (vp_in_lt h)⟩
theorem se_refs16 : ∀ i, i < 30 → ([17, 20, 23, 26, 29, 32, 35, 38, 41, 44, 47, 50, 53, 56, 59, 62, 65, 68, 71, 74, 77, 80, 83, 86, 89, 92, 95, 98, 101, 104] : List Nat)[i]? = some (17 + 3 * i) := by decide +kernel
theorem se_get16 {i : Int32} {t : Nat} (h : vp_in i 30) (e : t = 17 + 3 * i.toNatClampNeg) : ([17, 20, 23, 26, 29, 32, 35, 38, 41, 44, 47, 50, 53, 56, 59, 62, 65, 68, 71, 74, 77, 80, 83, 86, 89, 92, 95, 98, 101, 104] : List Nat)[i.toNatClampNeg]? = some t ∧ SeAt t := by
  subst e
  exact ⟨se_refs16 _ (vp_in_lt h), se_all16 _ (vp_in_lt h)⟩
theorem se_refs129 : ∀ i, i < 30 → ([130, 133, 136, 139, 142, 145, 148, 151, 154, 157, 160, 163, 166, 169, 172, 175, 178, 181, 184, 187, 190, 193, 196, 199, 202, 205, 208, 211, 214, 217] : List Nat)[i]? = some (130 + 3 * i) := by decide +kernel
theorem se_get129 {i : Int32} {t : Nat} (h : vp_in i 30) (e : t = 130 + 3 * i.toNatClampNeg) : ([130, 133, 136, 139, 142, 145, 148, 151, 154, 157, 160, 163, 166, 169, 172, 175, 178, 181, 184, 187, 190, 193, 196, 199, 202, 205, 208, 211, 214, 217] : List Nat)[i.toNatClampNeg]? = some t ∧ SeAt t := by
  subst e
  exact ⟨se_refs129 _ (vp_in_lt h), se_all129 _ (vp_in_lt h)⟩
theorem tab_out (l : List Int32) (lo hi : Int) (x : Int32) (hc : (List.range (hi - lo + 1).toNat).all (fun k => l.contains (Int32.ofInt (lo + k))) = true) (h : ∀ v ∈ l, ¬ x = v) : x.toInt < lo ∨ hi < x.toInt := by
  rcases Decidable.em (x.toInt < lo ∨ hi < x.toInt) with q | q
  · exact q
  · exfalso
    have h1 : lo ≤ x.toInt ∧ x.toInt ≤ hi := by omega
    have h2 := List.all_eq_true.mp hc (x.toInt - lo).toNat (List.mem_range.mpr (by omega))
    have h3 : lo + ((x.toInt - lo).toNat : Int) = x.toInt := by omega
    rw [h3, Int32.ofInt_toInt] at h2
    exact h x (List.contains_iff_mem.mp h2) rfl
theorem ne_toInt {x : Int32} {v : Int32} {a : Int} (ha : v.toInt = a) (h : ¬ x = v) : ¬ x.toInt = a := fun e => h (Int32.toInt_inj.mp (e.trans ha.symm))
def wk : List Value → List Value → Prop
  | [], [] => True
  | a :: l, b :: l' => (b = a ∨ b = uu) ∧ wk l l'
  | _, _ => False
theorem wk_get : ∀ (L L' : List Value) (i : Nat) (v : Value), wk L L' → L'[i]? = some v → v ≠ uu → L[i]? = some v
  | [], [], i, v, _, h, _ => by simp at h
  | [], b :: l', i, v, h, _, _ => h.elim
  | a :: l, [], i, v, h, _, _ => h.elim
  | a :: l, b :: l', 0, v, h, h2, hu => by
    cases h2
    rcases h.1 with e | e
    · rw [e]; rfl
    · exact absurd e hu
  | a :: l, b :: l', i + 1, v, h, h2, hu => wk_get l l' i v h.2 h2 hu
theorem Gw.weak {G : GP} {d : Nat} {y : MD} {pc : Nat} {L L' S : List Value} {m : Mem} {Q : Option Value → Mem → Prop} (h : wk L L') (k : Gw G d y pc L' S m Q) : Gw G d y pc L S m Q := fun p e s me args below meth c H locs ls C hP hS hl => k p e s me args below meth c H locs ls C hP hS ⟨hl.1, hl.2.1, fun i v hi hu => hl.2.2 i v (wk_get L L' i v h hi hu) hu⟩
