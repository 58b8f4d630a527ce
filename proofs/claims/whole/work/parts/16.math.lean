def imax (a b : Int32) : Int32 := if a < b then b else a
def imin (a b : Int32) : Int32 := if b < a then b else a
def iabs (a : Int32) : Int32 := if 0 ≤ a then a else 0 - a
theorem wmax : Cond.static Lib.Math.max.name ∈ tblG ∧ Cond.initialized "java/lang/Math" ∈ tblG ∧ Cond.code Lib.Math.max.name Lib.Math.max.code 2 (some .int) ∈ tblG := ⟨isJ9_max_7cf53, wi_J9, okJ9_max_7cf53.2.1⟩
theorem wmin : Cond.static Lib.Math.min.name ∈ tblG ∧ Cond.initialized "java/lang/Math" ∈ tblG ∧ Cond.code Lib.Math.min.name Lib.Math.min.code 2 (some .int) ∈ tblG := ⟨isJ9_min_7cf53, wi_J9, okJ9_min_7cf53.2.1⟩
theorem wabs : Cond.static Lib.Math.abs.name ∈ tblG ∧ Cond.initialized "java/lang/Math" ∈ tblG ∧ Cond.code Lib.Math.abs.name Lib.Math.abs.code 1 (some .int) ∈ tblG := ⟨isJ9_abs_0f7a4, wi_J9, okJ9_abs_0f7a4.2.1⟩
theorem go_mmax {G : GP} {d : Nat} {y : MD} {pc : Nat} {L S : List Value} {m : Mem} {Q : Option Value → Mem → Prop} {idx : Nat} {a b : Int32} (dg : decode y.2.1 pc = .ok (.invokestatic idx, 3)) (hk : Cond.methodLink y.1.cls idx yJ9_max_7cf53 ∈ tblG) (hrm : (S.map fun v => v.category).sum ≤ 8) (k : Gw G (d + 1) y (pc + 3) L (.int (imax a b) :: S) m Q) : Gw G (d + 1) y pc L (.int b :: .int a :: S) m Q := by
  intro p e s me args below meth c H locs ls C hP hS hl
  obtain ⟨hx, hb, hret, hlk, hml, hown, hts, hK, hN, hZ, hG⟩ := id C
  exact va_mmax hx hb (hml.trans hl.1.symm) hown (hts _ hk) (hts _ wmax.1) (hts _ wmax.2.1) (hts _ wmax.2.2) (show 1 ≤ d + 1 by omega) (show _ ≤ 40 * (d + 1) by omega) (Nat.le_refl 0) (Nat.le_refl 0) dg (k p e s me args below meth c H locs ls C hP hS hl)
theorem go_mmin {G : GP} {d : Nat} {y : MD} {pc : Nat} {L S : List Value} {m : Mem} {Q : Option Value → Mem → Prop} {idx : Nat} {a b : Int32} (dg : decode y.2.1 pc = .ok (.invokestatic idx, 3)) (hk : Cond.methodLink y.1.cls idx yJ9_min_7cf53 ∈ tblG) (hrm : (S.map fun v => v.category).sum ≤ 8) (k : Gw G (d + 1) y (pc + 3) L (.int (imin a b) :: S) m Q) : Gw G (d + 1) y pc L (.int b :: .int a :: S) m Q := by
  intro p e s me args below meth c H locs ls C hP hS hl
  obtain ⟨hx, hb, hret, hlk, hml, hown, hts, hK, hN, hZ, hG⟩ := id C
  exact va_mmin hx hb (hml.trans hl.1.symm) hown (hts _ hk) (hts _ wmin.1) (hts _ wmin.2.1) (hts _ wmin.2.2) (show 1 ≤ d + 1 by omega) (show _ ≤ 40 * (d + 1) by omega) (Nat.le_refl 0) (Nat.le_refl 0) dg (k p e s me args below meth c H locs ls C hP hS hl)
theorem go_mabs {G : GP} {d : Nat} {y : MD} {pc : Nat} {L S : List Value} {m : Mem} {Q : Option Value → Mem → Prop} {idx : Nat} {a : Int32} (dg : decode y.2.1 pc = .ok (.invokestatic idx, 3)) (hk : Cond.methodLink y.1.cls idx yJ9_abs_0f7a4 ∈ tblG) (hrm : (S.map fun v => v.category).sum ≤ 8) (k : Gw G (d + 1) y (pc + 3) L (.int (iabs a) :: S) m Q) : Gw G (d + 1) y pc L (.int a :: S) m Q := by
  intro p e s me args below meth c H locs ls C hP hS hl
  obtain ⟨hx, hb, hret, hlk, hml, hown, hts, hK, hN, hZ, hG⟩ := id C
  exact va_mabs hx hb (hml.trans hl.1.symm) hown (hts _ hk) (hts _ wabs.1) (hts _ wabs.2.1) (hts _ wabs.2.2) (show 1 ≤ d + 1 by omega) (show _ ≤ 40 * (d + 1) by omega) (Nat.le_refl 0) (Nat.le_refl 0) dg (k p e s me args below meth c H locs ls C hP hS hl)
theorem look_out (x : Int32) (df : Int) : ∀ (ps : List (Int × Int)), (∀ q ∈ ps, ¬ x.toInt = q.1) → Op.lookupswitch.offset ps df x.toInt = df
  | [], _ => rfl
  | (a, o) :: ps, h => by
    have h1 := look_out x df ps (fun z hz => h z (List.mem_cons_of_mem _ hz))
    have h2 : ¬ a = x.toInt := fun e => h (a, o) List.mem_cons_self e.symm
    rw [Op.lookupswitch.offset, if_neg h2]
    exact h1
theorem go_ialdK {G : GP} {d : Nat} {y : MD} {pc : Nat} {L S : List Value} {m : Mem} {Q : Option Value → Mem → Prop} {c len k : Nat} {i : Int32} (dg : decode y.2.1 pc = .ok (.iaload, 1)) (hs : SH[c]? = some (100, len, [])) (hi : vp_in i len) (hk : i.toNatClampNeg = k) (kk : Gw G d y (pc + 1) L (.int (m.1 c k) :: S) m Q) : Gw G d y pc L (.int i :: .ref (ga G c) :: S) m Q := go_iald dg hs hi (by rw [hk]; exact kk)
theorem go_baldK {G : GP} {d : Nat} {y : MD} {pc : Nat} {L S : List Value} {m : Mem} {Q : Option Value → Mem → Prop} {c len k : Nat} {i : Int32} (dg : decode y.2.1 pc = .ok (.baload, 1)) (hs : SH[c]? = some (101, len, [])) (hi : vp_in i len) (hk : i.toNatClampNeg = k) (kk : Gw G d y (pc + 1) L (.int (m.1 c k) :: S) m Q) : Gw G d y pc L (.int i :: .ref (ga G c) :: S) m Q := go_bald dg hs hi (by rw [hk]; exact kk)
theorem go_zaldK {G : GP} {d : Nat} {y : MD} {pc : Nat} {L S : List Value} {m : Mem} {Q : Option Value → Mem → Prop} {c len k : Nat} {i : Int32} (dg : decode y.2.1 pc = .ok (.baload, 1)) (hs : SH[c]? = some (102, len, [])) (hi : vp_in i len) (hk : i.toNatClampNeg = k) (kk : Gw G d y (pc + 1) L (.int (m.1 c k) :: S) m Q) : Gw G d y pc L (.int i :: .ref (ga G c) :: S) m Q := go_zald dg hs hi (by rw [hk]; exact kk)
theorem go_iastK {G : GP} {d : Nat} {y : MD} {pc : Nat} {L S : List Value} {m : Mem} {Q : Option Value → Mem → Prop} {c len k : Nat} {i : Int32} {v : Int32} (dg : decode y.2.1 pc = .ok (.iastore, 1)) (hs : SH[c]? = some (100, len, [])) (hi : vp_in i len) (hk : i.toNatClampNeg = k) (kk : Gw G d y (pc + 1) L S (wI m c k v) Q) : Gw G d y pc L (.int v :: .int i :: .ref (ga G c) :: S) m Q := go_iast dg hs hi (by rw [hk]; exact kk)
theorem vp_in_dec {i : Int32} {n : Nat} (h : (decide (0 ≤ i.toInt) && decide (i.toInt < n)) = true) : vp_in i n := by
  simp only [Bool.and_eq_true, decide_eq_true_eq] at h
  exact vp_in_iff.mpr h
