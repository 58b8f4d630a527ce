/-! the model reads a clause -/
def FM (t0 : Nat) (m m' : Mem) : Prop := (∀ c, c ≠ 273 → c ≠ 276 → c ≠ 279 → m'.1 c = m.1 c) ∧ (∀ p, ¬ (8 ≤ p ∧ p ≤ 20) → m'.1 273 p = m.1 273 p) ∧ m'.1 273 13 = m.1 273 13 ∧ ∀ p, p < 801 * t0 ∨ 801 * t0 + 801 ≤ p → m'.1 276 p = m.1 276 p
theorem FM.rf (t0 : Nat) (m : Mem) : FM t0 m m := ⟨fun _ _ _ _ => rfl, fun _ _ => rfl, rfl, fun _ _ => rfl⟩
theorem FM.tr {t0 : Nat} {a b c : Mem} (h : FM t0 a b) (j : FM t0 b c) : FM t0 a c := ⟨fun q h1 h2 h3 => (j.1 q h1 h2 h3).trans (h.1 q h1 h2 h3), fun p hp => (j.2.1 p hp).trans (h.2.1 p hp), j.2.2.1.trans h.2.2.1, fun p hp => (j.2.2.2 p hp).trans (h.2.2.2 p hp)⟩
theorem MV.fm {t0 : Nat} {m m' : Mem} (h : MV m m') : FM t0 m m' := ⟨fun c h1 _ _ => h.1 c h1, fun p hp => h.p (by omega), h.p (by omega), fun p _ => by rw [h.1 276 (by omega)]⟩
theorem FB.fm {t0 k : Nat} {m m' : Mem} (h : FB t0 k m m') (hk : k < 24) : FM t0 m m' := ⟨fun c h1 h2 _ => h.1 c h1 h2, fun p hp => h.2.1 p (by omega), h.2.1 13 (by omega), fun p hp => h.2.2 p (by omega)⟩
theorem belP_len (kd nm : Nat → Nat) : ∀ (f n : Nat) (r : Nat × Nat × List Nat), n ≤ 4 → r.2.2.length ≤ n + 2 → (belP kd nm f n r).2.2.length ≤ 6
  | 0, n, r, hn, h => by show r.2.2.length ≤ 6; omega
  | f + 1, n, r, hn, h => by
    unfold belP
    by_cases h0 : r.1 ≠ 0
    · rw [if_pos h0]; omega
    rw [if_neg h0]
    by_cases h2 : kd r.2.1 ≠ 2
    · rw [if_pos h2]; omega
    rw [if_neg h2]
    by_cases h4 : n = 4
    · rw [if_pos h4]
      by_cases h5 : nm r.2.1 ≤ 5
      · rw [if_pos h5]; show r.2.2.length ≤ 6; omega
      · rw [if_neg h5]; show r.2.2.length ≤ 6; omega
    rw [if_neg h4]
    have := (stI_l0 kd nm 0 5 r).1
    exact belP_len kd nm f (n + 1) _ (by omega) (by omega)
theorem bodP_len (kd nm : Nat → Nat) (s i : Nat) : (bodP kd nm s (0, i, [])).2.2.length ≤ 6 := by
  have l0 : ((0, i, []) : Nat × Nat × List Nat).2.2.length = 0 := rfl
  generalize ((0, i, []) : Nat × Nat × List Nat) = r at l0
  unfold bodP
  by_cases h3 : s = 3
  · rw [if_pos h3]
    have a1 := (stI_l0 kd nm 1 9 r).1
    have a2 := (stI_l1 kd nm 111 0 (stI kd nm 0 1 9 r)).1
    have a3 := (stI_l0 kd nm 0 9 (stI kd nm 1 111 0 (stI kd nm 0 1 9 r))).1
    have a4 := (stI_l1 kd nm 112 0 (stI kd nm 0 0 9 (stI kd nm 1 111 0 (stI kd nm 0 1 9 r)))).1
    have a5 := (stI_l0 kd nm 1 9 (stI kd nm 1 112 0 (stI kd nm 0 0 9 (stI kd nm 1 111 0 (stI kd nm 0 1 9 r))))).1
    rw [a2] at a3
    rw [a4] at a5
    omega
  rw [if_neg h3]
  by_cases h4 : s = 4
  · rw [if_pos h4]
    have a1 := (stI_l0 kd nm 0 3 r).1
    have a2 := (stI_l1 kd nm 113 0 (stI kd nm 0 0 3 r)).1
    have a3 := (stI_l0 kd nm 0 99 (stI kd nm 1 113 0 (stI kd nm 0 0 3 r))).1
    have a4 := (stI_l1 kd nm 58 0 (stI kd nm 0 0 99 (stI kd nm 1 113 0 (stI kd nm 0 0 3 r)))).1
    have a5 := (stI_l0 kd nm 0 5 (stI kd nm 1 58 0 (stI kd nm 0 0 99 (stI kd nm 1 113 0 (stI kd nm 0 0 3 r))))).1
    rw [a2] at a3
    rw [a4] at a5
    exact belP_len kd nm 4 1 _ (by omega) (by omega)
  rw [if_neg h4]
  by_cases h5 : s = 5
  · rw [if_pos h5]; have := (stI_l0 kd nm 0 5 r).1; omega
  rw [if_neg h5]
  by_cases h9 : s = 9
  · rw [if_pos h9]; have := (stI_l0 kd nm 1 60 r).1; omega
  rw [if_neg h9]
  by_cases h10 : s = 10
  · rw [if_pos h10]; omega
  rw [if_neg h10]
  have := (stI_l0 kd nm 0 9 r).1
  omega
def Wc (cls : List (Nat × List Nat)) : Prop := ∀ k, k < cls.length → 3 ≤ (clG cls k).1 → (clG cls k).2.length ≤ 6
theorem Wc.app {cls : List (Nat × List Nat)} {x : Nat × List Nat} (h : Wc cls) (hx : 3 ≤ x.1 → x.2.length ≤ 6) : Wc (cls ++ [x]) := by
  intro k hk
  rw [List.length_append, List.length_singleton] at hk
  rw [clG_app]
  by_cases e : k = cls.length
  · rw [if_pos e]; exact hx
  · rw [if_neg e]; exact h k (by omega)
/-- a clause is begun -/
theorem mbeg (G : GP) {kd nm st : Nat → Nat} {cnt : Nat} {T : Nat → Mem → Prop} (H : TokM G kd nm st cnt T) (d t0 s k i : Nat) (m4 : Mem) (KK : Mem → Prop) (ht : t0 < 4) (hk : k < 24) (hT : T i m4) (h1 : kd i ≠ 1) (h13 : m4.1 273 13 = nI (801 * t0)) (hKK : ∀ m7, T (i + 1) m7 → (∀ c, c ≠ 273 → c ≠ 276 → m7.1 c = m4.1 c) → (∀ p, ¬ (8 ≤ p ∧ p ≤ 11) → m7.1 273 p = m4.1 273 p) → m7.1 276 = upd (m4.1 276) (801 * t0 + 1 + 8 * k) (nI s) → KK m7) : Evv G (d + 9) mX12_nextToken [.ref (ga G 273)] m4 (fun m5 => ∀ x6 : Int32, x6 = ((m5.1 273 13) + 1) + ((8 : Int32) * nI k) → vp_in x6 3204 ∧ ∀ m7 : Mem, m7 = wI m5 276 x6.toNatClampNeg (nI s) → x6 = nI (801 * t0 + 1 + 8 * k) ∧ KK m7) := by
  refine H.nx hT h1 (fun m5 v5 hT5 x6 ex6 => ?_)
  have e6 : x6 = nI (801 * t0 + 1 + 8 * k) := by
    rw [ex6, v5.p (show ¬ (8 ≤ 13 ∧ 13 ≤ 11) by omega), h13, show (1 : Int32) = nI 1 from rfl, show (8 : Int32) = nI 8 from rfl, pk_mul, nI_add, nI_add]
  have t6 : (nI (801 * t0 + 1 + 8 * k)).toNatClampNeg = 801 * t0 + 1 + 8 * k := tn_nI (by omega)
  rw [e6, t6]
  refine ⟨in_nI (by omega) (by omega), fun m7 em7 => ⟨rfl, hKK m7 ?_ (fun c h1 h2 => ?_) (fun p hp => ?_) ?_⟩⟩
  · rw [em7]; exact H.fr hT5 (ms_276 m5 _ _)
  · rw [em7, wI_n _ _ _ h2, v5.1 c h1]
  · rw [em7, wI_n _ _ _ (by omega), v5.p hp]
  · rw [em7, wI_s, v5.1 276 (by omega)]
