/-! the model reads a clause, whole -/
theorem stI_c {kd nm : Nat → Nat} {cnt k a b : Nat} (hc : kd cnt = 1) (ha : k = 0 ∨ a ≠ 1) {r : Nat × Nat × List Nat} (h : r.2.1 ≤ cnt) : (stI kd nm k a b r).2.1 ≤ cnt := by
  have lt : kd r.2.1 ≠ 1 → r.2.1 + 1 ≤ cnt := fun hk => by
    rcases Nat.lt_or_ge r.2.1 cnt with q | q
    · exact q
    · have : r.2.1 = cnt := by omega
      rw [this] at hk
      exact absurd hc hk
  unfold stI
  by_cases h0 : r.1 ≠ 0
  · rw [if_pos h0]; exact h
  rw [if_neg h0]
  by_cases hk : k = 0
  · rw [if_pos hk]
    by_cases h2 : kd r.2.1 ≠ 2
    · rw [if_pos h2]; exact h
    · rw [if_neg h2]
      by_cases h3 : a ≤ nm r.2.1 ∧ nm r.2.1 ≤ b
      · rw [if_pos h3]; exact lt (by omega)
      · rw [if_neg h3]; exact h
  · rw [if_neg hk]
    by_cases h2 : kd r.2.1 = a
    · rw [if_pos h2]; exact lt (by omega)
    · rw [if_neg h2]; exact h
theorem belP_c {kd nm : Nat → Nat} {cnt : Nat} (hc : kd cnt = 1) : ∀ (f n : Nat) (r : Nat × Nat × List Nat), r.2.1 ≤ cnt → (belP kd nm f n r).2.1 ≤ cnt
  | 0, n, r, h => h
  | f + 1, n, r, h => by
    unfold belP
    by_cases h0 : r.1 ≠ 0
    · rw [if_pos h0]; exact h
    rw [if_neg h0]
    by_cases h2 : kd r.2.1 ≠ 2
    · rw [if_pos h2]; exact h
    rw [if_neg h2]
    by_cases h4 : n = 4
    · rw [if_pos h4]
      by_cases h5 : nm r.2.1 ≤ 5
      · rw [if_pos h5]; exact h
      · rw [if_neg h5]; exact h
    rw [if_neg h4]
    exact belP_c hc f (n + 1) _ (stI_c hc (Or.inl rfl) h)
theorem bodP_c {kd nm : Nat → Nat} {cnt s : Nat} (hc : kd cnt = 1) {r : Nat × Nat × List Nat} (h : r.2.1 ≤ cnt) : (bodP kd nm s r).2.1 ≤ cnt := by
  unfold bodP
  by_cases h3 : s = 3
  · rw [if_pos h3]
    exact stI_c hc (Or.inl rfl) (stI_c hc (Or.inr (by decide)) (stI_c hc (Or.inl rfl) (stI_c hc (Or.inr (by decide)) (stI_c hc (Or.inl rfl) h))))
  rw [if_neg h3]
  by_cases h4 : s = 4
  · rw [if_pos h4]
    exact belP_c hc 4 1 _ (stI_c hc (Or.inl rfl) (stI_c hc (Or.inr (by decide)) (stI_c hc (Or.inl rfl) (stI_c hc (Or.inr (by decide)) (stI_c hc (Or.inl rfl) h)))))
  rw [if_neg h4]
  by_cases h5 : s = 5
  · rw [if_pos h5]; exact stI_c hc (Or.inl rfl) h
  rw [if_neg h5]
  by_cases h9 : s = 9
  · rw [if_pos h9]; exact stI_c hc (Or.inl rfl) h
  rw [if_neg h9]
  by_cases h10 : s = 10
  · rw [if_pos h10]; exact h
  rw [if_neg h10]
  exact stI_c hc (Or.inl rfl) h
theorem mbeg2 (G : GP) {kd nm st : Nat → Nat} {cnt : Nat} {T : Nat → Mem → Prop} (H : TokM G kd nm st cnt T) (d t0 s k i : Nat) (m4 : Mem) (KK : Int32 → Mem → Prop) (ht : t0 < 4) (hk : k < 24) (hT : T i m4) (h1 : kd i ≠ 1) (h13 : m4.1 273 13 = nI (801 * t0)) (hKK : ∀ m7, T (i + 1) m7 → (∀ c, c ≠ 273 → c ≠ 276 → m7.1 c = m4.1 c) → (∀ p, ¬ (8 ≤ p ∧ p ≤ 11) → m7.1 273 p = m4.1 273 p) → m7.1 276 = upd (m4.1 276) (801 * t0 + 1 + 8 * k) (nI s) → KK (nI (801 * t0 + 1 + 8 * k)) m7) : Evv G (d + 9) mX12_nextToken [.ref (ga G 273)] m4 (fun m5 => ∀ x6 : Int32, x6 = ((m5.1 273 13) + 1) + ((8 : Int32) * nI k) → vp_in x6 3204 ∧ ∀ m7 : Mem, m7 = wI m5 276 x6.toNatClampNeg (nI s) → KK x6 m7) := by
  refine H.nx hT h1 (fun m5 v5 hT5 x6 ex6 => ?_)
  have e6 : x6 = nI (801 * t0 + 1 + 8 * k) := by
    rw [ex6, v5.p (show ¬ (8 ≤ 13 ∧ 13 ≤ 11) by omega), h13, show (1 : Int32) = nI 1 from rfl, show (8 : Int32) = nI 8 from rfl, pk_mul, nI_add, nI_add]
  have t6 : (nI (801 * t0 + 1 + 8 * k)).toNatClampNeg = 801 * t0 + 1 + 8 * k := tn_nI (by omega)
  rw [e6, t6]
  refine ⟨in_nI (by omega) (by omega), fun m7 em7 => hKK m7 ?_ (fun c h1 h2 => ?_) (fun p hp => ?_) ?_⟩
  · rw [em7]; exact H.fr hT5 (ms_276 m5 _ _)
  · rw [em7, wI_n _ _ _ h2, v5.1 c h1]
  · rw [em7, wI_n _ _ _ (by omega), v5.p hp]
  · rw [em7, wI_s, v5.1 276 (by omega)]
theorem qX12_clause (G : GP) {kd nm st : Nat → Nat} {cnt : Nat} {T : Nat → Mem → Prop} (H : TokM G kd nm st cnt T) (d t0 i : Nat) (C : List (Nat × Nat)) (cls : List (Nat × List Nat)) (lw : Nat → Nat × Nat) (m : Mem) (K : Int32 → Mem → Prop) (ht : t0 < 4) (h : MYs T cnt t0 i C cls lw m) (hw : Wc cls) (h1 : kd i ≠ 1) (hK : ∀ e j V C' m', clP kd nm cnt lw cls.length i C = (e, j, V, C') → e ≤ 7 → T j m' → FM t0 m m' → (e = 0 → MYs T cnt t0 j C' (cls ++ [(kd i - 100, V)]) (lwU lw (kd i - 100) C.length C'.length) m' ∧ Wc (cls ++ [(kd i - 100, V)])) → K (nI e) m') : Evi G (d + 10) mX12_clause [.ref (ga G 273)] m K := by
  obtain ⟨hT, h13, h14, hO, hM, h0, hR, hi, hCi, h24⟩ := h
  have hcb := H.cb
  have hlt := H.lt hi h1
  have tt : (nI (801 * t0)).toNatClampNeg = 801 * t0 := tn_nI (by omega)
  have e24 : nI cls.length = 24 ↔ cls.length = 24 := eq_nI (b := 24) (by omega) (by omega)
  refine vX12_clause G d m K (qX12_sortOf G H (d + 4) i m _ hT (fun s hs es => ⟨fun _ => ⟨fun q2 => ?_, fun q2 => ?_⟩, fun z => absurd (nI_neg1 (by omega)) z⟩) (fun hn => ⟨fun z => absurd z (by decide), fun _ => hK 1 i [] C m (by unfold clP; rw [if_pos (by omega)]) (by omega) hT (FM.rf t0 m) (fun z => absurd z (by decide))⟩))
  · have s3 : 3 ≤ s := (lt_nI (a := 2) (by omega) (by omega)).mp q2
    have n103 : ¬ kd i < 103 := by omega
    have hs' : kd i - 100 = s := by omega
    rw [h13, tt, h0]
    refine ⟨in_nI (by omega) (by omega), fun x3 ex3 => ?_⟩
    subst ex3
    rw [e24]
    refine ⟨fun k24 => ⟨fun _ m4 em4 => ?_, fun z => absurd q2 z⟩, fun k24 => hK 6 i [] C m (by unfold clP; rw [if_neg (by omega), if_neg (fun z => n103 z.1), if_pos (by omega)]) (by omega) hT (FM.rf t0 m) (fun z => absurd z (by decide))⟩
    have hk : cls.length < 24 := by omega
    have a3 : m4.1 273 = upd (m.1 273) 15 (nI s) := by rw [em4, wI_s]
    have ao : ∀ c, c ≠ 273 → m4.1 c = m.1 c := fun c h => by rw [em4, wI_n _ _ _ h]
    have hT4 : T i m4 := H.fr hT ⟨fun p hp => by rw [a3, upd_n _ _ (by omega)], ao 278 (by omega), by rw [em4]; rfl⟩
    refine mbeg2 G H d t0 s cls.length i m4 _ ht hk hT4 h1 (by rw [a3, upd_n _ _ (by omega)]; exact h13) (fun m7 hT7 b1 b2 b3 => ?_)
    have b3' : m7.1 276 = upd (m.1 276) (801 * t0 + 1 + 8 * cls.length) (nI s) := by rw [b3, ao 276 (by omega)]
    have f7 : FM t0 m m7 := ⟨fun c h1 h2 _ => (b1 c h1 h2).trans (ao c h1), fun p hp => by rw [b2 p (by omega), a3, upd_n _ _ (by omega)], by rw [b2 13 (by omega), a3, upd_n _ _ (by omega)], fun p hp => by rw [b3', upd_n _ _ (by omega)]⟩
    have c7 : ∀ p, ¬ (8 ≤ p ∧ p ≤ 11) → p ≠ 15 → m7.1 273 p = m.1 273 p := fun p hp h15 => by rw [b2 p hp, a3, upd_n _ _ h15]
    refine qX12_body G H d t0 cls.length s (i + 1) m7 _ ht hk ⟨s3, hs⟩ hT7 (fun r m8 q1 q3 q4 q5 q6 => ?_)
    have hbl := bodP_len kd nm s (i + 1)
    have hbm := bodP_m kd nm s (0, i + 1, [])
    have hbc := bodP_c (nm := nm) (s := s) H.ec (r := (0, i + 1, [])) (by show i + 1 ≤ cnt; omega)
    have eqc : clP kd nm cnt lw cls.length i C = ((stI kd nm 1 59 0 (bodP kd nm s (0, i + 1, []))).1, (stI kd nm 1 59 0 (bodP kd nm s (0, i + 1, []))).2.1, (stI kd nm 1 59 0 (bodP kd nm s (0, i + 1, []))).2.2, C) := by
      unfold clP
      rw [if_neg (by omega), if_neg (fun z => n103 z.1), if_neg (by omega), if_neg n103, hs']
    rw [← q1] at eqc hbl hbm hbc
    obtain ⟨e, j, V⟩ := r
    have q3 : e ≤ 7 := q3
    have q4 : T j m8 := q4
    have hbl : V.length ≤ 6 := hbl
    have hbm : i + 1 ≤ j := hbm
    have hbc : j ≤ cnt := hbc
    rw [nz_nI q3]
    refine ⟨fun z => ?_, fun z => hK e j V C m8 (by rw [eqc, stI_abs (r := (e, j, V)) z]) q3 q4 (f7.tr (q5.fm hk)) (fun y => absurd y z)⟩
    subst z
    have hQ : MQs t0 cls.length s V (m8.1 276) := q6 rfl
    have d13 : m8.1 273 13 = nI (801 * t0) := by rw [q5.2.1 13 (by omega), c7 13 (by omega) (by omega)]; exact h13
    have d0 : m8.1 276 (801 * t0) = nI cls.length := by rw [q5.2.2 _ (by omega), b3', upd_n _ _ (by omega)]; exact h0
    refine mend G H d t0 cls.length j m8 K ht hk q4 d13 d0 (fun k59 m9 hT9 f9 g1 g2 => ?_) (fun k59 m9 hT9 f9 => ?_)
    · have es9 : stI kd nm 1 59 0 (0, j, V) = (0, j + 1, V) := by
        unfold stI
        rw [if_neg (fun y => y rfl), if_neg (by decide), if_pos k59]
      rw [es9] at eqc
      have g9 : ∀ p, p ≠ 801 * t0 → p ≠ 801 * t0 + 1 + 8 * cls.length → (p < 801 * t0 + 2 + 8 * cls.length ∨ 801 * t0 + 8 + 8 * cls.length ≤ p) → m9.1 276 p = m.1 276 p := fun p y1 y2 y3 => by rw [g2, upd_n _ _ y1, q5.2.2 p y3, b3', upd_n _ _ y2]
      have lwe : lwU lw (kd i - 100) C.length C.length = lw := by
        funext l
        exact if_neg (by omega)
      refine hK 0 (j + 1) V C m9 eqc (by omega) hT9 ((f7.tr (q5.fm hk)).tr f9) (fun _ => ⟨⟨hT9, ?_, ?_, ?_, fun q hq => ?_, ?_, fun k' hk' => ?_, H.lt hbc (by omega), by omega, by rw [List.length_append, List.length_singleton]; omega⟩, hw.app (fun _ => hbl)⟩)
      · rw [g1 13 (by omega)]; exact d13
      · rw [g1 14 (by omega), q5.2.1 14 (by omega), c7 14 (by omega) (by omega)]; exact h14
      · rw [lwe, g1 20 (by omega), q5.2.1 20 (by omega), c7 20 (by omega) (by omega)]; exact hO
      · rw [g9 _ (by omega) (by omega) (by omega), g9 _ (by omega) (by omega) (by omega)]; exact hM q hq
      · rw [g2, upd_s, List.length_append, List.length_singleton]
      · rw [List.length_append, List.length_singleton] at hk'
        rw [clG_app, lwe, hs']
        by_cases ek : k' = cls.length
        · rw [if_pos ek, ek]
          refine ⟨?_, fun z => absurd z (by show ¬ s < 3; omega), fun _ => ⟨fun y q hq => ?_, fun y q hq => ?_⟩⟩
          · rw [g2, upd_n _ _ (by omega), q5.2.2 _ (by omega), b3', upd_s]
          · rw [g2, upd_n _ _ (by omega)]; exact hQ.1 y q hq
          · rw [g2, upd_n _ _ (by omega)]; exact hQ.2 y q hq
        · rw [if_neg ek]
          exact (hR.fr hw (fun p y1 y2 => g9 p (by omega) (by omega) (by omega))) k' (by omega)
    · have es9 : stI kd nm 1 59 0 (0, j, V) = (1, j, V) := by
        unfold stI
        rw [if_neg (fun y => y rfl), if_neg (by decide), if_neg k59]
      rw [es9] at eqc
      exact hK 1 j V C m9 eqc (by omega) hT9 ((f7.tr (q5.fm hk)).tr f9) (fun y => absurd y (by decide))
  · have s3 : s < 3 := by
      rcases Nat.lt_or_ge s 3 with y | y
      · exact y
      · exact absurd ((lt_nI (a := 2) (by omega) (by omega)).mpr (by omega)) q2
    have s103 : kd i < 103 := by omega
    have hs' : kd i - 100 = s := by omega
    rw [hO.is s3]
    refine ⟨fun z => hK 4 i [] C m (by unfold clP; rw [if_neg (by omega), if_pos ⟨s103, by rw [hs']; exact z⟩]) (by omega) hT (FM.rf t0 m) (fun z => absurd z (by decide)), fun z => ?_⟩
    have nz : ¬ (kd i < 103 ∧ (lw (kd i - 100)).1 < (lw (kd i - 100)).2) := fun y => z (by rw [hs'] at y; exact y.2)
    rw [h13, tt, h0]
    refine ⟨in_nI (by omega) (by omega), fun x3 ex3 => ?_⟩
    subst ex3
    rw [e24]
    refine ⟨fun k24 => ⟨fun y => absurd y q2, fun _ m30 em30 m4 em4 => ?_⟩, fun k24 => hK 6 i [] C m (by unfold clP; rw [if_neg (by omega), if_neg nz, if_pos (by omega)]) (by omega) hT (FM.rf t0 m) (fun z => absurd z (by decide))⟩
    have hk : cls.length < 24 := by omega
    have a3 : m4.1 273 = upd (upd (m.1 273) 20 (m.1 273 20 ||| ((1 : Int32) <<< (nI s &&& 31)))) 15 (nI s) := by rw [em4, wI_s, em30, wI_s]
    have ao : ∀ c, c ≠ 273 → m4.1 c = m.1 c := fun c h => by rw [em4, wI_n _ _ _ h, em30, wI_n _ _ _ h]
    have hT4 : T i m4 := H.fr hT ⟨fun p hp => by rw [a3, upd_n _ _ (by omega), upd_n _ _ (by omega)], ao 278 (by omega), by rw [em4, em30]; rfl⟩
    refine mbeg2 G H d t0 s cls.length i m4 _ ht hk hT4 h1 (by rw [a3, upd_n _ _ (by omega), upd_n _ _ (by omega)]; exact h13) (fun m7 hT7 b1 b2 b3 => ?_)
    have b3' : m7.1 276 = upd (m.1 276) (801 * t0 + 1 + 8 * cls.length) (nI s) := by rw [b3, ao 276 (by omega)]
    have c7 : ∀ p, ¬ (8 ≤ p ∧ p ≤ 11) → p ≠ 15 → p ≠ 20 → m7.1 273 p = m.1 273 p := fun p hp h15 h20 => by rw [b2 p hp, a3, upd_n _ _ h15, upd_n _ _ h20]
    have c20 : m7.1 273 20 = m.1 273 20 ||| ((1 : Int32) <<< (nI s &&& 31)) := by rw [b2 20 (by omega), a3, upd_n _ _ (by omega), upd_s]
    have c15 : m7.1 273 15 = nI s := by rw [b2 15 (by omega), a3, upd_s]
    have f7 : FM t0 m m7 := ⟨fun c h1 h2 _ => (b1 c h1 h2).trans (ao c h1), fun p hp => c7 p (by omega) (by omega) (by omega), c7 13 (by omega) (by omega) (by omega), fun p hp => by rw [b3', upd_n _ _ (by omega)]⟩
    have hM7 : CM t0 C (m7.1 276) := fun q hq => by
      rw [b3', upd_n _ _ (by omega), upd_n _ _ (by omega)]
      exact hM q hq
    have ne : ∀ a : Nat, 3 ≤ a → a < 200 → ¬ nI s = nI a := fun a h3 h2 y => by
      have := (eq_nI (by omega) (by omega)).mp y
      omega
    refine vX12_body G d _ _ m7 _ ⟨fun y => absurd y (ne 3 (by omega) (by omega)), fun y => absurd y (ne 4 (by omega) (by omega)), fun y => absurd y (ne 5 (by omega) (by omega)), fun y => absurd y (ne 6 (by omega) (by omega)), fun y => absurd y (ne 7 (by omega) (by omega)), fun y => absurd y (ne 8 (by omega) (by omega)), fun y => absurd y (ne 9 (by omega) (by omega)), fun y => absurd y (ne 10 (by omega) (by omega)), fun _ => ⟨fun y => absurd y q2, fun _ => ?_⟩⟩
    refine qX12_lawClause G H d t0 s (i + 1) cls.length C m7 _ ht s3 hk hlt (by omega) hT7 ((c7 13 (by omega) (by omega) (by omega)).trans h13) ((c7 14 (by omega) (by omega) (by omega)).trans h14) c15 hM7 (fun e j C' m8 q1 q3 q4 q5 r1 r2 r3 r4 => ?_)
    have f8 : FM t0 m7 m8 := ⟨fun c h1 h2 h3 => r1 c h1 h2 h3, fun p hp => r2 p (by omega), r2 13 (by omega), fun p hp => r3 p (by omega) (by omega) (by omega)⟩
    have eqc : clP kd nm cnt lw cls.length i C = if e = 0 ∧ kd j = 59 then (0, j + 1, [], C') else (if e = 0 then 1 else e, j, [], C) := by
      unfold clP
      rw [if_neg (by omega), if_neg nz, if_neg (by omega), if_pos s103, hs', q1]
    rw [nz_nI (by omega)]
    refine ⟨fun y => ?_, fun y => hK e j [] C m8 (by rw [eqc, if_neg (fun w => y w.1), if_neg y]) (by omega) q5 (f7.tr f8) (fun w => absurd w y)⟩
    subst y
    obtain ⟨u1, u2, u3, u4⟩ := r4 rfl
    obtain ⟨y1, y2, y3, y4, y5⟩ := lawP_C s3 (by omega) q1
    have ypos := y3.pos
    have d13 : m8.1 273 13 = nI (801 * t0) := by rw [r2 13 (by omega), c7 13 (by omega) (by omega) (by omega)]; exact h13
    have d0 : m8.1 276 (801 * t0) = nI cls.length := by rw [r3 _ (by omega) (by omega) (by omega), b3', upd_n _ _ (by omega)]; exact h0
    refine mend G H d t0 cls.length j m8 K ht hk q5 d13 d0 (fun k59 m9 hT9 f9 g1 g2 => ?_) (fun k59 m9 hT9 f9 => hK 1 j [] C m9 (by rw [eqc, if_neg (fun w => k59 w.2), if_pos rfl]) (by omega) hT9 ((f7.tr f8).tr f9) (fun w => absurd w (by decide)))
    rw [if_pos ⟨rfl, k59⟩] at eqc
    have g9 : ∀ p, 801 * t0 + 1 ≤ p → p < 801 * t0 + 1 + 8 * cls.length → m9.1 276 p = m.1 276 p := fun p x1 x2 => by rw [g2, upd_n _ _ (by omega), r3 p (by omega) (by omega) (by omega), b3', upd_n _ _ (by omega)]
    refine hK 0 (j + 1) [] C' m9 eqc (by omega) hT9 ((f7.tr f8).tr f9) (fun _ => ⟨⟨hT9, ?_, ?_, ?_, fun q hq => ?_, ?_, fun k' hk' => ?_, H.lt q4 (by omega), by omega, by rw [List.length_append, List.length_singleton]; omega⟩, hw.app (fun _ => by show 0 ≤ 6; omega)⟩)
    · rw [g1 13 (by omega)]; exact d13
    · rw [g1 14 (by omega)]; exact u1
    · rw [g1 20 (by omega), r2 20 (by omega), c20, hs']; exact hO.up s3 ypos
    · rw [g2, upd_n _ _ (by omega), upd_n _ _ (by omega)]; exact u2 q hq
    · rw [g2, upd_s, List.length_append, List.length_singleton]
    · rw [List.length_append, List.length_singleton] at hk'
      rw [clG_app, hs']
      by_cases ek : k' = cls.length
      · rw [if_pos ek, ek]
        have el : lwU lw s C.length C'.length s = (C.length, C'.length) := if_pos ⟨s3, rfl⟩
        refine ⟨?_, fun _ => ?_, fun w => absurd w (by show ¬ 3 ≤ s; omega)⟩
        · rw [g2, upd_n _ _ (by omega), r3 _ (by omega) (by omega) (by omega), b3', upd_s]
        · show seen (lwU lw s C.length C'.length) s ∧ _ = nI (lwU lw s C.length C'.length s).1 ∧ _ = nI (lwU lw s C.length C'.length s).2
          unfold seen
          rw [el, g2, upd_n _ _ (by omega), upd_n _ _ (by omega)]
          exact ⟨ypos, u3, u4⟩
      · rw [if_neg ek]
        obtain ⟨v1, v2, v3⟩ := (hR.fr hw g9) k' (by omega)
        refine ⟨v1, fun w => ?_, v3⟩
        obtain ⟨w1, w2, w3⟩ := v2 w
        have nes : (clG cls k').1 ≠ s := fun x => z (by rw [x] at w1; exact w1)
        have el : lwU lw s C.length C'.length (clG cls k').1 = lw (clG cls k').1 := if_neg (fun x => nes x.2)
        unfold seen
        rw [el]
        exact ⟨w1, w2, w3⟩
