/-! the model's clauses: words, bodies -/
theorem belP_abs {kd nm : Nat → Nat} : ∀ {f n : Nat} {r : Nat × Nat × List Nat}, r.1 ≠ 0 → belP kd nm f n r = r
  | 0, _, _, _ => rfl
  | _ + 1, _, _, h => if_pos h
theorem wfill (G : GP) {kd nm st : Nat → Nat} {cnt : Nat} {T : Nat → Mem → Prop} (H : TokM G kd nm st cnt T) (d t0 k i : Nat) (ht : t0 < 4) (hk : k < 24) : ∀ (f j : Nat) (u : Value) (m : Mem) (K : Int32 → Mem → Prop), j + f = 4 → T i m → (∀ m', T i m' → FB t0 k m m' → (∀ q, q < 2 + j → m'.1 276 (801 * t0 + 2 + 8 * k + q) = m.1 276 (801 * t0 + 2 + 8 * k + q)) → (∀ q, 2 + j ≤ q → q < 6 → m'.1 276 (801 * t0 + 2 + 8 * k + q) = -1) → Gw G (d + 4) mX12_wordClause 85 [.ref (ga G 273), .int (nI (801 * t0 + 1 + 8 * k)), uu, .int 0] [] m' (Qi K)) → Gw G (d + 4) mX12_wordClause 61 [.ref (ga G 273), .int (nI (801 * t0 + 1 + 8 * k)), u, .int (nI j)] [] m (Qi K)
  | 0, j, u, m, K, hj, hT, hK => by
    have : j = 4 := by omega
    subst this
    exact vX12_wordClause_61 G d _ u _ m K ⟨fun _ => hK m hT (FB.rf t0 k m) (fun _ _ => rfl) (fun q h1 h2 => by omega), fun z => absurd (by decide) z⟩
  | f + 1, j, u, m, K, hj, hT, hK => by
    have e4 : (4 : Int32) ≤ nI j ↔ 4 ≤ j := le_nI (a := 4) (by omega) (by omega)
    have e3 : nI (801 * t0 + 1 + 8 * k) + 3 + nI j = nI (801 * t0 + 2 + 8 * k + (2 + j)) := by
      rw [show (3 : Int32) = nI 3 from rfl, nI_add, nI_add]
      congr 1; omega
    have t3 : (nI (801 * t0 + 2 + 8 * k + (2 + j))).toNatClampNeg = 801 * t0 + 2 + 8 * k + (2 + j) := tn_nI (by omega)
    refine vX12_wordClause_61 G d _ u _ m K ?_
    rw [e4, e3, t3]
    refine ⟨fun z => by omega, fun _ => ⟨in_nI (by omega) (by omega), fun m1 em1 x8 ex => ?_⟩⟩
    rw [show x8 = nI (j + 1) from ex.trans (nI_add j 1)]
    have a6 : m1.1 276 = upd (m.1 276) (801 * t0 + 2 + 8 * k + (2 + j)) (-1) := by rw [em1, wI_s]
    have ao : ∀ c, c ≠ 276 → m1.1 c = m.1 c := fun c h => by rw [em1, wI_n _ _ _ h]
    have hT1 : T i m1 := by rw [em1]; exact H.fr hT (ms_276 m _ _)
    have f1 : FB t0 k m m1 := ⟨fun c _ h2 => ao c h2, fun p _ => by rw [ao 273 (by omega)], fun p hp => by rw [a6, upd_n _ _ (by omega)]⟩
    refine wfill G H d t0 k i ht hk f (j + 1) _ m1 K (by omega) hT1 (fun m' g1 g2 g3 g4 => hK m' g1 (f1.tr g2) (fun q hq => ?_) (fun q h1 h2 => ?_))
    · rw [g3 q (by omega), a6, upd_n _ _ (by omega)]
    · by_cases e : q = 2 + j
      · rw [g3 q (by omega), a6, e, upd_s]
      · exact g4 q (by omega) h2
theorem wbell (G : GP) {kd nm st : Nat → Nat} {cnt : Nat} {T : Nat → Mem → Prop} (H : TokM G kd nm st cnt T) (d t0 k : Nat) (ht : t0 < 4) (hk : k < 24) : ∀ (f n i : Nat) (V : List Nat) (u : Value) (m : Mem) (K : Int32 → Mem → Prop), n + f = 5 → 1 ≤ n → n ≤ 4 → V.length = n + 2 → T i m → MNp t0 k V (m.1 276) → (∀ r m', r = belP kd nm f n (0, i, V) → r.1 ≤ 7 → T r.2.1 m' → FB t0 k m m' → (r.1 = 0 → MNp t0 k r.2.2 (m'.1 276)) → K (nI r.1) m') → Gw G (d + 4) mX12_wordClause 85 [.ref (ga G 273), .int (nI (801 * t0 + 1 + 8 * k)), u, .int (nI n)] [] m (Qi K)
  | 0, n, i, V, u, m, K, hn, h1, h4, hV, hT, hM, hK => by omega
  | f + 1, n, i, V, u, m, K, hn, h1, h4, hV, hT, hM, hK => by
    have hk' := H.tk hT
    have e0 : nI n = 0 ↔ n = 0 := eq_nI (b := 0) (by omega) (by omega)
    have e4 : nI n = 4 ↔ n = 4 := eq_nI (b := 4) (by omega) (by omega)
    have e3 : nI (801 * t0 + 1 + 8 * k) + 3 + nI n = nI (801 * t0 + 2 + 8 * k + V.length) := by
      rw [show (3 : Int32) = nI 3 from rfl, nI_add, nI_add, hV]
      congr 1; omega
    have eb : belP kd nm (f + 1) n (0, i, V) = if kd i ≠ 2 then (0, i, V) else if n = 4 then (if nm i ≤ 5 then (7, i, V) else (2, i, V)) else belP kd nm f (n + 1) (stI kd nm 0 0 5 (0, i, V)) := by
      show (if ((0 : Nat)) ≠ 0 then (0, i, V) else _) = _
      rw [if_neg (by decide)]
    refine vX12_wordClause_85 G d _ u _ m K ?_
    rw [e0, e4, e3]
    refine ⟨fun z => by omega, fun _ => ⟨fun q => ?_, fun q => ⟨fun z4 => ?_, fun z4 => ?_⟩⟩⟩
    · have k2 : kd i ≠ 2 := fun z => q (hk'.num.mpr z)
      rw [if_pos k2] at eb
      exact hK (0, i, V) m eb.symm (by show 0 ≤ 7; omega) hT (FB.rf t0 k m) (fun _ => hM)
    · have k2 : kd i = 2 := hk'.num.mp q
      rw [if_neg (fun w => w k2), if_neg z4] at eb
      refine mfig G H (d + 1) t0 k i 0 5 V m _ ht hk (by omega) (by omega) (by omega) hT (fun r1 m1 q1 q2 q3 q4 q5 => ?_)
      rw [← q1] at eb
      rw [nz_nI q2]
      refine ⟨fun z x11 ex => ?_, fun z => hK r1 m1 (by rw [eb, belP_abs z]) q2 q3 q4 (fun y => absurd y z)⟩
      obtain ⟨p1, p2⟩ := q5 z
      obtain ⟨a1, j1, V1⟩ := r1
      have z : a1 = 0 := z
      subst z
      have p1 : V1 = V ++ [nm i] := p1
      have nM : MNp t0 k V1 (m1.1 276) := by
        rw [p1, p2]
        exact hM.push
      rw [show x11 = nI (n + 1) from ex.trans (nI_add n 1)]
      have l1 : V1.length = n + 1 + 2 := by rw [p1, List.length_append, hV]; rfl
      exact wbell G H d t0 k ht hk f (n + 1) j1 V1 _ m1 K (by omega) (by omega) (by omega) l1 q3 nM (fun r m' s1 s2 s3 s4 s5 => hK r m' (by rw [eb]; exact s1) s2 s3 (q4.tr s4) s5)
    · have k2 : kd i = 2 := hk'.num.mp q
      rw [if_neg (fun w => w k2), if_pos z4] at eb
      obtain ⟨v, ev, hv, env⟩ := hk'.nu k2
      rw [ev]
      have e5 : nI v ≤ 5 ↔ v ≤ 5 := le_nI (b := 5) (by omega) (by omega)
      rw [e5]
      refine ⟨fun y => ?_, fun y => ?_⟩
      · rw [if_pos (by omega)] at eb
        exact hK (7, i, V) m eb.symm (by show 7 ≤ 7; omega) hT (FB.rf t0 k m) (fun z => absurd z (show ¬ ((7 : Nat) = 0) by decide))
      · rw [if_neg (by omega)] at eb
        exact hK (2, i, V) m eb.symm (by show 2 ≤ 7; omega) hT (FB.rf t0 k m) (fun z => absurd z (show ¬ ((2 : Nat) = 0) by decide))
theorem qX12_wordClause (G : GP) {kd nm st : Nat → Nat} {cnt : Nat} {T : Nat → Mem → Prop} (H : TokM G kd nm st cnt T) (d t0 k i : Nat) (m : Mem) (K : Int32 → Mem → Prop) (ht : t0 < 4) (hk : k < 24) (hT : T i m) (hK : ∀ r m', r = bodP kd nm 4 (0, i, []) → r.1 ≤ 7 → T r.2.1 m' → FB t0 k m m' → (r.1 = 0 → MNp t0 k r.2.2 (m'.1 276)) → K (nI r.1) m') : Evi G (d + 4) mX12_wordClause [.ref (ga G 273), .int (nI (801 * t0 + 1 + 8 * k))] m K := by
  have e1 : nI (801 * t0 + 1 + 8 * k) + 1 = nI (801 * t0 + 2 + 8 * k + 0) := by rw [show (1 : Int32) = nI 1 from rfl, nI_add]; congr 1; omega
  have e2 : nI (801 * t0 + 1 + 8 * k) + 2 = nI (801 * t0 + 2 + 8 * k + 1) := by rw [show (2 : Int32) = nI 2 from rfl, nI_add]; congr 1; omega
  refine vX12_wordClause G d _ m K ?_
  rw [e1, e2]
  have hb : bodP kd nm 4 (0, i, []) = belP kd nm 4 1 (stI kd nm 0 0 5 (stI kd nm 1 58 0 (stI kd nm 0 0 99 (stI kd nm 1 113 0 (stI kd nm 0 0 3 (0, i, [])))))) := rfl
  refine mfig G H (d + 1) t0 k i 0 3 [] m _ ht hk (by decide) (by omega) (by omega) hT (fun r1 m1 q1 q2 q3 q4 q5 => ?_)
  rw [← q1] at hb
  obtain ⟨a1, j1, V1⟩ := r1
  have q2 : a1 ≤ 7 := q2
  have q3 : T j1 m1 := q3
  rw [nz_nI q2]
  refine ⟨fun z => ⟨fun y => absurd y z, fun _ => hK (a1, j1, V1) m1 (by rw [hb, stI_abs (r := (a1, j1, V1)) z, stI_abs (r := (a1, j1, V1)) z, stI_abs (r := (a1, j1, V1)) z, stI_abs (r := (a1, j1, V1)) z, belP_abs (r := (a1, j1, V1)) z]) q2 q3 q4 (fun y => absurd y z)⟩, fun z => ?_⟩
  subst z
  obtain ⟨p1, p2⟩ := q5 rfl
  have p1 : V1 = [nm i] := p1
  have n1 : MN t0 k V1 (m1.1 276) := by
    rw [p1, p2]
    exact MN.push (V := []) (fun q hq => by cases hq)
  have l1 : V1.length = 1 := by rw [p1]; rfl
  have W := mword G H d t0 k j1 0 99 113 (w5V 109 101 97 110 115) V1 m1
  rw [l1] at W
  refine W _ ht hk (by omega) (by omega) (by omega) (by decide) q3 (H.tk q3).means (fun r2 m2 s1 s2 s3 s4 s5 => ?_)
  rw [← s1] at hb
  obtain ⟨a2, j2, V2⟩ := r2
  have s2 : a2 ≤ 7 := s2
  have s3 : T j2 m2 := s3
  rw [nz_nI s2]
  refine ⟨fun z => ?_, fun z => hK (a2, j2, V2) m2 (by rw [hb, stI_abs (r := (a2, j2, V2)) z, stI_abs (r := (a2, j2, V2)) z, belP_abs (r := (a2, j2, V2)) z]) s2 s3 (q4.tr s4) (fun y => absurd y z)⟩
  subst z
  obtain ⟨x2, p3, p4⟩ := s5 rfl
  have p3 : V2 = V1 ++ [x2] := p3
  have n2 : MN t0 k V2 (m2.1 276) := by
    have := n1.push (x := x2)
    rw [l1] at this
    rw [p3, p4]
    exact this
  have l2 : V2.length = 2 := by rw [p3, List.length_append, l1]; rfl
  have hk2 := H.tk s3
  refine ⟨fun q => ?_, fun q => ?_⟩
  · have k58 : kd j2 = 58 := (hk2.sym (k := 58) (by omega)).mp q
    have e58 : stI kd nm 1 58 0 (0, j2, V2) = (0, j2 + 1, V2) := by
      unfold stI
      rw [if_neg (fun y => y rfl), if_neg (by decide), if_pos k58]
    rw [e58] at hb
    refine H.nx (i := j2) s3 (by omega) (fun m3 v3 hT3 => ?_)
    refine wfill G H d t0 k (j2 + 1) ht hk 4 0 _ m3 K rfl hT3 (fun m4 g1 g2 g3 g4 => ?_)
    have hM4 : MNp t0 k V2 (m4.1 276) := by
      intro q hq
      unfold vAt
      by_cases h2 : q < 2
      · rw [if_pos (by omega), g3 q (by omega), v3.1 276 (by omega)]
        exact n2 q (by omega)
      · rw [if_neg (by omega)]
        exact g4 q (by omega) hq
    have e3 : nI (801 * t0 + 1 + 8 * k) + 3 + 0 = nI (801 * t0 + 2 + 8 * k + V2.length) := by
      rw [show (3 : Int32) = nI 3 from rfl, show (0 : Int32) = nI 0 from rfl, nI_add, nI_add, l2]
      congr 1; omega
    refine vX12_wordClause_85 G d _ _ _ m4 K ⟨fun _ => ⟨fun _ => ?_, fun z => absurd z (by decide)⟩, fun z => absurd rfl z⟩
    rw [e3]
    refine mfig G H (d + 1) t0 k (j2 + 1) 0 5 V2 m4 _ ht hk (by omega) (by omega) (by omega) g1 (fun r5 m5 u1 u2 u3 u4 u5 => ?_)
    rw [← u1] at hb
    have ff := ((q4.tr s4).tr (v3.fb.tr g2)).tr u4
    rw [nz_nI u2]
    refine ⟨fun z x11 ex => ?_, fun z => hK r5 m5 (by rw [hb, belP_abs z]) u2 u3 ff (fun y => absurd y z)⟩
    obtain ⟨p5, p6⟩ := u5 z
    obtain ⟨a5, j5, V5⟩ := r5
    have z : a5 = 0 := z
    subst z
    have p5 : V5 = V2 ++ [nm (j2 + 1)] := p5
    have nM : MNp t0 k V5 (m5.1 276) := by
      rw [p5, p6]
      exact hM4.push
    have l5 : V5.length = 1 + 2 := by rw [p5, List.length_append, l2]; rfl
    rw [show x11 = nI 1 from ex.trans (nI_add 0 1)]
    exact wbell G H d t0 k ht hk 4 1 j5 V5 _ m5 K rfl (by omega) (by omega) l5 u3 nM (fun r m' w1 w2 w3 w4 w5 => hK r m' (by rw [hb]; exact w1) w2 w3 (ff.tr w4) w5)
  · have k58 : ¬ kd j2 = 58 := fun z => q ((hk2.sym (k := 58) (by omega)).mpr z)
    have e58 : stI kd nm 1 58 0 (0, j2, V2) = (1, j2, V2) := by
      unfold stI
      rw [if_neg (fun y => y rfl), if_neg (by decide), if_neg k58]
    rw [e58, stI_abs (r := (1, j2, V2)) (show (1 : Nat) ≠ 0 by decide), belP_abs (r := (1, j2, V2)) (show (1 : Nat) ≠ 0 by decide)] at hb
    exact hK (1, j2, V2) m2 hb.symm (by show 1 ≤ 7; omega) s3 (q4.tr s4) (fun z => absurd z (show ¬ ((1 : Nat) = 0) by decide))
