/-! THE MODEL'S TOKENS ARE THE BYTES' -/
theorem KWs_ok : ∀ W ∈ KWs, (∀ c ∈ W, 1 ≤ c ∧ c ≤ 255) ∧ W.length ≤ 7 := by decide
theorem tkK_w {b : Nat → Nat} {p : Nat} (h : srt (b p) = 2) : tkK b p = kwL (ltr b p (rnE b 2 p - p)) := by
  have h0 : ¬ b p = 256 := fun z => by rw [z] at h; exact absurd h (by decide)
  unfold tkK; rw [if_neg h0, if_neg (show ¬ srt (b p) = 1 by omega), if_pos h]
theorem tkM_w {b : Nat → Nat} {p : Nat} (h : srt (b p) = 2) : tkM b p = 2 := by
  have h0 : ¬ b p = 256 := fun z => by rw [z] at h; exact absurd h (by decide)
  unfold tkM; rw [if_neg h0, if_neg (show ¬ srt (b p) = 1 by omega), if_pos h]
theorem tk_nw {b : Nat → Nat} {p : Nat} (h : ¬ srt (b p) = 2) : tkK b p < 100 ∧ tkM b p ≠ 2 ∧ tkM b p < 100 := by
  have hm : b p ∈ sgL → 35 ≤ b p ∧ b p ≤ 94 := (show ∀ c ∈ sgL, 35 ≤ c ∧ c ≤ 94 by decide) _
  unfold tkK tkM
  by_cases h0 : b p = 256
  · rw [if_pos h0, if_pos h0]; omega
  · rw [if_neg h0, if_neg h0]
    by_cases h1 : srt (b p) = 1
    · rw [if_pos h1, if_pos h1]; omega
    · rw [if_neg h1, if_neg h1, if_neg h, if_neg h]
      by_cases h3 : b p = 60 ∧ b (p + 1) = 61
      · rw [if_pos h3, if_pos h3]; omega
      · rw [if_neg h3, if_neg h3]
        by_cases h4 : b p = 62 ∧ b (p + 1) = 61
        · rw [if_pos h4, if_pos h4]; omega
        · rw [if_neg h4, if_neg h4]
          by_cases h5 : b p ∈ sgL
          · rw [if_pos h5, if_pos h5]; have := hm h5; omega
          · rw [if_neg h5, if_neg h5]; omega
theorem tk_kd {b : Nat → Nat} {p : Nat} : (tkK b p = 0 ∧ (tkM b p = 3 ∨ tkM b p = 2)) ∨ (0 < tkK b p ∧ tkM b p = kM (tkK b p)) := by
  have hm : b p ∈ sgL → 35 ≤ b p ∧ b p ≤ 94 := (show ∀ c ∈ sgL, 35 ≤ c ∧ c ≤ 94 by decide) _
  by_cases h : srt (b p) = 2
  · rw [tkK_w h, tkM_w h]
    rcases kwL_sp (ltr b p (rnE b 2 p - p)) with ⟨e, -⟩ | ⟨e1, e2, -⟩
    · exact Or.inl ⟨e, Or.inr rfl⟩
    · refine Or.inr ⟨by omega, ?_⟩
      unfold kM
      rw [if_neg (by omega), if_neg (by omega), if_neg (by omega), if_neg (by omega), if_neg (by omega)]
  · unfold tkK tkM
    by_cases h0 : b p = 256
    · rw [if_pos h0, if_pos h0]; exact Or.inr ⟨by omega, rfl⟩
    · rw [if_neg h0, if_neg h0]
      by_cases h1 : srt (b p) = 1
      · rw [if_pos h1, if_pos h1]; exact Or.inr ⟨by omega, rfl⟩
      · rw [if_neg h1, if_neg h1, if_neg h, if_neg h]
        by_cases h3 : b p = 60 ∧ b (p + 1) = 61
        · rw [if_pos h3, if_pos h3]; exact Or.inr ⟨by omega, rfl⟩
        · rw [if_neg h3, if_neg h3]
          by_cases h4 : b p = 62 ∧ b (p + 1) = 61
          · rw [if_pos h4, if_pos h4]; exact Or.inr ⟨by omega, rfl⟩
          · rw [if_neg h4, if_neg h4]
            by_cases h5 : b p ∈ sgL
            · rw [if_pos h5, if_pos h5]
              have := hm h5
              refine Or.inr ⟨by omega, ?_⟩
              unfold kM
              rw [if_neg (by omega), if_neg (by omega), if_neg (by omega), if_neg (by omega), if_pos (by omega)]
            · rw [if_neg h5, if_neg h5]; exact Or.inl ⟨rfl, Or.inl rfl⟩
theorem tk_2 {b : Nat → Nat} {p : Nat} (e : tkK b p = 2) : srt (b p) = 1 := by
  have hm : b p ∈ sgL → 35 ≤ b p ∧ b p ≤ 94 := (show ∀ c ∈ sgL, 35 ≤ c ∧ c ≤ 94 by decide) _
  by_cases h : srt (b p) = 2
  · rw [tkK_w h] at e
    rcases kwL_sp (ltr b p (rnE b 2 p - p)) with ⟨e1, -⟩ | ⟨e1, e2, -⟩ <;> omega
  · by_cases h1 : srt (b p) = 1
    · exact h1
    · exfalso
      unfold tkK at e
      rw [if_neg h1, if_neg h] at e
      by_cases h0 : b p = 256
      · rw [if_pos h0] at e; omega
      · rw [if_neg h0] at e
        by_cases h3 : b p = 60 ∧ b (p + 1) = 61
        · rw [if_pos h3] at e; omega
        · rw [if_neg h3] at e
          by_cases h4 : b p = 62 ∧ b (p + 1) = 61
          · rw [if_pos h4] at e; omega
          · rw [if_neg h4] at e
            by_cases h5 : b p ∈ sgL
            · rw [if_pos h5] at e; have := hm h5; omega
            · rw [if_neg h5] at e; omega
theorem BT.fig {b : Nat → Nat} {n p : Nat} (h : BT b n) (hp : p ≤ n) : ∀ j, j < rnE b 1 p - p → srt (b (p + j)) = 1 := fun j hj => (h.run (s := 1) (by omega) hp).2.2.1 (p + j) (by omega) (by omega)
theorem BT.let' {b : Nat → Nat} {n p : Nat} (h : BT b n) (hp : p ≤ n) : ∀ j, j < rnE b 2 p - p → srt (b (p + j)) = 2 := fun j hj => (h.run (s := 2) (by omega) hp).2.2.1 (p + j) (by omega) (by omega)
theorem TS.tk {b : Nat → Nat} {n q : Nat} {m : Mem} (h : BT b n) (hq : q ≤ n) (t : TS b n q m) : TkM m (tkK b (rnE b 0 q)) (nuC b (rnE b 0 q) (rnE b 1 (rnE b 0 q) - rnE b 0 q)) (rnE b 0 q) := by
  obtain ⟨hB, t8, t9, t10, t11, t12⟩ := t
  have hp : rnE b 0 q ≤ n := (h.run (s := 0) (by omega) hq).2.1
  generalize rnE b 0 q = p at *
  have hw : ∀ (k : Nat) (W : List Nat) {w : Int64}, w = Int64.ofNat (wv W) → KWs[k]? = some W → (isW m w ↔ tkK b p = 100 + k) := fun k W w ew hW => by
    obtain ⟨o1, o2⟩ := KWs_ok W (List.mem_of_getElem? hW)
    by_cases hz : srt (b p) = 2
    · rw [tkK_w hz, ← kwL_iff hW]
      have hr := ltr_rng (rnE b 2 p - p) (h.let' hp)
      unfold isW
      rw [t10, tkM_w hz, t12 hz, ew, lN_inj (wv_b hr).1 (wv_b o1).1, wv_iff hr o1 o2]
      exact ⟨fun e => e.2, fun e => ⟨rfl, e⟩⟩
    · obtain ⟨n1, n2, n3⟩ := tk_nw hz
      unfold isW
      rw [t10]
      constructor
      · rintro ⟨e, -⟩
        exact absurd ((eq_nI (b := 2) (by omega) (by omega)).mp e) n2
      · intro e; omega
  refine ⟨t9, ?_, h.rg, fun e => ?_, hw 0 [111, 118, 101, 114] (by decide) rfl, hw 2 [98, 101, 103, 105, 110, 115] (by decide) rfl, hw 3 [98, 101, 108, 108] (by decide) rfl, hw 4 [119, 111, 114, 100] (by decide) rfl, hw 5 [114, 105, 110, 103] (by decide) rfl, hw 6 [115, 112, 101, 97, 107] (by decide) rfl, hw 7 [119, 105, 110, 100] (by decide) rfl, hw 8 [102, 114, 111, 115, 116] (by decide) rfl, hw 9 [104, 111, 117, 114] (by decide) rfl, hw 10 [115, 117, 110, 100, 97, 121] (by decide) rfl, hw 11 [112, 105, 116, 99, 104] (by decide) rfl, hw 12 [109, 101, 110] (by decide) rfl, hw 13 [109, 101, 97, 110, 115] (by decide) rfl, hw 14 [111, 114] (by decide) rfl, hw 15 [97, 110, 100] (by decide) rfl, hw 16 [110, 111, 116] (by decide) rfl, hw 17 [108, 111, 117, 100] (by decide) rfl, hw 19 [107, 105, 110, 100] (by decide) rfl, hw 20 [110, 101, 120, 116] (by decide) rfl, hw 22 [112, 108, 97, 99, 101] (by decide) rfl⟩
  · rw [t10]
    rcases tk_kd (b := b) (p := p) with ⟨e1, e2⟩ | ⟨e1, e2⟩
    · refine Or.inl ⟨e1, ?_⟩
      rcases e2 with e2 | e2
      · left; rw [e2]; rfl
      · right; rw [e2]; rfl
    · exact Or.inr ⟨e1, by rw [e2]⟩
  · have hz := tk_2 e
    obtain ⟨u1, u2⟩ := nu_both (b := b) (p := p) (rnE b 1 p - p) (h.fig hp)
    exact ⟨_, t11 hz, u1, u2⟩
theorem w3_nI {a b c : Nat} (ha : a < 256) (hb : b < 256) (hc : c < 256) : w3V (nI a) (nI b) (nI c) = Int64.ofNat (pkL [a, b, c]) := by
  have e2 : (nI a).toInt64 = Int64.ofNat a := by
    apply Int64.toInt_inj.mp
    rw [Int32.toInt_toInt64, show (nI a).toInt = (a : Int) from nI_toInt (by omega), Int64.toInt_ofNat_of_lt (by omega)]
  unfold w3V
  have s1 : (Int64.ofNat a <<< ((8 : Int32).toInt64 &&& 63)) ||| (nI b).toInt64 = Int64.ofNat (a * 256 + b) := shl_or (by omega) hb
  have s2 : (Int64.ofNat (a * 256 + b) <<< ((8 : Int32).toInt64 &&& 63)) ||| (nI c).toInt64 = Int64.ofNat ((a * 256 + b) * 256 + c) := shl_or (by omega) hc
  rw [e2, s1, s2]
  show _ = Int64.ofNat (((0 * 256 + a) * 256 + b) * 256 + c)
  rw [Nat.zero_mul, Nat.zero_add]
theorem w4_nI {a b c d : Nat} (ha : a < 256) (hb : b < 256) (hc : c < 256) (hd : d < 256) : w4V (nI a) (nI b) (nI c) (nI d) = Int64.ofNat (pkL [a, b, c, d]) := by
  unfold w4V
  rw [w3_nI ha hb hc]
  have e : pkL [a, b, c] = ((0 * 256 + a) * 256 + b) * 256 + c := rfl
  exact shl_or (by rw [e]; omega) hd
theorem pk3 {a b c x y z : Nat} (h : rng [a, b, c]) (k : rng [x, y, z]) : lg_cmp (w3V (nI a) (nI b) (nI c)) (w3V (nI x) (nI y) (nI z)) = 0 ↔ (a = x ∧ b = y ∧ c = z) := by
  have h1 := h a (by simp)
  have h2 := h b (by simp)
  have h3 := h c (by simp)
  have k1 := k x (by simp)
  have k2 := k y (by simp)
  have k3 := k z (by simp)
  have e1 : pkL [a, b, c] = ((0 * 256 + a) * 256 + b) * 256 + c := rfl
  have e2 : pkL [x, y, z] = ((0 * 256 + x) * 256 + y) * 256 + z := rfl
  rw [lc_0, w3_nI (by omega) (by omega) (by omega), w3_nI (by omega) (by omega) (by omega), lN_inj (by rw [e1]; omega) (by rw [e2]; omega), e1, e2]
  omega
theorem pk4 {a b c d x y z w : Nat} (h : rng [a, b, c, d]) (k : rng [x, y, z, w]) : lg_cmp (w4V (nI a) (nI b) (nI c) (nI d)) (w4V (nI x) (nI y) (nI z) (nI w)) = 0 ↔ (a = x ∧ b = y ∧ c = z ∧ d = w) := by
  have h1 := h a (by simp)
  have h2 := h b (by simp)
  have h3 := h c (by simp)
  have h4 := h d (by simp)
  have k1 := k x (by simp)
  have k2 := k y (by simp)
  have k3 := k z (by simp)
  have k4 := k w (by simp)
  have e1 : pkL [a, b, c, d] = (((0 * 256 + a) * 256 + b) * 256 + c) * 256 + d := rfl
  have e2 : pkL [x, y, z, w] = (((0 * 256 + x) * 256 + y) * 256 + z) * 256 + w := rfl
  rw [lc_0, w4_nI (by omega) (by omega) (by omega) (by omega), w4_nI (by omega) (by omega) (by omega) (by omega), lN_inj (by rw [e1]; omega) (by rw [e2]; omega), e1, e2]
  omega
theorem TS.long {G : GP} {d : Nat} {b : Nat → Nat} {n q : Nat} {m : Mem} (h : BT b n) (hq : q ≤ n) (t : TS b n q m) {k a1 a2 a3 a4 a5 a6 a7 : Nat} (hW : KWs[k]? = some [a1, a2, a3, a4, a5, a6, a7]) (K : Int32 → Mem → Prop) (h1 : tkK b (rnE b 0 q) = 100 + k → K 1 m) (h2 : tkK b (rnE b 0 q) ≠ 100 + k → K 0 m) : Evi G (d + 3) mX12_isLong [.ref (ga G 273), .int 7, .long (w4V (nI a1) (nI a2) (nI a3) (nI a4)), .long (w3V (nI a5) (nI a6) (nI a7))] m K := by
  obtain ⟨hB, t8, t9, t10, t11, t12⟩ := t
  have hp : rnE b 0 q ≤ n := (h.run (s := 0) (by omega) hq).2.1
  generalize rnE b 0 q = p at *
  have hn := h.1
  refine vX12_isLong G d _ _ _ m K ⟨fun z => h2 (fun e => ?_), fun z => ?_⟩
  · by_cases hz : srt (b p) = 2
    · exact z (by rw [t10, tkM_w hz]; rfl)
    · have := (tk_nw hz).1; omega
  · have hz : srt (b p) = 2 := Classical.byContradiction (fun hz => by
      obtain ⟨n1, n2, n3⟩ := tk_nw hz
      rw [t10] at z
      exact n2 ((eq_nI (b := 2) (by omega) (by omega)).mp z))
    have hE : tkE b p = rnE b 2 p := by
      have h0 : ¬ b p = 256 := fun z => by rw [z] at hz; exact absurd hz (by decide)
      unfold tkE; rw [if_neg h0, if_neg (show ¬ srt (b p) = 1 by omega), if_pos hz]
    obtain ⟨r1, r2, r3, -⟩ := h.run (s := 2) (by omega) hp
    rw [hE] at t8
    rw [tkK_w hz] at h1 h2
    have e7 : m.1 273 8 - m.1 273 9 = 7 ↔ rnE b 2 p - p = 7 := by
      rw [t8, t9, sub_nI r1]; exact eq_nI (b := 7) (by omega) (by omega)
    rw [e7, t9]
    refine ⟨fun L => ?_, fun L => h2 (fun e => L ?_)⟩
    · have hl : ∀ j, j < 7 → srt (b (p + j)) = 2 := fun j hj => h.let' hp j (by omega)
      have hb : ∀ j, j < 7 → bytM m (nI (p + j)) = nI (b (p + j)) ∧ 1 ≤ b (p + j) ∧ b (p + j) ≤ 255 := fun j hj => by
        have := srt2.mp (hl j hj)
        rw [hB.at' h (by omega)]
        exact ⟨if_neg (by omega), by omega, by omega⟩
      have ok : ∀ j, j < 7 → ¬ m.1 273 5 ≤ nI (p + j) → vp_in (nI (p + j)) 300 := fun j hj => hB.ok h (by omega)
      have eL : ltr b p (rnE b 2 p - p) = [b (p + 0), b (p + 1), b (p + 2), b (p + 3), b (p + 4), b (p + 5), b (p + 6)] := by rw [L]; rfl
      rw [eL] at h1 h2
      rw [← kwL_iff hW] at h1
      rw [Ne, ← kwL_iff hW] at h2
      obtain ⟨o1, -⟩ := KWs_ok _ (List.mem_of_getElem? hW)
      have s1 : nI p + 1 = nI (p + 1) := nI_add p 1
      have s2 : nI p + 2 = nI (p + 2) := nI_add p 2
      have s3 : nI p + 3 = nI (p + 3) := nI_add p 3
      have s4 : nI p + 4 = nI (p + 4) := nI_add p 4
      have s5 : nI p + 5 = nI (p + 5) := nI_add p 5
      have s6 : nI p + 6 = nI (p + 6) := nI_add p 6
      have b0 := hb 0 (by omega)
      have b1 := hb 1 (by omega)
      have b2 := hb 2 (by omega)
      have b3 := hb 3 (by omega)
      have b4 := hb 4 (by omega)
      have b5 := hb 5 (by omega)
      have b6 := hb 6 (by omega)
      have f0 : bytM m (nI p) = nI (b p) := b0.1
      rw [s1, s2, s3, s4, s5, s6, f0, b1.1, b2.1, b3.1, b4.1, b5.1, b6.1, pk4 (a := b p) ?_ ?_, pk3 (a := b (p + 4)) ?_ ?_]
      · refine ⟨ok 0 (by omega), ok 1 (by omega), ok 2 (by omega), ok 3 (by omega), fun y => h2 (fun e => y ?_), fun y => ⟨ok 4 (by omega), ok 5 (by omega), ok 6 (by omega), fun x => h2 (fun e => x ?_), fun x => h1 ?_⟩⟩
        · injection e with g1 g
          injection g with g2 g
          injection g with g3 g
          injection g with g4 g
          exact ⟨g1, g2, g3, g4⟩
        · injection e with g1 g
          injection g with g2 g
          injection g with g3 g
          injection g with g4 g
          injection g with g5 g
          injection g with g6 g
          injection g with g7 g
          exact ⟨g5, g6, g7⟩
        · obtain ⟨y1, y2, y3, y4⟩ := y
          obtain ⟨x1, x2, x3⟩ := x
          rw [← y1, ← y2, ← y3, ← y4, ← x1, ← x2, ← x3]
          rfl
      · intro c hc
        simp only [List.mem_cons, List.not_mem_nil, or_false] at hc
        rcases hc with hc | hc | hc <;> rw [hc]
        · exact b4.2
        · exact b5.2
        · exact b6.2
      · exact fun c hc => o1 c (by simp only [List.mem_cons, List.not_mem_nil, or_false] at hc ⊢; omega)
      · intro c hc
        simp only [List.mem_cons, List.not_mem_nil, or_false] at hc
        rcases hc with hc | hc | hc | hc <;> rw [hc]
        · exact b0.2
        · exact b1.2
        · exact b2.2
        · exact b3.2
      · exact fun c hc => o1 c (by simp only [List.mem_cons, List.not_mem_nil, or_false] at hc ⊢; omega)
    · have e2 := (kwL_iff hW).mpr e
      have e3 := congrArg List.length e2
      rw [ltr_len] at e3
      exact e3
theorem TokM_of (G : GP) {b : Nat → Nat} {n : Nat} (h : BT b n) : TokM G (tK b) (tN b) (tkS b) (tC b) (fun i m => TS b n (tE b i) m) := by
  refine ⟨fun {i m m'} t s => ?_, fun {i m d K} t _ hK => ?_, fun {i m} t => t.tk h (h.eb i), fun {i m d K} t h1 h2 => ?_, fun {i m d K} t h1 h2 => ?_, fun {i m d K} t h1 h2 => ?_, h.cb.1, h.cb.2.1⟩
  · obtain ⟨hB, t8, t9, t10, t11, t12⟩ := t
    obtain ⟨s1, s2, s3⟩ := s
    exact ⟨hB.fr (s1 5 (by omega)) s2, by rw [s1 8 (by omega)]; exact t8, by rw [s1 9 (by omega)]; exact t9, by rw [s1 10 (by omega)]; exact t10, fun z => by rw [s1 11 (by omega)]; exact t11 z, fun z => by rw [s3]; exact t12 z⟩
  · exact qX12_nextToken G d h m K (h.eb (i + 1)) t.1 t.2.1 hK
  · refine vX12_isStrokes G d m K (t.long h (h.eb i) (k := 18) rfl _ (fun e => ⟨Or.inr rfl, h1 e⟩) (fun e => ⟨Or.inl rfl, h2 e⟩))
  · refine vX12_isFollows G d m K (t.long h (h.eb i) (k := 1) rfl _ (fun e => ⟨Or.inr rfl, h1 e⟩) (fun e => ⟨Or.inl rfl, h2 e⟩))
  · refine vX12_isMeaning G d m K (t.long h (h.eb i) (k := 21) rfl _ (fun e => ⟨Or.inr rfl, h1 e⟩) (fun e => ⟨Or.inl rfl, h2 e⟩))
