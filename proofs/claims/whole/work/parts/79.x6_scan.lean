/-! THE CLASS'S SCAN -/
theorem tkE_en {b : Nat → Nat} {n p : Nat} (h : BT b n) (hp : p < n) (hz : ¬ srt (b p) = 0) : tkE b p = if tkK b p = 3 then enS b p + 1 else if tkK b p = 4 then enS b p + 1 else enS b p := by
  have h3 := srt_lt (b p)
  have h256 := h.2.2 p hp
  have h0 : ¬ b p = 256 := by omega
  have hm : b p ∈ sgL → 35 ≤ b p ∧ b p ≤ 94 := (show ∀ c ∈ sgL, 35 ≤ c ∧ c ≤ 94 by decide) _
  by_cases h1 : srt (b p) = 1
  · have e : tkK b p = 2 := by unfold tkK; rw [if_neg h0, if_pos h1]
    rw [e, if_neg (by omega), if_neg (by omega)]
    unfold tkE enS
    rw [if_neg h0, if_pos h1, if_neg (by omega), h1]
  · by_cases h2 : srt (b p) = 2
    · have k := kwL_sp (ltr b p (rnE b 2 p - p))
      rw [tkK_w h2, if_neg (by omega), if_neg (by omega)]
      unfold tkE enS
      rw [if_neg h0, if_neg h1, if_pos h2, if_neg (by omega), h2]
    · have e : enS b p = p + 1 := by unfold enS; rw [if_pos (by omega)]
      rw [e, tkE_sg h0 h1 h2]
      have ek : tkK b p = if b p = 60 ∧ b (p + 1) = 61 then 3 else if b p = 62 ∧ b (p + 1) = 61 then 4 else if b p ∈ sgL then b p else 0 := by
        unfold tkK; rw [if_neg h0, if_neg h1, if_neg h2]
      rw [ek]
      by_cases c3 : b p = 60 ∧ b (p + 1) = 61
      · rw [if_pos c3, if_pos ⟨Or.inl c3.1, c3.2⟩, if_pos rfl]
      · rw [if_neg c3]
        by_cases c4 : b p = 62 ∧ b (p + 1) = 61
        · rw [if_pos c4, if_pos ⟨Or.inr c4.1, c4.2⟩, if_neg (by omega), if_pos rfl]
        · rw [if_neg c4, if_neg (show ¬ ((b p = 60 ∨ b p = 62) ∧ b (p + 1) = 61) by omega)]
          by_cases c5 : b p ∈ sgL
          · rw [if_pos c5, if_neg (by have := hm c5; omega), if_neg (by have := hm c5; omega)]
          · rw [if_neg c5, if_neg (by omega), if_neg (by omega)]
def SI (b : Nat → Nat) (n i f : Nat) (m0 m : Mem) : Prop := f ≤ n ∧ i ≤ f ∧ rnE b 0 f = tkS b i ∧ CB b n m.1 ∧ (∀ j, j < i → m.1 230 j = nI (tK b j) ∧ m.1 231 j = nI (tkS b j) ∧ (tK b j = 2 → m.1 232 j = nI (tN b j)) ∧ tK b j ≠ 1) ∧ (∀ c, ¬ (230 ≤ c ∧ c ≤ 232) → m.1 c = m0.1 c) ∧ m.2.2 = m0.2.2
theorem CB.fr {b : Nat → Nat} {n : Nat} {f g : Nat → Nat → Int32} (h : CB b n f) (h1 : g 228 = f 228) (h2 : g 229 = f 229) : CB b n g := ⟨by rw [h1]; exact h.1, by rw [h2]; exact h.2⟩
theorem SI.nx {b : Nat → Nat} {n i : Nat} {m0 m m' : Mem} {v : Int32} (h : BT b n) (s : SI b n i (tkS b i) m0 m) (hk : tK b i ≠ 1) (e : m' = wI (wI (wI m 231 i (nI (tkS b i))) 230 i (nI (tK b i))) 232 i v) (hv : tK b i = 2 → v = nI (tN b i)) : SI b n (i + 1) (tE b (i + 1)) m0 m' := by
  obtain ⟨s1, s2, s3, s4, s5, s6, s7⟩ := s
  have hc : ∀ c, ¬ (230 ≤ c ∧ c ≤ 232) → m'.1 c = m.1 c := fun c hc => by rw [e, wI_n _ _ _ (by omega), wI_n _ _ _ (by omega), wI_n _ _ _ (by omega)]
  have c0 : m'.1 230 = upd (m.1 230) i (nI (tK b i)) := by rw [e, wI_n _ _ _ (by omega), wI_s, wI_n _ _ _ (by omega)]
  have c1 : m'.1 231 = upd (m.1 231) i (nI (tkS b i)) := by rw [e, wI_n _ _ _ (by omega), wI_n _ _ _ (by omega), wI_s]
  have c2 : m'.1 232 = upd (m.1 232) i v := by rw [e, wI_s, wI_n _ _ _ (by omega), wI_n _ _ _ (by omega)]
  obtain ⟨g1, g2, g3⟩ := h.e s1
  refine ⟨h.eb (i + 1), ?_, rfl, s4.fr (hc 228 (by omega)) (hc 229 (by omega)), fun j hj => ?_, fun c hcc => (hc c hcc).trans (s6 c hcc), by rw [e]; exact s7⟩
  · rw [tE_S]
    have := g3 (fun y => hk ((h.k1 s1).mpr y))
    omega
  · rw [c0, c1, c2]
    by_cases q : j = i
    · rw [q, upd_s, upd_s, upd_s]
      exact ⟨rfl, rfl, hv, hk⟩
    · rw [upd_n _ _ q, upd_n _ _ q, upd_n _ _ q]
      exact s5 j (by omega)
theorem sc4 (G : GP) (d : Nat) (hG : ScS G) {b : Nat → Nat} {n : Nat} (h : BT b n) (m0 : Mem) (K : Mem → Prop) (hK : ∀ m4, TB (tK b) (tN b) (tkS b) (tC b) m4.1 → (∀ c, ¬ (230 ≤ c ∧ c ≤ 232) → m4.1 c = m0.1 c) → m4.2.2 = m0.2.2 → K m4) : ∀ (w i f : Nat) (u3 u4 : Value) (m : Mem), n ≤ f + w → SI b n i f m0 m → Gw G (d + 8) mX7_scan 4 [.ref (ga G 228), .int (nI i), .int (nI f), u3, u4] [] m (Qv K) := by
  have hn := h.1
  have fin : ∀ (i : Nat) (u3 u4 : Value) (m : Mem), SI b n i n m0 m → Gw G (d + 8) mX7_scan 4 [.ref (ga G 228), .int (nI i), .int (nI n), u3, u4] [] m (Qv K) := fun i u3 u4 m s => by
    obtain ⟨s1, s2, s3, s4, s5, s6, s7⟩ := s
    have e256 := h.2.1 n (Nat.le_refl n)
    have eS : tkS b i = n := by rw [← s3]; exact rnE_n (by rw [e256]; decide)
    have eK : tK b i = 1 := by unfold tK; rw [eS]; exact (h.k1 (Nat.le_refl n)).mpr e256
    have eC : tC b = i := by
      obtain ⟨k1, k2, k3⟩ := h.cb
      rcases Nat.lt_trichotomy (tC b) i with q | q | q
      · exact absurd k1 (s5 _ q).2.2.2
      · exact q
      · exact absurd eK (k3 i q)
    have ti : (nI i).toNatClampNeg = i := tn_nI (by omega)
    refine vX7_scan_4 G d _ _ u3 u4 m K ?_
    rw [s4.1, ti]
    refine ⟨fun _ => ⟨in_nI (by omega) (by omega), fun m1 e1 => ⟨in_nI (by omega) (by omega), fun m2 e2 => hK m2 ?_ (fun c hc => ?_) ?_⟩⟩, fun z => absurd ((le_nI (by omega) (by omega)).mpr (Nat.le_refl n)) z⟩
    · have c0 : m2.1 230 = upd (m.1 230) i 1 := by rw [e2, wI_s, e1, wI_n _ _ _ (by omega)]
      have c1 : m2.1 231 = upd (m.1 231) i (nI n) := by rw [e2, wI_n _ _ _ (by omega), e1, wI_s]
      have c2 : m2.1 232 = m.1 232 := by rw [e2, wI_n _ _ _ (by omega), e1, wI_n _ _ _ (by omega)]
      refine ⟨h.cb.1, h.cb.2.1, fun j hj => ?_, fun j hj hj2 => ?_⟩
      · rw [eC] at hj
        rw [c0, c1]
        by_cases q : j = i
        · rw [q, upd_s, upd_s, eK, eS]
          exact ⟨rfl, rfl, Or.inl (by omega)⟩
        · rw [upd_n _ _ q, upd_n _ _ q]
          obtain ⟨a1, a2, -, -⟩ := s5 j (by omega)
          exact ⟨a1, a2, h.rg⟩
      · rw [eC] at hj
        have q : j ≠ i := fun y => by rw [y, eK] at hj2; omega
        rw [c2]
        exact ⟨(s5 j (by omega)).2.2.1 hj2, nuC_le b _ _⟩
    · rw [e2, wI_n _ _ _ (by omega), e1, wI_n _ _ _ (by omega)]; exact s6 c hc
    · rw [e2, e1]; exact s7
  intro w
  induction w with
  | zero =>
    intro i f u3 u4 m hw s
    have : f = n := by have := s.1; omega
    subst this
    exact fin i u3 u4 m s
  | succ w ih =>
    intro i f u3 u4 m hw s
    by_cases q : f = n
    · subst q; exact fin i u3 u4 m s
    have s' := s
    obtain ⟨s1, s2, s3, s4, s5, s6, s7⟩ := s
    have h3 := srt_lt (b f)
    have h256 := h.2.2 f (by omega)
    refine vX7_scan_4 G d _ _ u3 u4 m K ⟨fun z => absurd ((le_nI (a := n) (b := f) (by omega) (by omega)).mp (by rw [s4.1] at z; exact z)) (by omega), fun _ => ⟨in_nI (by omega) (by omega), ?_⟩⟩
    rw [show (nI f).toNatClampNeg = f from tn_nI (by omega), s4.2 f (by omega)]
    refine kX7_sortOf G (d + 7) (b f) h256 m _ (fun x5 e5 => ?_)
    rw [e5, ← nI_succ]
    refine sc27 G d h (nI i) f (by omega) m s4 K ?_ (n - (f + 1)) (f + 1) (by omega) (by omega) (fun _ => rfl) (fun _ => rnE_s (by omega) rfl)
    have ti : (nI i).toNatClampNeg = i := tn_nI (by omega)
    have vi : vp_in (nI i) 301 := in_nI (by omega) (by omega)
    have ez : nI (srt (b f)) = 0 ↔ srt (b f) = 0 := eq_nI (b := 0) (by omega) (by omega)
    have e1 : nI (srt (b f)) = 1 ↔ srt (b f) = 1 := eq_nI (b := 1) (by omega) (by omega)
    unfold Tl
    rw [ez, e1, ti]
    refine ⟨fun z0 => ?_, fun nz => ⟨vi, fun m6 e6 => ?_⟩⟩
    · have eE : enS b f = tkS b i := by unfold enS; rw [if_neg (by omega), z0, s3]
      have g1 : f + 1 ≤ tkS b i := by
        rw [← s3, rnE_s (by omega) z0]; exact (h.run (s := 0) (by omega) (show f + 1 ≤ n by omega)).1
      obtain ⟨-, g2, g3⟩ := h.sb i
      rw [eE]
      exact ih i (tkS b i) _ _ m (by omega) ⟨g2, by omega, rnE_n g3, s4, s5, s6, s7⟩
    · have eS : tkS b i = f := by rw [← s3]; exact rnE_n nz
      have eK : tK b i = tkK b f := by unfold tK; rw [eS]
      have hne : tK b i ≠ 1 := by rw [eK]; exact fun y => by have := (h.k1 (show f ≤ n by omega)).mp y; omega
      have eE := tkE_en h (show f < n by omega) nz
      have eT : tE b (i + 1) = tkE b f := by rw [tE_S, eS]
      have gE := (h.e (show f ≤ n by omega)).2.2 (by omega)
      have sS : SI b n i (tkS b i) m0 m := by rw [eS]; exact s'
      have nx : ∀ (m' : Mem) (v x1 x2 : Int32) (u3 u4 : Value), m' = wI (wI (wI m 231 i (nI f)) 230 i (nI (tkK b f))) 232 i v → (tkK b f = 2 → v = nI (tN b i)) → x1 = nI (i + 1) → x2 = nI (tkE b f) → Gw G (d + 8) mX7_scan 4 [.ref (ga G 228), .int x1, .int x2, u3, u4] [] m' (Qv K) := fun m' v x1 x2 u3 u4 em hv ex1 ex2 => by
        rw [ex1, ex2, ← eT]
        exact ih (i + 1) (tE b (i + 1)) u3 u4 m' (by rw [eT]; omega) (sS.nx h hne (by rw [eS, eK]; exact em) (by rw [eK]; exact hv))
      have B6 : CB b n m6.1 := s4.fr (by rw [e6, wI_n _ _ _ (by omega)]) (by rw [e6, wI_n _ _ _ (by omega)])
      have r3 : nI (tkK b f) = 3 ↔ tkK b f = 3 := eq_nI (b := 3) (by have := h.rg (p := f); omega) (by omega)
      have r4 : nI (tkK b f) = 4 ↔ tkK b f = 4 := eq_nI (b := 4) (by have := h.rg (p := f); omega) (by omega)
      have si : nI i + 1 = nI (i + 1) := nI_add i 1
      have se : nI (enS b f) + 1 = nI (enS b f + 1) := nI_add _ 1
      refine kX7_tokenOf G d hG h f (by omega) nz m6 B6 _ ⟨vi, fun m9 e9 => ⟨fun n1 => ⟨vi, fun m10 e10 => ?_⟩, fun z1 => ?_⟩⟩
      · have er : m10.1 230 i = nI (tkK b f) := by rw [e10, wI_n _ _ _ (by omega), e9, wI_s, upd_s]
        have em : m10 = wI (wI (wI m 231 i (nI f)) 230 i (nI (tkK b f))) 232 i 0 := by rw [e10, e9, e6]
        have hv : tkK b f = 2 → (0 : Int32) = nI (tN b i) := fun y => absurd (tk_2 y) n1
        rw [er, r3, r4]
        refine ⟨vi, fun t3 x11 e11 x12 e12 => nx m10 0 x12 x11 _ _ em hv (by rw [e12, si]) (by rw [e11, se, eE, if_pos t3]), fun n3 => ⟨vi, fun n4 x13 e13 => nx m10 0 x13 _ _ _ em hv (by rw [e13, si]) (by rw [eE, if_neg n3, if_neg n4]), fun t4 x14 e14 x15 e15 => nx m10 0 x15 x14 _ _ em hv (by rw [e15, si]) (by rw [e14, se, eE, if_neg n3, if_pos t4])⟩⟩
      · have B9 : CB b n m9.1 := B6.fr (by rw [e9, wI_n _ _ _ (by omega)]) (by rw [e9, wI_n _ _ _ (by omega)])
        have k2 : tkK b f = 2 := by unfold tkK; rw [if_neg (by omega), if_pos z1]
        have eE1 : enS b f = f + (rnE b 1 f - f) := by
          unfold enS
          rw [if_neg (by omega), z1]
          have := (h.run (s := 1) (by omega) (show f ≤ n by omega)).1
          omega
        have hnum : nuC b f (rnE b 1 f - f) = tN b i := by unfold tN; rw [eS]
        have rb := (h.run (s := 1) (by omega) (show f ≤ n by omega)).2.1
        rw [eE1]
        refine kX7_numberOf G (d + 6) h f (rnE b 1 f - f) (by omega) (h.fig (by omega)) m9 B9 _ ?_
        rw [hnum, ← eE1]
        refine ⟨vi, fun m18 e18 => ?_⟩
        have er : m18.1 230 i = nI (tkK b f) := by rw [e18, wI_n _ _ _ (by omega), e9, wI_s, upd_s]
        have em : m18 = wI (wI (wI m 231 i (nI f)) 230 i (nI (tkK b f))) 232 i (nI (tN b i)) := by rw [e18, e9, e6]
        rw [er, r3, r4]
        refine ⟨vi, fun t3 => absurd t3 (by omega), fun n3 => ⟨vi, fun n4 x21 e21 => nx m18 _ x21 _ _ _ em (fun _ => rfl) (by rw [e21, si]) (by rw [eE, if_neg n3, if_neg n4]), fun t4 => absurd t4 (by omega)⟩⟩
theorem kX7_scan (G : GP) (d : Nat) (hG : ScS G) {b : Nat → Nat} {n : Nat} (h : BT b n) (m : Mem) (hB : CB b n m.1) (K : Mem → Prop) (hK : ∀ m4, TB (tK b) (tN b) (tkS b) (tC b) m4.1 → (∀ c, ¬ (230 ≤ c ∧ c ≤ 232) → m4.1 c = m.1 c) → m4.2.2 = m.2.2 → K m4) : Evv G (d + 8) mX7_scan [.ref (ga G 228)] m K :=
  vX7_scan G d m K (sc4 G d hG h m K hK n 0 0 uu uu m (by omega) ⟨Nat.zero_le _, Nat.le_refl _, rfl, hB, fun j hj => absurd hj (Nat.not_lt_zero j), fun _ _ => rfl, rfl⟩)
/-! text -/
theorem case_text (G : GP) (d : Nat) (hG : ScS G) {n : Nat} (m : Mem) (h : Inv TXc n m.1) : Evi G (d + 10) mX11_text [.ref (ga G 0)] m (Same G TXc n (d + 12) mX12_text []) := by
  have hTP := h.2.2.2.2.1
  obtain ⟨l1, -, l3⟩ := hTP.bd.is (by omega)
  have eL := hTP.len
  have hby := hTP.byt
  generalize tn (m.1 273 5) = N at l1 l3 hby
  have hv : ∀ k, ∃ v, (k < N → v < 256 ∧ m.1 278 k = nI v ∧ m.1 229 k = (nI v).toInt8.toInt32) ∧ (N ≤ k → v = 256) := fun k => by
    by_cases q : k < N
    · obtain ⟨v, x1, x2, x3⟩ := hby k q
      exact ⟨v, fun _ => ⟨x1, x2, x3⟩, fun z => by omega⟩
    · exact ⟨256, fun z => absurd z q, fun _ => rfl⟩
  obtain ⟨b, hb⟩ := Classical.axiomOfChoice hv
  have hT : BT b N := ⟨l3, fun k hk => (hb k).2 hk, fun k hk => ((hb k).1 hk).1⟩
  have hM : MB b N m := ⟨l1, fun k hk => ((hb k).1 hk).2.1⟩
  have hC : CB b N m.1 := ⟨by rw [eL]; exact l1, fun k hk => ((hb k).1 hk).2.2⟩
  refine case_text_of G d m h (TokM_of G hT) (fun m3 K3 a1 a2 k => kX7_scan G d hG hT m3 (hC.fr a1 a2) K3 k) (fun m5 K5 a1 a2 a3 k => qX12_nextToken G (d + 9) hT m5 K5 (q := 0) (Nat.zero_le _) (hM.fr a1 a2) a3 k)
