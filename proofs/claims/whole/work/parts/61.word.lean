/-! word -/
theorem runV_all (e : Nat → Bool) : ∀ f n k, n ≤ k → k < runV e f n → e k = true
  | 0, n, k, h1, h2 => by unfold runV at h2; omega
  | f + 1, n, k, h1, h2 => by
    unfold runV at h2
    split at h2
    · rename_i he
      by_cases q : k = n
      · rw [q]; exact he
      · exact runV_all e f (n + 1) k (by omega) h2
    · omega
theorem runV_end (e : Nat → Bool) : ∀ f n, runV e f n < n + f → e (runV e f n) = false
  | 0, n, h => by unfold runV at h; omega
  | f + 1, n, h => by
    unfold runV at h ⊢
    split
    · rename_i he
      rw [if_pos he] at h
      exact runV_end e f (n + 1) (by omega)
    · rename_i he
      simpa using he
def wc (a t : Nat → Int32) : Nat := runV (fun k => decide (0 ≤ t k ∧ t k < a 0)) 4 0
theorem wc_le (a t : Nat → Int32) : wc a t ≤ 4 := by
  have := (runV_le (fun k => decide (0 ≤ t k ∧ t k < a 0)) 4 0).2
  unfold wc
  omega
theorem wc_in {a t : Nat → Int32} (h : WF a) {k : Nat} (hk : k < wc a t) : ∃ b, b < tn (a 0) ∧ t k = nI b := by
  have := runV_all (fun k => decide (0 ≤ t k ∧ t k < a 0)) 4 0 k (by omega) hk
  have := of_decide_eq_true this
  obtain ⟨e1, -, e3⟩ := h.nb.is (by omega)
  rw [e1] at this
  exact (one_nI (by omega)).mp this
abbrev wordOk (a t : Nat → Int32) : Prop := 0 < wc a t ∧ ∀ k, k < 4 → wc a t ≤ k → t k = -1
def wordA (a t : Nat → Int32) (kd mn : Int32) (c w : Nat) : Nat → Int32 := upd (upd (upd (pt (upd (upd (upd a (34 + 9 * w) kd) (35 + 9 * w) mn) (36 + 9 * w) (nI c)) t (37 + 9 * w) 4) (41 + 9 * w) 1) (42 + 9 * w) (nI w)) 1 (nI (w + 1))
theorem WF.word1 {a : Nat → Int32} {t : Nat → Int32} {k c : Nat} {kd mn : Int32} (h : WF a) (hk : tn (a 1) = k) (hk10 : k < 10) (hkd : bd kd 0 3) (hmn : bd mn 0 99) (hc0 : 1 ≤ c) (hc4 : c ≤ 4) (hin : ∀ z, z < c → ∃ b, b < tn (a 0) ∧ t z = nI b) (hout : ∀ z, z < 4 → c ≤ z → t z = -1) : WF (wordA a t kd mn c k) := by
  have b0 := (h.nb.is (by omega)).2.2
  have b1 := (h.nw.is (by omega)).2.2
  have b2 := (h.nt.is (by omega)).2.2
  have b4 := (h.ns.is (by omega)).2.2
  have b5 := (h.nl.is (by omega)).2.2
  have b6 : tn (a 6) ≤ 12 := ((h.tl 0 (by omega)).is (by omega)).2.2
  have b7 : tn (a 7) ≤ 12 := ((h.tl 1 (by omega)).is (by omega)).2.2
  have bt : ∀ t, t < 2 → tn (a (6 + t)) ≤ 12 := fun t ht => ((h.tl t ht).is (by omega)).2.2
  have hk1 : tn (nI (k + 1)) = k + 1 := tn_nI (by omega)
  have hc1 : tn (nI c) = c := tn_nI (by omega)
  unfold wordA
  unfold WF WFs
  simp +contextual (disch := omega) only [upd_n, upd_s, pt_out]
  refine ⟨h.nb, ⟨k + 1, by omega, by omega, rfl⟩, h.nt, h.ru, h.ns, h.nl, h.tl, h.hd, h.loud, h.pitch, h.men, ?_, ?_, ?_, ?_, ?_, ?_, ?_, ?_, ?_, h.tow, h.now, h.sp, h.w1, h.w2⟩
  · intro q hq
    rw [hk1] at hq
    by_cases e : q = k
    · subst e
      simp (disch := omega) only [upd_n, upd_s, pt_out, pt_in]
      exact hkd
    · simp (disch := omega) only [upd_n, pt_out]
      exact h.kind q (by omega)
  · intro q hq
    rw [hk1] at hq
    by_cases e : q = k
    · subst e
      simp (disch := omega) only [upd_n, upd_s, pt_out, pt_in]
      exact hmn
    · simp (disch := omega) only [upd_n, pt_out]
      exact h.means q (by omega)
  · intro q hq
    rw [hk1] at hq
    by_cases e : q = k
    · subst e
      simp (disch := omega) only [upd_n, upd_s, pt_out, pt_in]
      exact ⟨c, by omega, by omega, rfl⟩
    · simp (disch := omega) only [upd_n, pt_out]
      exact h.len q (by omega)
  · intro q z hq hz
    rw [hk1] at hq
    by_cases e : q = k
    · subst e
      simp (disch := omega) only [upd_n, upd_s, pt_out, hc1] at hz
      simp (disch := omega) only [upd_n, pt_in]
      rw [show 37 + 9 * q + z - (37 + 9 * q) = z by omega]
      exact hin z hz
    · simp (disch := omega) only [upd_n, pt_out] at hz
      have := ((h.len q (by omega)).is (by omega)).2.2
      simp (disch := omega) only [upd_n, pt_out]
      exact h.str q z (by omega) hz
  · intro q z hq hz hz4
    rw [hk1] at hq
    by_cases e : q = k
    · subst e
      simp (disch := omega) only [upd_n, upd_s, pt_out, hc1] at hz
      simp (disch := omega) only [upd_n, pt_in]
      rw [show 37 + 9 * q + z - (37 + 9 * q) = z by omega]
      exact hout z hz4 hz
    · simp (disch := omega) only [upd_n, pt_out] at hz
      simp (disch := omega) only [upd_n, pt_out]
      exact h.non q z (by omega) hz hz4
  · intro q hq
    rw [hk1] at hq
    by_cases e : q = k
    · subst e
      simp (disch := omega) only [upd_n, upd_s, pt_out, pt_in]
      exact ⟨1, by omega, by omega, rfl⟩
    · simp (disch := omega) only [upd_n, pt_out]
      exact h.wei q (by omega)
  · intro q hq
    rw [hk1] at hq
    by_cases e : q = k
    · subst e
      simp (disch := omega) only [upd_n, upd_s, pt_out, pt_in]
      exact ⟨q, by omega, rfl⟩
    · simp (disch := omega) only [upd_n, pt_out]
      obtain ⟨v, hv, e⟩ := h.has q (by omega)
      exact ⟨v, by omega, e⟩
  · intro q hq
    obtain ⟨v, hv, e⟩ := h.li0 q hq
    exact ⟨v, by omega, e⟩
  · intro q hq
    obtain ⟨v, hv, e⟩ := h.li1 q hq
    exact ⟨v, by omega, e⟩
theorem RC.word1 {f g : Nat → Nat → Int32} {a : Nat → Int32} {t : Nat → Int32} {k c : Nat} {kd mn : Int32} (r : RC f 0 a) (h : WF a) (hk : tn (a 1) = k) (hk10 : k < 10) (hc4 : c ≤ 4) (h1 : g 2 = upd (f 2) 4 (nI (k + 1))) (h2 : g 6 = pt (f 6) t (4 * k) 4) (h3 : g 7 = upd (f 7) k (nI c)) (h4 : g 8 = upd (f 8) k kd) (h5 : g 9 = upd (f 9) k mn) (h6 : g 108 = upd (f 108) k 1) (h7 : g 109 = upd (f 109) k (nI k)) (hg : ∀ c, 1 ≤ c → c ≤ 113 → c ≠ 2 → c ≠ 6 → c ≠ 7 → c ≠ 8 → c ≠ 9 → c ≠ 108 → c ≠ 109 → g c = f c) : RC g 0 (wordA a t kd mn c k) := by
  have b0 := (h.nb.is (by omega)).2.2
  have b1 := (h.nw.is (by omega)).2.2
  have b2 := (h.nt.is (by omega)).2.2
  have b4 := (h.ns.is (by omega)).2.2
  have b5 := (h.nl.is (by omega)).2.2
  have b6 : tn (a 6) ≤ 12 := ((h.tl 0 (by omega)).is (by omega)).2.2
  have b7 : tn (a 7) ≤ 12 := ((h.tl 1 (by omega)).is (by omega)).2.2
  have bt : ∀ t, t < 2 → tn (a (6 + t)) ≤ 12 := fun t ht => ((h.tl t ht).is (by omega)).2.2
  have hk1 : tn (nI (k + 1)) = k + 1 := tn_nI (by omega)
  have hc1 : tn (nI c) = c := tn_nI (by omega)
  unfold wordA
  unfold RC RS
  simp +contextual (disch := omega) only [upd_n, upd_s, pt_out, hg, h1, h2, h3, h4, h5, h6, h7, Nat.add_zero]
  refine ⟨r.nb, True.intro, r.loud, r.pitch, r.men, ?_, ?_, ?_, ?_, ?_, ?_, r.nl, r.li0, r.li1, r.tl, r.tow, r.hd, r.nt, r.ru, r.now, r.ns, r.al, r.sp⟩
  · intro q hq
    rw [hk1] at hq
    by_cases e : q = k
    · subst e
      simp (disch := omega) only [upd_n, upd_s, pt_out, pt_in]
    · simp (disch := omega) only [upd_n, pt_out]
      exact r.kind q (by omega)
  · intro q hq
    rw [hk1] at hq
    by_cases e : q = k
    · subst e
      simp (disch := omega) only [upd_n, upd_s, pt_out, pt_in]
    · simp (disch := omega) only [upd_n, pt_out]
      exact r.means q (by omega)
  · intro q hq
    rw [hk1] at hq
    by_cases e : q = k
    · subst e
      simp (disch := omega) only [upd_n, upd_s, pt_out, pt_in]
    · simp (disch := omega) only [upd_n, pt_out]
      exact r.len q (by omega)
  · intro q z hq hz
    rw [hk1] at hq
    by_cases e : q = k
    · subst e
      simp (disch := omega) only [upd_n, pt_in]
      exact congrArg t (by omega)
    · simp (disch := omega) only [upd_n, pt_out]
      exact r.str q z (by omega) hz
  · intro q hq
    rw [hk1] at hq
    by_cases e : q = k
    · subst e
      simp (disch := omega) only [upd_n, upd_s, pt_out, pt_in]
    · simp (disch := omega) only [upd_n, pt_out]
      exact r.wei q (by omega)
  · intro q hq
    rw [hk1] at hq
    by_cases e : q = k
    · subst e
      simp (disch := omega) only [upd_n, upd_s, pt_out, pt_in]
    · simp (disch := omega) only [upd_n, pt_out]
      exact r.has q (by omega)
theorem RC.word0 {f g : Nat → Nat → Int32} {a : Nat → Int32} {t : Nat → Int32} {k : Nat} (r : RC f 0 a) (h : WF a) (hk : tn (a 1) = k) (h2 : g 6 = pt (f 6) t (4 * k) 4) (hg : ∀ c, 1 ≤ c → c ≤ 113 → c ≠ 6 → g c = f c) : RC g 0 (a) := by
  have b0 := (h.nb.is (by omega)).2.2
  have b1 := (h.nw.is (by omega)).2.2
  have b2 := (h.nt.is (by omega)).2.2
  have b4 := (h.ns.is (by omega)).2.2
  have b5 := (h.nl.is (by omega)).2.2
  have b6 : tn (a 6) ≤ 12 := ((h.tl 0 (by omega)).is (by omega)).2.2
  have b7 : tn (a 7) ≤ 12 := ((h.tl 1 (by omega)).is (by omega)).2.2
  have bt : ∀ t, t < 2 → tn (a (6 + t)) ≤ 12 := fun t ht => ((h.tl t ht).is (by omega)).2.2
  unfold RC RS
  simp +contextual (disch := omega) only [upd_n, upd_s, hg, h2, Nat.add_zero]
  refine ⟨r.nb, r.nw, r.loud, r.pitch, r.men, r.kind, r.means, r.len, ?_, r.wei, r.has, r.nl, r.li0, r.li1, r.tl, r.tow, r.hd, r.nt, r.ru, r.now, r.ns, r.al, r.sp⟩
  · intro q z hq hz
    simp (disch := omega) only [pt_out]
    exact r.str q z (by omega) hz
def tl4 (a0 a1 a2 a3 : Int32) : Nat → Int32 := fun k => match k with
  | 0 => a0
  | 1 => a1
  | 2 => a2
  | _ => a3
theorem tl4_m (m : Mem) (c p : Nat) (a0 a1 a2 a3 : Int32) : wI (wI (wI (wI m c p a0) c (p + 1) a1) c (p + 2) a2) c (p + 3) a3 = wA m c (pt (m.1 c) (tl4 a0 a1 a2 a3) p 4) := by
  have e0 : wI m c p a0 = wA m c (pt (m.1 c) (tl4 a0 a1 a2 a3) p 1) := by
    rw [← pt_succ, pt_0]; rfl
  rw [e0, wI_wA, wI_wA, wI_wA]
  show wA m c (upd (upd (upd (pt (m.1 c) (tl4 a0 a1 a2 a3) p 1) (p + 1) (tl4 a0 a1 a2 a3 1)) (p + 2) (tl4 a0 a1 a2 a3 2)) (p + 3) (tl4 a0 a1 a2 a3 3)) = _
  rw [pt_succ, pt_succ, pt_succ]
abbrev wordY (a t : Nat → Int32) (kd mn : Int32) : Prop := tn (a 1) < 10 ∧ (0 ≤ kd ∧ kd ≤ 3) ∧ (0 ≤ mn ∧ mn ≤ 99) ∧ wordOk a t
def wordF (a t : Nat → Int32) (kd mn : Int32) : Nat → Int32 := if wordY a t kd mn then wordA a t kd mn (wc a t) (tn (a 1)) else a
def wordR (a t : Nat → Int32) (kd mn : Int32) : Int32 := if wordY a t kd mn then nI (tn (a 1)) else -1
theorem WF.word {a : Nat → Int32} (h : WF a) (t : Nat → Int32) (kd mn : Int32) : WF (wordF a t kd mn) := by
  unfold wordF
  split
  · rename_i hY
    obtain ⟨h1, h2, h3, h4, h5⟩ := hY
    exact h.word1 rfl h1 (bd_of h2.1 h2.2 (by omega) (by omega)) (bd_of h3.1 h3.2 (by omega) (by omega)) h4 (wc_le a t) (fun z hz => wc_in h hz) h5
  · exact h
/-- cells that a new word touches -/
def FrW (f g : Nat → Nat → Int32) : Prop := ∀ c, c ≠ 2 → c ≠ 6 → c ≠ 7 → c ≠ 8 → c ≠ 9 → c ≠ 108 → c ≠ 109 → g c = f c
/-- what a new word does to what TEXTS look at -/
def TwW (f g : Nat → Nat → Int32) (b : Prop) (w : Nat) (kd mn : Int32) : Prop := (b → g 8 = upd (f 8) w kd ∧ g 9 = upd (f 9) w mn ∧ g 2 4 = nI (w + 1)) ∧ (¬ b → g 8 = f 8 ∧ g 9 = f 9 ∧ g 2 4 = f 2 4)
theorem kC_word (G : GP) (d : Nat) (a0 a1 a2 a3 kd mn : Int32) (m : Mem) (a : Nat → Int32) (K : Int32 → Mem → Prop) (r : RC m.1 0 a) (h : WF a) (hK : ∀ m' : Mem, RC m'.1 0 (wordF a (tl4 a0 a1 a2 a3) kd mn) → FrW m.1 m'.1 → TwW m.1 m'.1 (wordY a (tl4 a0 a1 a2 a3) kd mn) (tn (a 1)) kd mn → m'.2 = m.2 → K (wordR a (tl4 a0 a1 a2 a3) kd mn) m') : Evi G (d + 2) mX10_addWord [.ref (ga G 1), .int a0, .int a1, .int a2, .int a3, .int kd, .int mn] m K := by
  generalize ht : tl4 a0 a1 a2 a3 = t at *
  obtain ⟨e1, -, e3⟩ := h.nw.is (by omega)
  have e2 : m.1 2 4 = nI (tn (a 1)) := r.nw.trans e1
  obtain ⟨eb, -, e6⟩ := h.nb.is (by omega)
  generalize hw : tn (a 1) = w at *
  have hno : ¬ wordY a t kd mn → K (-1) m := fun q => by
    have := hK m
    unfold wordF wordR at this
    rw [if_neg q, if_neg q] at this
    exact this r (fun _ _ _ _ _ _ _ _ => rfl) ⟨fun q2 => absurd q2 q, fun _ => ⟨rfl, rfl, rfl⟩⟩ rfl
  have hno2 : ¬ wordY a t kd mn → K (-1) (wA m 6 (pt (m.1 6) t (4 * w) 4)) := fun q => by
    have := hK (wA m 6 (pt (m.1 6) t (4 * w) 4))
    unfold wordF wordR at this
    rw [if_neg q, if_neg q] at this
    refine this (r.word0 h hw (wA_s m 6 _) (fun c h1 h2 h3 => wA_n m _ h3)) (fun c _ h3 _ _ _ _ _ => wA_n m _ h3) ⟨fun q2 => absurd q2 q, fun _ => ⟨wA_n m _ (by omega), wA_n m _ (by omega), by rw [wA_n m _ (by omega)]⟩⟩ rfl
  refine vX10_addWord G d a0 a1 a2 a3 kd mn m K ?_
  refine vX2_addWord G d a0 a1 a2 a3 kd mn m _ ⟨fun q => ?_, fun q => ⟨fun q1 => ⟨fun q2 => ?_, fun q2 => ?_⟩, fun q1 => ?_⟩⟩
  · rw [e2] at q
    have q := (le_nI (a := 10) (by omega) (by omega)).mp q
    exact ⟨fun _ => hno (fun y => by have := y.1; omega), fun q2 => absurd rfl q2⟩
  · rw [e2] at q
    have q : w < 10 := Nat.lt_of_not_le (fun q3 => q ((le_nI (a := 10) (by omega) (by omega)).mpr q3))
    have e4 : nI w * 4 = nI (4 * w) := (pk_mul w 4).trans (congrArg nI (by omega))
    rintro _ rfl
    rw [e2, e4]
    have f1 : nI (4 * w) + 1 = nI (4 * w + 1) := nI_1 _
    have f2 : nI (4 * w) + 2 = nI (4 * w + 2) := nI_add _ 2
    have f3 : nI (4 * w) + 3 = nI (4 * w + 3) := nI_add _ 3
    rw [f1, f2, f3, tn_nI (by omega), tn_nI (by omega), tn_nI (by omega), tn_nI (by omega)]
    refine ⟨in_nI (by omega) (by omega), ?_⟩
    rintro _ rfl
    refine ⟨in_nI (by omega) (by omega), ?_⟩
    rintro _ rfl
    refine ⟨in_nI (by omega) (by omega), ?_⟩
    rintro _ rfl
    refine ⟨in_nI (by omega) (by omega), ?_⟩
    rintro _ rfl
    rw [tl4_m, ht]
    generalize hm : wA m 6 (pt (m.1 6) t (4 * w) 4) = m5 at *
    have g6 : ∀ k, k < 4 → m5.1 6 (4 * w + k) = t k := fun k hk => by
      rw [← hm, wA_s, pt_in (by omega) (by omega), show 4 * w + k - 4 * w = k by omega]
    have gn : ∀ c, c ≠ 6 → m5.1 c = m.1 c := fun c hc => by rw [← hm, wA_n m _ hc]
    have g0 : m5.1 2 0 = a 0 := by rw [gn 2 (by omega)]; exact r.nb
    have g24 : m5.1 2 4 = nI w := by rw [gn 2 (by omega)]; exact e2
    -- behind the count: the others must be NONE
    have key2 : ∀ c, c = wc a t → ∀ f n, n + f = 4 → c ≤ n → (∀ k, k < n → c ≤ k → t k = -1) → ∀ u1 u2 u3 u4, Gw G (d + 1) mX2_addWord 115 [.ref (ga G 2), u1, u2, u3, u4, .int kd, .int mn, .int (nI (4 * w)), .int (nI c), .int (nI n)] [] m5 (Qi (fun r2 m1 => ((r2 = (-1)) → K r2 m1) ∧ ((¬ r2 = (-1)) → Evv G (d + 1) mX9_startWord [.ref (ga G 107), .int r2] m1 (fun m3 => K r2 m3)))) := by
      intro c hc f
      have hc4 : c ≤ 4 := by rw [hc]; exact wc_le a t
      induction f with
      | zero =>
        intro n hn hcn hall u1 u2 u3 u4
        refine vX2_addWord_115 G d u1 u2 u3 u4 kd mn (nI (4 * w)) (nI c) (nI n) m5 _ ⟨fun _ => ⟨fun q3 => ?_, fun q3 => ?_⟩, fun q3 => absurd ((le_nI (a := 4) (by omega) (by omega)).mpr (by omega)) q3⟩
        · have c0 : 0 < c := Nat.pos_of_ne_zero (fun e => q3 (by rw [e]; rfl))
          have hY : wordY a t kd mn := ⟨by rw [hw]; exact q, q1, q2, by rw [← hc]; exact c0, fun k hk h2 => hall k (by omega) (by rw [hc]; exact h2)⟩
          rw [g24, tn_nI (by omega)]
          refine ⟨in_nI (by omega) (by omega), ?_⟩
          rintro _ rfl
          simp (disch := omega) only [wI_n, g24]
          rw [tn_nI (by omega)]
          refine ⟨in_nI (by omega) (by omega), ?_⟩
          rintro _ rfl
          simp (disch := omega) only [wI_n, g24]
          rw [tn_nI (by omega)]
          refine ⟨in_nI (by omega) (by omega), ?_⟩
          rintro _ rfl
          simp (disch := omega) only [wI_n, g24, nI_1]
          rintro _ rfl
          have er : (wI (wI (wI (wI m5 7 w (nI c)) 8 w kd) 9 w mn) 2 4 (nI (w + 1))).1 2 4 - 1 = nI w := by
            rw [wI_s, upd_s]; exact sub_nI (a := w + 1) (b := 1) (by omega)
          rw [er]
          refine ⟨fun q4 => ?_, fun _ => ?_⟩
          · exfalso
            have : (nI w).toInt = -1 := by rw [q4]; decide
            rw [nI_toInt (by omega)] at this
            omega
          · refine vX9_startWord G (d + 1) (nI w) _ _ ?_
            rw [tn_nI (by omega)]
            refine ⟨in_nI (by omega) (by omega), ?_⟩
            rintro _ rfl
            refine ⟨in_nI (by omega) (by omega), ?_⟩
            rintro _ rfl
            have := hK (wI (wI (wI (wI (wI (wI m5 7 w (nI c)) 8 w kd) 9 w mn) 2 4 (nI (w + 1))) 108 w 1) 109 w (nI w))
            unfold wordF wordR at this
            rw [if_pos hY, if_pos hY, hw, ← hc] at this
            refine this (r.word1 h hw q hc4 ?_ ?_ ?_ ?_ ?_ ?_ ?_ ?_) ?_ ⟨fun _ => ⟨?_, ?_, ?_⟩, fun q4 => absurd hY q4⟩ (by rw [← hm]; rfl)
            · simp (disch := omega) only [wI_n, wI_s, gn]
            · simp (disch := omega) only [wI_n]
              rw [← hm, wA_s]
            · simp (disch := omega) only [wI_n, wI_s, gn]
            · simp (disch := omega) only [wI_n, wI_s, gn]
            · simp (disch := omega) only [wI_n, wI_s, gn]
            · simp (disch := omega) only [wI_n, wI_s, gn]
            · simp (disch := omega) only [wI_n, wI_s, gn]
            · intro c h1 h2 h3 h4 h5 h6 h7 h8 h9
              simp (disch := omega) only [wI_n, gn]
            · intro c h3 h4 h5 h6 h7 h8 h9
              simp (disch := omega) only [wI_n, gn]
            · simp (disch := omega) only [wI_n, wI_s, gn]
            · simp (disch := omega) only [wI_n, wI_s, gn]
            · simp (disch := omega) only [wI_n, wI_s, upd_s]
        · have c0 : c = 0 := (eq_nI (b := 0) (by omega) (by omega)).mp q3
          exact ⟨fun _ => hno2 (fun y => by have := y.2.2.2.1; omega), fun q4 => absurd rfl q4⟩
      | succ f ih =>
        intro n hn hcn hall u1 u2 u3 u4
        have ea : nI (4 * w) + nI n = nI (4 * w + n) := nI_add _ _
        refine vX2_addWord_115 G d u1 u2 u3 u4 kd mn (nI (4 * w)) (nI c) (nI n) m5 _ ⟨fun q3 => ?_, fun _ => ⟨by rw [ea]; exact in_nI (by omega) (by omega), fun q3 => ?_, fun q3 => ?_⟩⟩
        · have q3 := (le_nI (a := 4) (by omega) (by omega)).mp q3
          omega
        · rw [ea, tn_nI (by omega), g6 n (by omega)] at q3
          rintro _ rfl
          rw [nI_1]
          refine ih (n + 1) (by omega) (by omega) (fun k h1 h2 => ?_) _ _ _ _
          by_cases e : k = n
          · rw [e]; exact q3
          · exact hall k (by omega) h2
        · rw [ea, tn_nI (by omega), g6 n (by omega)] at q3
          exact ⟨fun _ => hno2 (fun y => q3 (y.2.2.2.2 n (by omega) (by omega))), fun q4 => absurd rfl q4⟩
    have key1 : ∀ f n, n + f = 4 → wc a t = runV (fun k => decide (0 ≤ t k ∧ t k < a 0)) f n → ∀ u1 u2 u3 u4 u5, Gw G (d + 1) mX2_addWord 82 [.ref (ga G 2), u1, u2, u3, u4, .int kd, .int mn, .int (nI (4 * w)), .int (nI n), u5] [] m5 (Qi (fun r2 m1 => ((r2 = (-1)) → K r2 m1) ∧ ((¬ r2 = (-1)) → Evv G (d + 1) mX9_startWord [.ref (ga G 107), .int r2] m1 (fun m3 => K r2 m3)))) := by
      intro f
      induction f with
      | zero =>
        intro n hn hr u1 u2 u3 u4 u5
        have hr : wc a t = n := hr
        refine vX2_addWord_82 G d u1 u2 u3 u4 kd mn (nI (4 * w)) (nI n) u5 m5 _ ⟨fun _ => ?_, fun q3 => absurd ((le_nI (a := 4) (by omega) (by omega)).mpr (by omega)) q3⟩
        exact key2 n hr.symm 0 n (by omega) (by omega) (fun k h1 h2 => by omega) _ _ _ _
      | succ f ih =>
        intro n hn hr u1 u2 u3 u4 u5
        have ea : nI (4 * w) + nI n = nI (4 * w + n) := nI_add _ _
        unfold runV at hr
        refine vX2_addWord_82 G d u1 u2 u3 u4 kd mn (nI (4 * w)) (nI n) u5 m5 _ ⟨fun q3 => ?_, fun _ => ⟨by rw [ea]; exact in_nI (by omega) (by omega), fun q3 => ?_, fun q3 => ?_⟩⟩
        · have q3 := (le_nI (a := 4) (by omega) (by omega)).mp q3
          omega
        · rw [ea, tn_nI (by omega), g6 n (by omega), g0] at q3
          rw [if_pos (by simpa using q3)] at hr
          rintro _ rfl
          rw [nI_1]
          exact ih (n + 1) (by omega) hr _ _ _ _ _
        · rw [ea, tn_nI (by omega), g6 n (by omega), g0] at q3
          rw [if_neg (by simpa using q3)] at hr
          exact key2 n hr.symm (f + 1) n (by omega) (by omega) (fun k h1 h2 => by omega) _ _ _ _
    exact key1 4 0 (by omega) rfl _ _ _ _ _
  · exact ⟨fun _ => hno (fun y => q2 y.2.2.1), fun q3 => absurd rfl q3⟩
  · exact ⟨fun _ => hno (fun y => q1 y.2.1), fun q3 => absurd rfl q3⟩
/-- the model's word -/
theorem qX12_lengthTold (G : GP) (d : Nat) (m : Mem) (K : Int32 → Mem → Prop) (t : Nat → Int32) (h : WF (m.1 274)) (ht : ∀ k, k < 4 → m.1 277 k = t k) (hy : (∀ k, k < 4 → wc (m.1 274) t ≤ k → t k = -1) → K (nI (wc (m.1 274) t)) m) (hn : ¬ (∀ k, k < 4 → wc (m.1 274) t ≤ k → t k = -1) → K (-1) m) : Evi G (d + 2) mX12_lengthTold [.ref (ga G 273)] m K := by
  obtain ⟨eb, -, e6⟩ := h.nb.is (by omega)
  have hb : ∀ k, (0 ≤ t k ∧ t k ≤ m.1 274 0 - 1) ↔ (0 ≤ t k ∧ t k < m.1 274 0) := fun k => by rw [eb, oneM_nI (by omega), one_nI (by omega)]
  refine vX12_lengthTold G d m K ?_
  -- behind the first NONE
  have key2 : ∀ c, c = wc (m.1 274) t → ∀ f n, n + f = 4 → c < n → (∀ k, k < n → c ≤ k → t k = -1) → Gw G (d + 2) mX12_lengthTold 4 [.ref (ga G 273), .int (nI c), .int (nI n)] [] m (Qi K) := by
    intro c hc f
    induction f with
    | zero =>
      intro n hnf hcn hall
      refine vX12_lengthTold_4 G d (nI c) (nI n) m K ⟨fun _ => ?_, fun q3 => absurd ((le_nI (a := 4) (by omega) (by omega)).mpr (by omega)) q3⟩
      rw [hc]
      exact hy (fun k hk h2 => hall k (by omega) (by omega))
    | succ f ih =>
      intro n hnf hcn hall
      have no : ¬ t n = -1 → K (-1) m := fun q => hn (fun y => q (y n (by omega) (by omega)))
      refine vX12_lengthTold_4 G d (nI c) (nI n) m K ⟨fun q3 => ?_, fun _ => ⟨in_nI (by omega) (by omega), fun q3 => ⟨in_nI (by omega) (by omega), fun _ => ⟨fun q4 => ?_, fun _ => ?_⟩, fun _ => ?_⟩, fun q3 => ?_⟩⟩
      · have q3 := (le_nI (a := 4) (by omega) (by omega)).mp q3
        omega
      · have q4 := (le_nI (by omega) (by omega)).mp q4
        omega
      · rw [tn_nI (by omega), ht n (by omega)] at q3
        exact no q3
      · rw [tn_nI (by omega), ht n (by omega)] at q3
        exact no q3
      · rw [tn_nI (by omega), ht n (by omega)] at q3
        rintro _ rfl
        rw [nI_1]
        refine ih (n + 1) (by omega) (by omega) (fun k h1 h2 => ?_)
        by_cases e : k = n
        · rw [e]; exact q3
        · exact hall k (by omega) h2
  have key1 : ∀ f n, n + f = 4 → wc (m.1 274) t = runV (fun k => decide (0 ≤ t k ∧ t k < m.1 274 0)) f n → Gw G (d + 2) mX12_lengthTold 4 [.ref (ga G 273), .int (nI n), .int (nI n)] [] m (Qi K) := by
    intro f
    induction f with
    | zero =>
      intro n hnf hr
      have hr : wc (m.1 274) t = n := hr
      refine vX12_lengthTold_4 G d (nI n) (nI n) m K ⟨fun _ => ?_, fun q3 => absurd ((le_nI (a := 4) (by omega) (by omega)).mpr (by omega)) q3⟩
      rw [← hr]
      exact hy (fun k hk h2 => by omega)
    | succ f ih =>
      intro n hnf hr
      unfold runV at hr
      have bad : ¬ (0 ≤ t n ∧ t n < m.1 274 0) → ¬ t n = -1 → K (-1) m := fun q1 q2 => by
        rw [if_neg (by simpa using q1)] at hr
        exact hn (fun y => q2 (y n (by omega) (by omega)))
      refine vX12_lengthTold_4 G d (nI n) (nI n) m K ⟨fun q3 => ?_, fun _ => ⟨in_nI (by omega) (by omega), fun q3 => ⟨in_nI (by omega) (by omega), fun q5 => ⟨fun _ => ?_, fun q4 => absurd (Int32.le_refl _) q4⟩, fun q5 => ?_⟩, fun q3 => ?_⟩⟩
      · have q3 := (le_nI (a := 4) (by omega) (by omega)).mp q3
        omega
      · rw [tn_nI (by omega), ht n (by omega), hb] at q5
        rw [if_pos (by simpa using q5)] at hr
        rintro _ rfl _ rfl
        rw [nI_1]
        exact ih (n + 1) (by omega) hr
      · rw [tn_nI (by omega), ht n (by omega)] at q3
        rw [tn_nI (by omega), ht n (by omega), hb] at q5
        exact bad q5 q3
      · rw [tn_nI (by omega), ht n (by omega)] at q3
        have : ¬ (0 ≤ t n ∧ t n < m.1 274 0) := fun y => by rw [q3] at y; exact absurd y.1 (by decide)
        rw [if_neg (by simpa using this)] at hr
        rintro _ rfl
        rw [nI_1]
        refine key2 n hr.symm f (n + 1) (by omega) (by omega) (fun k h1 h2 => ?_)
        rw [show k = n by omega]
        exact q3
  exact key1 4 0 (by omega) rfl
theorem qX12_word (G : GP) (d : Nat) (a0 a1 a2 a3 kd mn : Int32) (m : Mem) (K : Int32 → Mem → Prop) (h : WF (m.1 274)) (hK : ∀ m' : Mem, m'.1 274 = wordF (m.1 274) (tl4 a0 a1 a2 a3) kd mn → (∀ c, c ≠ 274 → c ≠ 277 → m'.1 c = m.1 c) → m'.2 = m.2 → K (wordR (m.1 274) (tl4 a0 a1 a2 a3) kd mn) m') : Evi G (d + 3) mX12_word [.ref (ga G 273), .int a0, .int a1, .int a2, .int a3, .int kd, .int mn] m K := by
  generalize ht : tl4 a0 a1 a2 a3 = t at *
  obtain ⟨e1, -, e3⟩ := h.nw.is (by omega)
  generalize hw : tn (m.1 274 1) = w at *
  refine vX12_word G d a0 a1 a2 a3 kd mn m K ?_
  rintro _ rfl _ rfl _ rfl _ rfl
  have hm0 := tl4_m m 277 0 a0 a1 a2 a3
  rw [ht] at hm0
  rw [show wI (wI (wI (wI m 277 0 a0) 277 1 a1) 277 2 a2) 277 3 a3 = _ from hm0]
  clear hm0
  generalize hm : wA m 277 (pt (m.1 277) t 0 4) = m4 at *
  have g4 : m4.1 274 = m.1 274 := by rw [← hm, wA_n m _ (by omega)]
  have gn : ∀ c, c ≠ 277 → m4.1 c = m.1 c := fun c hc => by rw [← hm, wA_n m _ hc]
  have gt : ∀ k, k < 4 → m4.1 277 k = t k := fun k hk => by rw [← hm, wA_s, pt_in (by omega) (by omega), Nat.sub_zero]
  have g2 : m4.2 = m.2 := by rw [← hm]; rfl
  have hno : ¬ wordY (m.1 274) t kd mn → K (-1) m4 := fun q => by
    have := hK m4
    unfold wordF wordR at this
    rw [if_neg q, if_neg q] at this
    exact this g4 (fun c _ h2 => gn c h2) g2
  have hwc := wc_le (m.1 274) t
  refine qX12_lengthTold G d m4 _ t (by rw [g4]; exact h) gt (fun hall => ?_) (fun hall => ?_)
  · rw [g4] at hall ⊢
    refine ⟨fun q => ?_, fun q => ⟨fun q1 => ⟨fun q2 => ⟨fun q3 => ?_, fun q3 => ?_⟩, fun q2 => hno (fun y => q2 y.2.2.1)⟩, fun q1 => hno (fun y => q1 y.2.1)⟩⟩
    · have q := (lt_nI (b := 1) (by omega) (by omega)).mp q
      exact hno (fun y => by have := y.2.2.2.1; omega)
    · have q : ¬ wc (m.1 274) t < 1 := fun q4 => q ((lt_nI (b := 1) (by omega) (by omega)).mpr q4)
      have q3 : w < 10 := by
        by_cases e : w = 10
        · exact absurd (by rw [e1, e]; rfl) q3
        · omega
      have hY : wordY (m.1 274) t kd mn := ⟨by rw [hw]; exact q3, q1, q2, by omega, hall⟩
      have := hK
      unfold wordF wordR at this
      rw [if_pos hY, if_pos hY, hw] at this
      rintro _ rfl
      rw [e1]
      have i0 : (34 : Int32) + ((9 : Int32) * nI w) = nI (34 + 9 * w) := by simp only [lit, pk_mul, nI_add]
      have i1 : nI (34 + 9 * w) + 1 = nI (35 + 9 * w) := (nI_1 _).trans (congrArg nI (by omega))
      have i2 : nI (34 + 9 * w) + 2 = nI (36 + 9 * w) := (nI_add _ 2).trans (congrArg nI (by omega))
      have i3 : nI (34 + 9 * w) + 3 = nI (37 + 9 * w) := (nI_add _ 3).trans (congrArg nI (by omega))
      have i7 : nI (34 + 9 * w) + 7 = nI (41 + 9 * w) := (nI_add _ 7).trans (congrArg nI (by omega))
      have i8 : nI (34 + 9 * w) + 8 = nI (42 + 9 * w) := (nI_add _ 8).trans (congrArg nI (by omega))
      rw [i0]
      rintro _ rfl
      rw [i1, i2, tn_nI (by omega), tn_nI (by omega), tn_nI (by omega)]
      refine ⟨in_nI (by omega) (by omega), ?_⟩
      rintro _ rfl
      refine ⟨in_nI (by omega) (by omega), ?_⟩
      rintro _ rfl
      refine ⟨in_nI (by omega) (by omega), ?_⟩
      rintro _ rfl
      have es : wI (wI (wI m4 274 (34 + 9 * w) kd) 274 (35 + 9 * w) mn) 274 (36 + 9 * w) (nI (wc (m.1 274) t)) = wA m4 274 (pt (upd (upd (upd (m.1 274) (34 + 9 * w) kd) (35 + 9 * w) mn) (36 + 9 * w) (nI (wc (m.1 274) t))) t (37 + 9 * w) 0) := by
        rw [show wI m4 274 (34 + 9 * w) kd = wA m4 274 (upd (m.1 274) (34 + 9 * w) kd) by unfold wI; rw [g4], wI_wA, wI_wA, pt_0]
      rw [es]
      generalize hb : upd (upd (upd (m.1 274) (34 + 9 * w) kd) (35 + 9 * w) mn) (36 + 9 * w) (nI (wc (m.1 274) t)) = b at *
      have lp : ∀ f n, n + f = 4 → ∀ u1 u2 u3 u4 u5 u6 u7, Gw G (d + 3) mX12_word 127 [.ref (ga G 273), u1, u2, u3, u4, u5, u6, u7, .int (nI w), .int (nI (34 + 9 * w)), .int (nI n)] [] (wA m4 274 (pt b t (37 + 9 * w) n)) (Qi K) := by
        intro f
        induction f with
        | zero =>
          intro n hn u1 u2 u3 u4 u5 u6 u7
          refine vX12_word_127 G d u1 u2 u3 u4 u5 u6 u7 (nI w) (nI (34 + 9 * w)) (nI n) _ K ⟨fun _ => ?_, fun q4 => absurd ((le_nI (a := 4) (by omega) (by omega)).mpr (by omega)) q4⟩
          have hn4 : n = 4 := by omega
          subst hn4
          rw [i7, i8, tn_nI (by omega), tn_nI (by omega)]
          refine ⟨in_nI (by omega) (by omega), ?_⟩
          rintro _ rfl
          refine ⟨in_nI (by omega) (by omega), ?_⟩
          rintro _ rfl
          rw [wI_wA, wI_wA]
          have e9 : (wA m4 274 (upd (upd (pt b t (37 + 9 * w) 4) (41 + 9 * w) 1) (42 + 9 * w) (nI w))).1 274 1 = nI w := by
            rw [wA_s, upd_n _ _ (by omega), upd_n _ _ (by omega), pt_out (by omega), ← hb, upd_n _ _ (by omega), upd_n _ _ (by omega), upd_n _ _ (by omega)]
            exact e1
          rw [e9, nI_1]
          rintro _ rfl
          rw [wI_wA]
          refine this _ ?_ ?_ ?_
          · rw [wA_s, ← hb]; rfl
          · intro c h1 h2
            rw [wA_n _ _ h1, gn c h2]
          · exact g2
        | succ f ih =>
          intro n hn u1 u2 u3 u4 u5 u6 u7
          have i9 : nI (37 + 9 * w) + nI n = nI (37 + 9 * w + n) := nI_add _ _
          refine vX12_word_127 G d u1 u2 u3 u4 u5 u6 u7 (nI w) (nI (34 + 9 * w)) (nI n) _ K ⟨fun q4 => ?_, fun _ => ⟨in_nI (by omega) (by omega), by rw [i3, i9]; exact in_nI (by omega) (by omega), ?_⟩⟩
          · have q4 := (le_nI (a := 4) (by omega) (by omega)).mp q4
            omega
          · rw [i3, i9, tn_nI (by omega), tn_nI (by omega), wA_n _ _ (by omega), gt n (by omega)]
            rintro _ rfl _ rfl
            rw [wI_wA, pt_succ, nI_1]
            exact ih (n + 1) (by omega) _ _ _ _ _ _ _
      exact lp 4 0 (by omega) _ _ _ _ _ _ _
    · have : w = 10 := by
        rw [e1] at q3
        exact (eq_nI (b := 10) (by omega) (by omega)).mp q3
      exact hno (fun y => by have := y.1; omega)
  · rw [g4] at hall
    exact ⟨fun _ => hno (fun y => hall y.2.2.2.2), fun q => absurd (by decide) q⟩
/-- TEXTS look at kinds and meanings below the number of words -/
def TXword (TX : (Nat → Nat → Int32) → Prop) : Prop := ∀ (f g : Nat → Nat → Int32) (w : Nat) (v u : Int32), w < 10 → f 2 4 = nI w → g 8 = upd (f 8) w v → g 9 = upd (f 9) w u → g 2 4 = nI (w + 1) → (∀ c, (238 ≤ c ∧ c ≤ 261) ∨ c = 265 ∨ c = 276 → g c = f c) → g 1 5 = f 1 5 → g 1 6 = f 1 6 → g 274 2 = f 274 2 → g 275 2 = f 275 2 → TX f → TX g
theorem Inv.word {TX : (Nat → Nat → Int32) → Prop} (hT : TXok TX) (hw : TXword TX) {n : Nat} {f g : Nat → Nat → Int32} (h : Inv TX n f) {t : Nat → Int32} {kd mn : Int32} (hR : RC g 0 (wordF (f 274) t kd mn)) (hF : ∀ c, c ≠ 2 → c ≠ 6 → c ≠ 7 → c ≠ 8 → c ≠ 9 → c ≠ 108 → c ≠ 109 → c ≠ 274 → c ≠ 277 → g c = f c) (hW : TwW f g (wordY (f 274) t kd mn) (tn (f 274 1)) kd mn) (h4 : g 274 = wordF (f 274) t kd mn) : Inv TX (n + 1) g := by
  obtain ⟨a1, a2, a3, a4, a5, a6, a7, a8, a9⟩ := h
  have g5 : g 275 = f 275 := hF 275 (by omega) (by omega) (by omega) (by omega) (by omega) (by omega) (by omega) (by omega) (by omega)
  have gF : ∀ c, 110 ≤ c → c ≠ 274 → c ≠ 277 → g c = f c := fun c h1 h2 h3 => hF c (by omega) (by omega) (by omega) (by omega) (by omega) (by omega) (by omega) h2 h3
  have gi : ∀ i, i ≠ 1 → i < 34 ∨ 124 ≤ i → g 274 i = f 274 i := fun i h1 h2 => by
    rw [h4]
    unfold wordF
    split
    · rename_i hY
      have := hY.1
      unfold wordA
      simp (disch := omega) only [upd_n, pt_out]
    · rfl
  refine ⟨by rw [h4]; exact a1.word t kd mn, by rw [g5]; exact a2, by rw [h4]; exact hR, ?_, a5.fr ?_ ?_ ?_ ?_, a6.fr ?_ ?_ ?_, ?_, ?_, ?_⟩
  · rw [g5]; exact a4.fr (fun c h1 h2 _ _ => gF c (by omega) (by omega) (by omega))
  · rw [gF 228 (by omega) (by omega) (by omega)]
  · rw [gF 273 (by omega) (by omega) (by omega)]
  · rw [gF 278 (by omega) (by omega) (by omega)]
  · rw [gF 229 (by omega) (by omega) (by omega)]
  · rw [gF 233 (by omega) (by omega) (by omega)]
  · rw [gF 273 (by omega) (by omega) (by omega)]
  · rw [gF 273 (by omega) (by omega) (by omega)]
  · have g1 : g 1 = f 1 := hF 1 (by omega) (by omega) (by omega) (by omega) (by omega) (by omega) (by omega) (by omega) (by omega)
    by_cases hY : wordY (f 274) t kd mn
    · obtain ⟨t1, t2, t3⟩ := hW.1 hY
      refine hw f g (tn (f 274 1)) kd mn hY.1 (a3.nw.trans (a1.nw.is (by omega)).1) t1 t2 t3 ?_ (by rw [g1]) (by rw [g1]) (gi 2 (by omega) (by omega)) (by rw [g5]) a7
      rintro c (⟨q1, q2⟩ | rfl | rfl)
      · exact gF c (by omega) (by omega) (by omega)
      · exact gF 265 (by omega) (by omega) (by omega)
      · exact gF 276 (by omega) (by omega) (by omega)
    · obtain ⟨t1, t2, t3⟩ := hW.2 hY
      refine hT f g ⟨?_, by rw [g1], by rw [g1], t3, gi 2 (by omega) (by omega), by rw [g5]⟩ a7
      rintro c (⟨q1, q2⟩ | rfl | rfl | rfl | rfl)
      · exact gF c (by omega) (by omega) (by omega)
      · exact gF 265 (by omega) (by omega) (by omega)
      · exact gF 276 (by omega) (by omega) (by omega)
      · exact t1
      · exact t2
  · rw [gi 13 (by omega) (by omega)]; omega
  · rw [g5]; omega
theorem case_word (G : GP) (d : Nat) {TX : (Nat → Nat → Int32) → Prop} (hT : TXok TX) (hw : TXword TX) {n : Nat} (a0 a1 a2 a3 a4 a5 : Int32) (m : Mem) (h : Inv TX n m.1) : Evi G (d + 3) mX11_word [.ref (ga G 0), .int a0, .int a1, .int a2, .int a3, .int a4, .int a5] m (Same G TX n (d + 3) mX12_word [.int a0, .int a1, .int a2, .int a3, .int a4, .int a5]) := by
  refine vX11_word G d a0 a1 a2 a3 a4 a5 m _ (kC_word G d a0 a1 a2 a3 a4 a5 m (m.1 274) _ h.2.2.1 h.1 ?_)
  intro m1 c1 c2 c3 c4
  have e4 : m1.1 274 = m.1 274 := c2 274 (by omega) (by omega) (by omega) (by omega) (by omega) (by omega) (by omega)
  refine qX12_word G d a0 a1 a2 a3 a4 a5 m1 _ (by rw [e4]; exact h.1) ?_
  intro m2 d1 d2 d3
  rw [e4] at d1 ⊢
  refine ⟨rfl, h.word hT hw (t := tl4 a0 a1 a2 a3) (kd := a4) (mn := a5) (c1.fr (fun c h1 h2 h3 h4 => d2 c (by omega) (by omega))) ?_ ?_ d1⟩
  · intro c h1 h2 h3 h4 h5 h6 h7 h8 h9
    rw [d2 c h8 h9, c2 c h1 h2 h3 h4 h5 h6 h7]
  · unfold TwW
    rw [d2 8 (by omega) (by omega), d2 9 (by omega) (by omega), d2 2 (by omega) (by omega)]
    exact c3
