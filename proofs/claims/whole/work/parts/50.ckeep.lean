-- ===== Season.copyFrom =====
/-- what a copied Season holds; nothing else changes -/
def CopyS (f g : Nat → Nat → Int32) (c p nr su : Nat) : Prop :=
  (∀ q, q ≠ c → q ≠ c + 1 → q ≠ c + 2 → g q = f q) ∧ g c 0 = f p 0 ∧ g c 1 = f p 1 ∧ g c 2 = f p 2 ∧ g c 3 = f p 3 ∧ g c 4 = f p 4 ∧ g c 6 = f p 6 ∧ (∀ k, k < nr → g (c + 1) k = f (p + 1) k) ∧ (∀ k, k < 4 * su → g (c + 2) k = f (p + 2) k)
theorem qX5_copyFrom (G : GP) (d : Nat) (c p : Nat) (hc : SeAt c) (hp : SeAt p) (hd : p + 2 < c ∨ c + 2 < p) (m : Mem) (K : Mem → Prop) (nr su : Nat) (h4 : m.1 p 4 = nI nr) (hnr : nr ≤ 24) (h6 : m.1 p 6 = nI su) (hsu : su ≤ 20) (hK : ∀ m' : Mem, CopyS m.1 m'.1 c p nr su → K m') : Evv G (d + 1) mX5_copyFrom [.ref (ga G c), .ref (ga G p)] m K := by
  refine vX5_copyFrom G d c hc p hp m K ?_
  rintro m1 e1 m2 e2 m3 e3 m4 e4 m5 e5
  have p1 : ∀ q, q ≠ c → m1.1 q = m.1 q := fun q h => by rw [e1, wI_n _ _ _ h]
  have p2 : ∀ q, q ≠ c → m2.1 q = m.1 q := fun q h => by rw [e2, wI_n _ _ _ h, p1 q h]
  have p3 : ∀ q, q ≠ c → m3.1 q = m.1 q := fun q h => by rw [e3, wI_n _ _ _ h, p2 q h]
  have p4 : ∀ q, q ≠ c → m4.1 q = m.1 q := fun q h => by rw [e4, wI_n _ _ _ h, p3 q h]
  have p5 : ∀ q, q ≠ c → m5.1 q = m.1 q := fun q h => by rw [e5, wI_n _ _ _ h, p4 q h]
  have z : (0 : Int32).toNatClampNeg = 0 := by decide
  have n0 : ¬ (0 : Int32) < 0 := by decide
  rw [p5 p (by omega), h4, tn_nI (by omega), z]
  refine ⟨⟨n0, n0, nI_pos (by omega), by omega, by omega⟩, ?_⟩
  rintro m6 e6 m7 e7
  have p6 : ∀ q, q ≠ c → q ≠ c + 1 → m6.1 q = m.1 q := fun q h h1 => by rw [e6, wA_n _ _ h1, p5 q h]
  have p7 : ∀ q, q ≠ c → q ≠ c + 1 → m7.1 q = m.1 q := fun q h h1 => by rw [e7, wI_n _ _ _ h, p6 q h h1]
  have e8 : nI su * 4 = nI (4 * su) := by
    simp only [lit, pk_mul]
    exact congrArg nI (by omega)
  rw [p7 p (by omega) (by omega), h6, e8, tn_nI (by omega)]
  refine ⟨⟨n0, n0, nI_pos (by omega), by omega, by omega⟩, ?_⟩
  rintro m8 e9
  have c1 : m1.1 c = upd (m.1 c) 0 (m.1 p 0) := by rw [e1, wI_s]
  have c2 : m2.1 c = upd (m1.1 c) 1 (m.1 p 1) := by rw [e2, wI_s, p1 p (by omega)]
  have c3 : m3.1 c = upd (m2.1 c) 2 (m.1 p 2) := by rw [e3, wI_s, p2 p (by omega)]
  have c4 : m4.1 c = upd (m3.1 c) 3 (m.1 p 3) := by rw [e4, wI_s, p3 p (by omega)]
  have c5 : m5.1 c = upd (m4.1 c) 4 (m.1 p 4) := by rw [e5, wI_s, p4 p (by omega)]
  have c6 : m6.1 c = m5.1 c := by rw [e6, wA_n _ _ (by omega)]
  have c7 : m7.1 c = upd (m6.1 c) 6 (m.1 p 6) := by rw [e7, wI_s, p6 p (by omega) (by omega)]
  have c8 : m8.1 c = m7.1 c := by rw [e9, wA_n _ _ (by omega)]
  refine hK m8 ⟨fun q h1 h2 h3 => ?_, ?_, ?_, ?_, ?_, ?_, ?_, fun k hk => ?_, fun k hk => ?_⟩
  · rw [e9, wA_n _ _ h3, p7 q h1 h2]
  · rw [c8, c7, c6, c5, c4, c3, c2, c1]; simp (disch := omega) only [upd_n, upd_s]
  · rw [c8, c7, c6, c5, c4, c3, c2, c1]; simp (disch := omega) only [upd_n, upd_s]
  · rw [c8, c7, c6, c5, c4, c3, c2, c1]; simp (disch := omega) only [upd_n, upd_s]
  · rw [c8, c7, c6, c5, c4, c3, c2, c1]; simp (disch := omega) only [upd_n, upd_s]
  · rw [c8, c7, c6, c5, c4, c3, c2, c1]; simp (disch := omega) only [upd_n, upd_s]
  · rw [c8, c7, c6, c5, c4, c3, c2, c1]; simp (disch := omega) only [upd_n, upd_s]
  · rw [e9, wA_n _ _ (by omega), e7, wI_n _ _ _ (by omega), e6, wA_s, pk_cpy_in (by omega) (by omega), p5 (p + 1) (by omega), Nat.sub_zero, Nat.zero_add]
  · rw [e9, wA_s, pk_cpy_in (by omega) (by omega), p7 (p + 2) (by omega) (by omega), Nat.sub_zero, Nat.zero_add]
-- ===== Steps.keep =====
theorem rem_nI {a b : Nat} (ha : a < 2147483648) (h0 : 0 < b) (hb : b < 2147483648) : nI a - nI a / nI b * nI b = nI (a % b) := pk_rem (by omega) h0 (by omega)
/-- behind Steps.keep: which slot holds the copy, how many there are, which is the eldest -/
theorem qX10_keepStep (G : GP) (d : Nat) (m : Mem) (K : Mem → Prop) (s e nr su : Nat) (h0 : m.1 15 0 = nI s) (hs : s ≤ 30) (h1 : m.1 15 1 = nI e) (he : e < 30) (h4 : m.1 12 4 = nI nr) (hnr : nr ≤ 24) (h6 : m.1 12 6 = nI su) (hsu : su ≤ 20)
    (hK : ∀ (m1 m' : Mem), CopyS m.1 m1.1 (17 + 3 * ((e + s) % 30)) 12 nr su → m' = (if s < 30 then wI m1 15 0 (nI (s + 1)) else wI m1 15 1 (nI ((e + 1) % 30))) → K m') : Evv G (d + 3) mX10_keepStep [.ref (ga G 1)] m K := by
  refine vX10_keepStep G d m K (vX6_keep G d m _ ?_)
  have r1 : (nI e + nI s) - (nI e + nI s) / 30 * 30 = nI ((e + s) % 30) := by
    rw [nI_add]
    exact rem_nI (a := e + s) (b := 30) (by omega) (by omega) (by omega)
  have hlt : (e + s) % 30 < 30 := Nat.mod_lt _ (by omega)
  rw [h0, h1, r1, tn_nI (by omega)]
  refine ⟨in_nI hlt (by omega), ?_⟩
  rintro t rfl
  refine qX5_copyFrom G d (17 + 3 * ((e + s) % 30)) 12 (se_all16 _ hlt) se_now (by omega) m _ nr su h4 hnr h6 hsu (fun m1 hm1 => ?_)
  have g0 : m1.1 15 0 = nI s := by rw [hm1.1 15 (by omega) (by omega) (by omega), h0]
  have g1 : m1.1 15 1 = nI e := by rw [hm1.1 15 (by omega) (by omega) (by omega), h1]
  refine ⟨fun q => ?_, fun q => ?_⟩
  · rw [g0] at q
    have q : nI 30 ≤ nI s := q
    rw [le_nI (by omega) (by omega)] at q
    rintro m3 rfl
    refine hK m1 _ hm1 ?_
    rw [if_neg (by omega), g1, nI_1]
    have := rem_nI (a := e + 1) (b := 30) (by omega) (by omega) (by omega)
    exact congrArg (wI m1 15 1) this
  · rw [g0] at q
    have q : ¬ nI 30 ≤ nI s := q
    rw [le_nI (by omega) (by omega)] at q
    rintro m4 rfl
    refine hK m1 _ hm1 ?_
    rw [if_pos (by omega), g0, nI_1]
