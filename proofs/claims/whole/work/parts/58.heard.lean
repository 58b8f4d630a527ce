/-! rows that a call uses as paper -/
def Scr (c : Nat) : Prop := c = 10 ∨ c = 11 ∨ (235 ≤ c ∧ c ≤ 237) ∨ c = 263 ∨ c = 264 ∨ (266 ≤ c ∧ c ≤ 272) ∨ c = 277 ∨ 279 ≤ c
def Fs (f g : Nat → Nat → Int32) : Prop := ∀ c, ¬ Scr c → g c = f c
theorem Fs.rf (f : Nat → Nat → Int32) : Fs f f := fun _ _ => rfl
theorem Fs.tr {f g h : Nat → Nat → Int32} (a : Fs f g) (b : Fs g h) : Fs f h := fun c hc => (b c hc).trans (a c hc)
theorem Fs.w {f : Nat → Nat → Int32} {m : Mem} (a : Fs f m.1) {c k : Nat} {v : Int32} (h : Scr c) : Fs f (wI m c k v).1 := fun q hq => by
  rw [wI_n m k v (fun e => hq (by rw [e]; exact h))]
  exact a q hq
theorem Inv.scr {TX : (Nat → Nat → Int32) → Prop} (hT : TXok TX) {n : Nat} {f g : Nat → Nat → Int32} (h : Inv TX n f) (hg : Fs f g) : Inv TX n g := by
  obtain ⟨a1, a2, a3, a4, a5, a6, a7, a8, a9⟩ := h
  have e4 : g 274 = f 274 := hg 274 (by unfold Scr; omega)
  have e5 : g 275 = f 275 := hg 275 (by unfold Scr; omega)
  have e3 : g 273 = f 273 := hg 273 (by unfold Scr; omega)
  refine ⟨by rw [e4]; exact a1, by rw [e5]; exact a2, ?_, ?_, a5.fr ?_ ?_ ?_ ?_, a6.fr ?_ ?_ ?_, hT f g ⟨?_, ?_, ?_, ?_, ?_, ?_⟩ a7, by rw [e4]; exact a8, by rw [e5]; exact a9⟩
  · rw [e4]; exact a3.fr (fun c h1 h2 h3 h4 => hg c (by unfold Scr; omega))
  · rw [e5]; exact a4.fr (fun c h1 h2 h3 h4 => hg c (by unfold Scr; omega))
  · rw [hg 228 (by unfold Scr; omega)]
  · rw [e3]
  · rw [hg 278 (by unfold Scr; omega)]
  · rw [hg 229 (by unfold Scr; omega)]
  · rw [hg 233 (by unfold Scr; omega)]
  · rw [e3]
  · rw [e3]
  · rintro c (⟨h1, h2⟩ | rfl | rfl | rfl | rfl)
    · exact hg c (by unfold Scr; omega)
    · exact hg 265 (by unfold Scr; omega)
    · exact hg 276 (by unfold Scr; omega)
    · exact hg 8 (by unfold Scr; omega)
    · exact hg 9 (by unfold Scr; omega)
  · rw [hg 1 (by unfold Scr; omega)]
  · rw [hg 1 (by unfold Scr; omega)]
  · rw [hg 2 (by unfold Scr; omega)]
  · rw [e4]
  · rw [e5]
/-! what was heard -/
def hn (r : Nat → Int32) : Nat → Nat
  | 0 => 0
  | i + 1 => if r i < 10 then hn r i else hn r i + 1
def hv (r : Nat → Int32) : Nat → Nat → Int32
  | 0 => fun _ => 0
  | i + 1 => if r i < 10 then hv r i else upd (hv r i) (hn r i) (r i - 10)
theorem hn_le (r : Nat → Int32) : ∀ i, hn r i ≤ i
  | 0 => Nat.le_refl 0
  | i + 1 => by
    have := hn_le r i
    unfold hn
    split <;> omega
theorem hn_congr {r s : Nat → Int32} : ∀ i, (∀ k, k < i → r k = s k) → hn r i = hn s i
  | 0, _ => rfl
  | i + 1, h => by
    unfold hn
    rw [hn_congr i (fun k hk => h k (by omega)), h i (by omega)]
theorem hv_congr {r s : Nat → Int32} : ∀ i, (∀ k, k < i → r k = s k) → hv r i = hv s i
  | 0, _ => rfl
  | i + 1, h => by
    unfold hv
    rw [hv_congr i (fun k hk => h k (by omega)), hn_congr i (fun k hk => h k (by omega)), h i (by omega)]
theorem hv_bd {r : Nat → Int32} {nb : Nat} (hb : nb ≤ 6) : ∀ i, (∀ k, k < i → ∃ v, r k = nI v ∧ (v < nb ∨ (10 ≤ v ∧ v < 10 + nb))) → ∀ k, k < hn r i → ∃ v, v < nb ∧ hv r i k = nI v
  | 0, _, k, hk => absurd hk (by unfold hn; omega)
  | i + 1, h, k, hk => by
    unfold hn at hk
    unfold hv
    split at hk
    · rename_i hc
      rw [if_pos hc]
      exact hv_bd hb i (fun k hk => h k (by omega)) k hk
    · rename_i hc
      rw [if_neg hc]
      by_cases e : k = hn r i
      · subst e
        rw [upd_s]
        obtain ⟨v, e, h1 | h1⟩ := h i (by omega)
        · exfalso
          rw [e] at hc
          exact hc ((lt_nI (a := v) (b := 10) (by omega) (by omega)).mpr (by omega))
        · exact ⟨v - 10, by omega, by rw [e]; exact sub_nI (a := v) (b := 10) (by omega)⟩
      · rw [upd_n _ _ e]
        exact hv_bd hb i (fun k hk => h k (by omega)) k (by omega)
theorem qX0_listen (G : GP) (d : Nat) (m : Mem) (K : Mem → Prop) (N : Nat) (hN : m.1 12 4 = nI N) (h24 : N ≤ 24) (hK : ∀ m' : Mem, m'.1 266 2 = nI (hn (m.1 13) N) → (∀ k, k < hn (m.1 13) N → m'.1 267 k = hv (m.1 13) N k) → (∀ c, c ≠ 266 → c ≠ 267 → m'.1 c = m.1 c) → m'.2 = m.2 → K m') : Evv G d mX0_listen [.ref (ga G 266)] m K := by
  refine vX0_listen G d m K ?_
  rintro _ rfl
  refine loopD (P := fun i => ∀ m' : Mem, m'.1 266 2 = nI (hn (m.1 13) i) → (∀ k, k < hn (m.1 13) i → m'.1 267 k = hv (m.1 13) i k) → (∀ c, c ≠ 266 → c ≠ 267 → m'.1 c = m.1 c) → m'.2 = m.2 → Gw G d mX0_listen 15 [.ref (ga G 266), .ref (ga G 12), .int (nI i)] [] m' (Qv K)) N ?_ ?_ _ ?_ ?_ ?_ ?_
  · intro i hi hP m' e1 e2 e3 e4
    have hle := hn_le (m.1 13) i
    refine vX0_listen_15 G d (nI i) m' K ⟨fun hc => ?_, fun _ => ⟨in_nI (by omega) (by omega), fun hc => ?_, fun hc => ⟨in_nI (by omega) (by omega), ?_, ?_⟩⟩⟩
    · rw [e3 12 (by omega) (by omega), hN, le_nI (by omega) (by omega)] at hc
      omega
    · rintro _ rfl
      rw [tn_nI (by omega), e3 13 (by omega) (by omega)] at hc
      rw [nI_1]
      refine hP m' ?_ ?_ e3 e4
      · unfold hn; rw [if_pos hc]; exact e1
      · unfold hn hv; rw [if_pos hc, if_pos hc]; exact e2
    · rw [e1]; exact in_nI (by omega) (by omega)
    · rintro _ rfl _ rfl _ rfl
      rw [tn_nI (by omega), e3 13 (by omega) (by omega)] at hc
      rw [nI_1]
      have q : tn (nI (hn (m.1 13) i)) = hn (m.1 13) i := tn_nI (by omega)
      refine hP _ ?_ ?_ ?_ ?_
      · rw [wI_s, upd_s, wI_n _ _ _ (by omega), e1]
        have h1 : hn (m.1 13) (i + 1) = hn (m.1 13) i + 1 := by show (if m.1 13 i < 10 then hn (m.1 13) i else hn (m.1 13) i + 1) = _; rw [if_neg hc]
        rw [h1]
        exact nI_1 _
      · intro k hk
        unfold hn at hk; rw [if_neg hc] at hk
        unfold hv; rw [if_neg hc, wI_n _ _ _ (by omega), wI_s, e1, tn_nI (by omega), tn_nI (by omega), e3 13 (by omega) (by omega)]
        by_cases e : k = hn (m.1 13) i
        · rw [e, upd_s, upd_s]
        · rw [upd_n _ _ e, upd_n _ _ e]
          exact e2 k (by omega)
      · intro c h1 h2
        rw [wI_n _ _ _ h1, wI_n _ _ _ h2]
        exact e3 c h1 h2
      · exact e4
  · intro m' e1 e2 e3 e4
    refine vX0_listen_15 G d (nI N) m' K ⟨fun _ => hK m' e1 e2 e3 e4, fun hc => absurd ?_ hc⟩
    rw [e3 12 (by omega) (by omega), hN]
    exact (le_nI (by omega) (by omega)).mpr (Nat.le_refl _)
  · rw [wI_s, upd_s]; rfl
  · intro k hk
    exact absurd hk (by unfold hn; omega)
  · intro c h1 h2
    rw [wI_n _ _ _ h1]
  · rfl
theorem qX12_layHeard (G : GP) (d : Nat) (m : Mem) (K : Int32 → Mem → Prop) (N : Nat) (hN : m.1 274 14 = nI N) (h24 : N ≤ 24) (hK : ∀ m' : Mem, (∀ k, k < hn (fun k => m.1 274 (164 + k)) N → m'.1 283 k = hv (fun k => m.1 274 (164 + k)) N k) → (∀ c, c ≠ 283 → m'.1 c = m.1 c) → m'.2 = m.2 → K (nI (hn (fun k => m.1 274 (164 + k)) N)) m') : Evi G d mX12_layHeard [.ref (ga G 273)] m K := by
  refine vX12_layHeard G d m K ?_
  generalize hr : (fun k => m.1 274 (164 + k)) = r at hK
  refine loopD (P := fun i => ∀ m' : Mem, (∀ k, k < hn r i → m'.1 283 k = hv r i k) → (∀ c, c ≠ 283 → m'.1 c = m.1 c) → m'.2 = m.2 → Gw G d mX12_layHeard 4 [.ref (ga G 273), .int (nI (hn r i)), .int (nI i)] [] m' (Qi K)) N ?_ ?_ _ ?_ ?_ ?_
  · intro i hi hP m' e2 e3 e4
    have hle := hn_le r i
    have e : (164 : Int32) + nI i = nI (164 + i) := nI_add 164 i
    have er : m'.1 274 (164 + i) = r i := by rw [e3 274 (by omega), ← hr]
    refine vX12_layHeard_4 G d _ (nI i) m' K ⟨fun hc => ?_, fun _ => ⟨by rw [e]; exact in_nI (by omega) (by omega), fun hc => ⟨by rw [e]; exact in_nI (by omega) (by omega), in_nI (by omega) (by omega), ?_⟩, fun hc => ?_⟩⟩
    · rw [e3 274 (by omega), hN, le_nI (by omega) (by omega)] at hc
      omega
    · rintro _ rfl _ rfl _ rfl
      rw [e, tn_nI (by omega), er] at hc
      have hc : ¬ r i < 10 := by rw [Int32.not_lt]; exact hc
      rw [nI_1, nI_1]
      have h1 : hn r (i + 1) = hn r i + 1 := by show (if r i < 10 then hn r i else hn r i + 1) = _; rw [if_neg hc]
      rw [← h1]
      refine hP _ ?_ ?_ ?_
      · intro k hk
        rw [h1] at hk
        unfold hv; rw [if_neg hc, wI_s, e, tn_nI (by omega), tn_nI (by omega), er]
        by_cases e : k = hn r i
        · rw [e, upd_s, upd_s]
        · rw [upd_n _ _ e, upd_n _ _ e]
          exact e2 k (by omega)
      · intro c h1
        rw [wI_n _ _ _ h1]
        exact e3 c h1
      · exact e4
    · rintro _ rfl
      rw [e, tn_nI (by omega), er] at hc
      have hc : r i < 10 := by rw [Int32.not_le] at hc; exact hc
      rw [nI_1]
      have h1 : hn r (i + 1) = hn r i := by show (if r i < 10 then hn r i else hn r i + 1) = _; rw [if_pos hc]
      rw [← h1]
      refine hP m' ?_ e3 e4
      rw [h1]
      unfold hv; rw [if_pos hc]; exact e2
  · intro m' e2 e3 e4
    refine vX12_layHeard_4 G d _ (nI N) m' K ⟨fun _ => hK m' e2 e3 e4, fun hc => absurd ?_ hc⟩
    rw [e3 274 (by omega), hN]
    exact (le_nI (by omega) (by omega)).mpr (Nat.le_refl _)
  · intro k hk
    exact absurd hk (by unfold hn; omega)
  · intro c h1; rfl
  · rfl
/-- the number of strokes heard, and they -/
def hN (a : Nat → Int32) : Nat := hn (fun k => a (164 + k)) (tn (a 14))
def hR (a : Nat → Int32) : Nat → Int32 := hv (fun k => a (164 + k)) (tn (a 14))
theorem hN_le {a : Nat → Int32} (h : WF a) : hN a ≤ 24 := Nat.le_trans (hn_le _ _) (h.now.nr.is (by omega)).2.2
theorem hR_bd {a : Nat → Int32} (h : WF a) {k : Nat} (hk : k < hN a) : ∃ v, v < tn (a 0) ∧ hR a k = nI v := hv_bd (h.nb.is (by omega)).2.2 _ h.now.row k hk
theorem kC_listen (G : GP) (d : Nat) (m : Mem) (a : Nat → Int32) (K : Mem → Prop) (r : RC m.1 0 a) (h : WF a) (hK : ∀ m' : Mem, m'.1 266 2 = nI (hN a) → (∀ k, k < hN a → m'.1 267 k = hR a k) → (∀ c, c ≠ 266 → c ≠ 267 → m'.1 c = m.1 c) → m'.2 = m.2 → K m') : Evv G d mX0_listen [.ref (ga G 266)] m K := by
  obtain ⟨e1, -, e3⟩ := h.now.nr.is (by omega)
  have e2 : m.1 12 4 = a 14 := r.now.nr
  have ec : ∀ k, k < tn (a 14) → m.1 13 k = a (164 + k) := r.now.row
  refine qX0_listen G d m K (tn (a 14)) (e2.trans e1) e3 ?_
  rw [hn_congr _ ec, hv_congr _ ec]
  exact hK
theorem qX12_heardL (G : GP) (d : Nat) (m : Mem) (K : Int32 → Mem → Prop) (h : WF (m.1 274)) (hK : ∀ m' : Mem, (∀ k, k < hN (m.1 274) → m'.1 283 k = hR (m.1 274) k) → (∀ c, c ≠ 283 → m'.1 c = m.1 c) → m'.2 = m.2 → K (nI (hN (m.1 274))) m') : Evi G d mX12_layHeard [.ref (ga G 273)] m K := by
  obtain ⟨e1, -, e3⟩ := h.now.nr.is (by omega)
  exact qX12_layHeard G d m K (tn (m.1 274 14)) e1 e3 hK
theorem case_heard (G : GP) (d : Nat) {TX : (Nat → Nat → Int32) → Prop} (hT : TXok TX) {n : Nat} (a0 : Int32) (m : Mem) (h : Inv TX n m.1) : Evi G (d + 1) mX11_heard [.ref (ga G 0), .int a0] m (Same G TX n (d + 1) mX12_heard [.int a0]) := by
  have hR := h.2.2.1
  have hW := h.1
  have hle := hN_le hW
  refine vX11_heard G d a0 m _ (kC_listen G d m (m.1 274) _ hR hW ?_)
  intro m1 e1 e2 e3 e4
  have e5 : m1.1 274 = m.1 274 := e3 274 (by omega) (by omega)
  have key : ∀ r : Int32, ((¬ a0 = (-1)) → ((0 ≤ a0 ∧ a0 ≤ (nI (hN (m.1 274)) - 1)) → ∀ k, k < hN (m.1 274) → a0 = nI k → r = _root_.id (_root_.id (hv (fun k => m.1 274 (164 + k)) (tn (m.1 274 14)) k))) ∧ (¬ (0 ≤ a0 ∧ a0 ≤ (nI (hN (m.1 274)) - 1)) → r = -2)) → ((a0 = (-1)) → r = nI (hN (m.1 274))) → Same G TX n (d + 1) mX12_heard [.int a0] r m1 := by
    intro r k1 k2
    refine vX12_heard G d a0 m1 _ (qX12_heardL G d m1 _ (by rw [e5]; exact hW) ?_)
    intro m2 f1 f2 f3
    rw [e5] at f1 ⊢
    have hI : Inv TX (n + 1) m2.1 := (h.idle).scr hT (fun c hc => by
      rw [f2 c (fun e => hc (by unfold Scr; omega)), e3 c (fun e => hc (by unfold Scr; omega)) (fun e => hc (by unfold Scr; omega))])
    refine ⟨fun q => ⟨fun q2 => ?_, fun q2 => ⟨(k1 q).2 q2, hI⟩⟩, fun q => ⟨k2 q, hI⟩⟩
    obtain ⟨k, hk, rfl⟩ := (oneM_nI (by omega)).mp q2
    refine ⟨in_nI (by omega) (by omega), ?_, hI⟩
    rw [tn_nI (by omega), f1 k hk]
    exact (k1 q).1 q2 k hk rfl
  refine ⟨fun q => ⟨fun q2 => ?_, fun q2 => ?_⟩, fun q => ?_⟩
  · rw [e1] at q2
    obtain ⟨k, hk, rfl⟩ := (oneM_nI (by omega)).mp q2
    refine ⟨in_nI (by omega) (by omega), ?_⟩
    refine key _ (fun _ => ⟨fun _ k' hk' ek => ?_, fun q3 => absurd q2 q3⟩) (fun q3 => absurd q3 q)
    have : k = k' := (eq_nI (by omega) (by omega)).mp ek
    subst this
    rw [tn_nI (by omega)]
    exact e2 k hk
  · rw [e1] at q2
    exact key _ (fun _ => ⟨fun q3 => absurd q3 q2, fun _ => rfl⟩) (fun q3 => absurd q3 q)
  · rw [e1]
    exact key _ (fun q3 => absurd q q3) (fun _ => rfl)
