/-! THE MODEL READS A LAW, by tokens -/
def MSm (m m' : Mem) : Prop := (∀ p, p = 5 ∨ (8 ≤ p ∧ p ≤ 11) → m'.1 273 p = m.1 273 p) ∧ m'.1 278 = m.1 278 ∧ m'.2.1 273 12 = m.2.1 273 12
def MV (m m' : Mem) : Prop := (∀ c, c ≠ 273 → m'.1 c = m.1 c) ∧ ∀ p, ¬ (8 ≤ p ∧ p ≤ 11) → m'.1 273 p = m.1 273 p
def kM (t : Nat) : Nat := if t = 1 then 0 else if t = 2 then 1 else if t = 3 then 4 else if t = 4 then 5 else if t < 100 then t else 2
def isW (m : Mem) (w : Int64) : Prop := m.1 273 10 = 2 ∧ m.2.1 273 12 = w
/-- the token under the model's finger -/
def TkM (m : Mem) (t n s : Nat) : Prop :=
  (m.1 273 9 = nI s) ∧
  ((t = 0 ∧ (m.1 273 10 = 3 ∨ m.1 273 10 = 2)) ∨ (0 < t ∧ m.1 273 10 = nI (kM t))) ∧
  (t ≤ 4 ∨ (35 ≤ t ∧ t ≤ 94) ∨ (100 ≤ t ∧ t ≤ 122)) ∧
  (t = 2 → ∃ v, m.1 273 11 = nI v ∧ v < 1000000 ∧ n = min v 10000) ∧
  (isW m (w4V 111 118 101 114) ↔ t = 100) ∧
  (isW m (w6V 98 101 103 105 110 115) ↔ t = 102) ∧
  (isW m (w4V 98 101 108 108) ↔ t = 103) ∧
  (isW m (w4V 119 111 114 100) ↔ t = 104) ∧
  (isW m (w4V 114 105 110 103) ↔ t = 105) ∧
  (isW m (w5V 115 112 101 97 107) ↔ t = 106) ∧
  (isW m (w4V 119 105 110 100) ↔ t = 107) ∧
  (isW m (w5V 102 114 111 115 116) ↔ t = 108) ∧
  (isW m (w4V 104 111 117 114) ↔ t = 109) ∧
  (isW m (w6V 115 117 110 100 97 121) ↔ t = 110) ∧
  (isW m (w5V 112 105 116 99 104) ↔ t = 111) ∧
  (isW m (w3V 109 101 110) ↔ t = 112) ∧
  (isW m (w5V 109 101 97 110 115) ↔ t = 113) ∧
  (isW m ((((111 : Int32).toInt64 <<< ((8 : Int32).toInt64 &&& 63)) ||| (114 : Int32).toInt64)) ↔ t = 114) ∧
  (isW m (w3V 97 110 100) ↔ t = 115) ∧
  (isW m (w3V 110 111 116) ↔ t = 116) ∧
  (isW m (w4V 108 111 117 100) ↔ t = 117) ∧
  (isW m (w4V 107 105 110 100) ↔ t = 119) ∧
  (isW m (w4V 110 101 120 116) ↔ t = 120) ∧
  (isW m (w5V 112 108 97 99 101) ↔ t = 122)
theorem TkM.pl {m : Mem} {t n s : Nat} (h : TkM m t n s) : m.1 273 9 = nI s := h.1
theorem TkM.kd {m : Mem} {t n s : Nat} (h : TkM m t n s) : (t = 0 ∧ (m.1 273 10 = 3 ∨ m.1 273 10 = 2)) ∨ (0 < t ∧ m.1 273 10 = nI (kM t)) := h.2.1
theorem TkM.rg {m : Mem} {t n s : Nat} (h : TkM m t n s) : t ≤ 4 ∨ (35 ≤ t ∧ t ≤ 94) ∨ (100 ≤ t ∧ t ≤ 122) := h.2.2.1
theorem TkM.nu {m : Mem} {t n s : Nat} (h : TkM m t n s) : t = 2 → ∃ v, m.1 273 11 = nI v ∧ v < 1000000 ∧ n = min v 10000 := h.2.2.2.1
theorem TkM.over {m : Mem} {t n s : Nat} (h : TkM m t n s) : isW m (w4V 111 118 101 114) ↔ t = 100 := h.2.2.2.2.1
theorem TkM.begins {m : Mem} {t n s : Nat} (h : TkM m t n s) : isW m (w6V 98 101 103 105 110 115) ↔ t = 102 := h.2.2.2.2.2.1
theorem TkM.bell {m : Mem} {t n s : Nat} (h : TkM m t n s) : isW m (w4V 98 101 108 108) ↔ t = 103 := h.2.2.2.2.2.2.1
theorem TkM.word {m : Mem} {t n s : Nat} (h : TkM m t n s) : isW m (w4V 119 111 114 100) ↔ t = 104 := h.2.2.2.2.2.2.2.1
theorem TkM.ring {m : Mem} {t n s : Nat} (h : TkM m t n s) : isW m (w4V 114 105 110 103) ↔ t = 105 := h.2.2.2.2.2.2.2.2.1
theorem TkM.speak {m : Mem} {t n s : Nat} (h : TkM m t n s) : isW m (w5V 115 112 101 97 107) ↔ t = 106 := h.2.2.2.2.2.2.2.2.2.1
theorem TkM.wind {m : Mem} {t n s : Nat} (h : TkM m t n s) : isW m (w4V 119 105 110 100) ↔ t = 107 := h.2.2.2.2.2.2.2.2.2.2.1
theorem TkM.frost {m : Mem} {t n s : Nat} (h : TkM m t n s) : isW m (w5V 102 114 111 115 116) ↔ t = 108 := h.2.2.2.2.2.2.2.2.2.2.2.1
theorem TkM.hour {m : Mem} {t n s : Nat} (h : TkM m t n s) : isW m (w4V 104 111 117 114) ↔ t = 109 := h.2.2.2.2.2.2.2.2.2.2.2.2.1
theorem TkM.sunday {m : Mem} {t n s : Nat} (h : TkM m t n s) : isW m (w6V 115 117 110 100 97 121) ↔ t = 110 := h.2.2.2.2.2.2.2.2.2.2.2.2.2.1
theorem TkM.pitch {m : Mem} {t n s : Nat} (h : TkM m t n s) : isW m (w5V 112 105 116 99 104) ↔ t = 111 := h.2.2.2.2.2.2.2.2.2.2.2.2.2.2.1
theorem TkM.men {m : Mem} {t n s : Nat} (h : TkM m t n s) : isW m (w3V 109 101 110) ↔ t = 112 := h.2.2.2.2.2.2.2.2.2.2.2.2.2.2.2.1
theorem TkM.means {m : Mem} {t n s : Nat} (h : TkM m t n s) : isW m (w5V 109 101 97 110 115) ↔ t = 113 := h.2.2.2.2.2.2.2.2.2.2.2.2.2.2.2.2.1
theorem TkM.or_ {m : Mem} {t n s : Nat} (h : TkM m t n s) : isW m ((((111 : Int32).toInt64 <<< ((8 : Int32).toInt64 &&& 63)) ||| (114 : Int32).toInt64)) ↔ t = 114 := h.2.2.2.2.2.2.2.2.2.2.2.2.2.2.2.2.2.1
theorem TkM.and_ {m : Mem} {t n s : Nat} (h : TkM m t n s) : isW m (w3V 97 110 100) ↔ t = 115 := h.2.2.2.2.2.2.2.2.2.2.2.2.2.2.2.2.2.2.1
theorem TkM.not_ {m : Mem} {t n s : Nat} (h : TkM m t n s) : isW m (w3V 110 111 116) ↔ t = 116 := h.2.2.2.2.2.2.2.2.2.2.2.2.2.2.2.2.2.2.2.1
theorem TkM.loud {m : Mem} {t n s : Nat} (h : TkM m t n s) : isW m (w4V 108 111 117 100) ↔ t = 117 := h.2.2.2.2.2.2.2.2.2.2.2.2.2.2.2.2.2.2.2.2.1
theorem TkM.kind {m : Mem} {t n s : Nat} (h : TkM m t n s) : isW m (w4V 107 105 110 100) ↔ t = 119 := h.2.2.2.2.2.2.2.2.2.2.2.2.2.2.2.2.2.2.2.2.2.1
theorem TkM.next {m : Mem} {t n s : Nat} (h : TkM m t n s) : isW m (w4V 110 101 120 116) ↔ t = 120 := h.2.2.2.2.2.2.2.2.2.2.2.2.2.2.2.2.2.2.2.2.2.2.1
theorem TkM.place {m : Mem} {t n s : Nat} (h : TkM m t n s) : isW m (w5V 112 108 97 99 101) ↔ t = 122 := h.2.2.2.2.2.2.2.2.2.2.2.2.2.2.2.2.2.2.2.2.2.2.2
def TokM (G : GP) (kd nm st : Nat → Nat) (cnt : Nat) (T : Nat → Mem → Prop) : Prop :=
  (∀ {i : Nat} {m m' : Mem}, T i m → MSm m m' → T i m') ∧
  (∀ {i : Nat} {m : Mem} {d : Nat} {K : Mem → Prop}, T i m → kd i ≠ 1 → (∀ m', MV m m' → T (i + 1) m' → K m') → Evv G (d + 1) mX12_nextToken [.ref (ga G 273)] m K) ∧
  (∀ {i : Nat} {m : Mem}, T i m → TkM m (kd i) (nm i) (st i)) ∧
  (∀ {i : Nat} {m : Mem} {d : Nat} {K : Int32 → Mem → Prop}, T i m → (kd i = 118 → K 1 m) → (kd i ≠ 118 → K 0 m) → Evi G (d + 4) mX12_isStrokes [.ref (ga G 273)] m K) ∧
  (∀ {i : Nat} {m : Mem} {d : Nat} {K : Int32 → Mem → Prop}, T i m → (kd i = 101 → K 1 m) → (kd i ≠ 101 → K 0 m) → Evi G (d + 4) mX12_isFollows [.ref (ga G 273)] m K) ∧
  (∀ {i : Nat} {m : Mem} {d : Nat} {K : Int32 → Mem → Prop}, T i m → (kd i = 121 → K 1 m) → (kd i ≠ 121 → K 0 m) → Evi G (d + 4) mX12_isMeaning [.ref (ga G 273)] m K) ∧
  (kd cnt = 1) ∧
  (cnt ≤ 300)
theorem TokM.fr {G : GP} {kd nm st : Nat → Nat} {cnt : Nat} {T : Nat → Mem → Prop} (h : TokM G kd nm st cnt T) : ∀ {i : Nat} {m m' : Mem}, T i m → MSm m m' → T i m' := h.1
theorem TokM.nx {G : GP} {kd nm st : Nat → Nat} {cnt : Nat} {T : Nat → Mem → Prop} (h : TokM G kd nm st cnt T) : ∀ {i : Nat} {m : Mem} {d : Nat} {K : Mem → Prop}, T i m → kd i ≠ 1 → (∀ m', MV m m' → T (i + 1) m' → K m') → Evv G (d + 1) mX12_nextToken [.ref (ga G 273)] m K := h.2.1
theorem TokM.tk {G : GP} {kd nm st : Nat → Nat} {cnt : Nat} {T : Nat → Mem → Prop} (h : TokM G kd nm st cnt T) : ∀ {i : Nat} {m : Mem}, T i m → TkM m (kd i) (nm i) (st i) := h.2.2.1
theorem TokM.stk {G : GP} {kd nm st : Nat → Nat} {cnt : Nat} {T : Nat → Mem → Prop} (h : TokM G kd nm st cnt T) : ∀ {i : Nat} {m : Mem} {d : Nat} {K : Int32 → Mem → Prop}, T i m → (kd i = 118 → K 1 m) → (kd i ≠ 118 → K 0 m) → Evi G (d + 4) mX12_isStrokes [.ref (ga G 273)] m K := h.2.2.2.1
theorem TokM.fol {G : GP} {kd nm st : Nat → Nat} {cnt : Nat} {T : Nat → Mem → Prop} (h : TokM G kd nm st cnt T) : ∀ {i : Nat} {m : Mem} {d : Nat} {K : Int32 → Mem → Prop}, T i m → (kd i = 101 → K 1 m) → (kd i ≠ 101 → K 0 m) → Evi G (d + 4) mX12_isFollows [.ref (ga G 273)] m K := h.2.2.2.2.1
theorem TokM.mng {G : GP} {kd nm st : Nat → Nat} {cnt : Nat} {T : Nat → Mem → Prop} (h : TokM G kd nm st cnt T) : ∀ {i : Nat} {m : Mem} {d : Nat} {K : Int32 → Mem → Prop}, T i m → (kd i = 121 → K 1 m) → (kd i ≠ 121 → K 0 m) → Evi G (d + 4) mX12_isMeaning [.ref (ga G 273)] m K := h.2.2.2.2.2.1
theorem TokM.ec {G : GP} {kd nm st : Nat → Nat} {cnt : Nat} {T : Nat → Mem → Prop} (h : TokM G kd nm st cnt T) : kd cnt = 1 := h.2.2.2.2.2.2.1
theorem TokM.cb {G : GP} {kd nm st : Nat → Nat} {cnt : Nat} {T : Nat → Mem → Prop} (h : TokM G kd nm st cnt T) : cnt ≤ 300 := h.2.2.2.2.2.2.2
theorem TkM.eq {m : Mem} {t n s : Nat} (h : TkM m t n s) {k : Nat} (hk : k ≠ 3 ∧ k ≠ 2 ∧ k ≠ 100 ∧ k < 100) : m.1 273 10 = nI k ↔ (0 < t ∧ kM t = k) := by
  rcases h.kd with ⟨h0, z | z⟩ | ⟨h0, z⟩
  · rw [z]
    constructor
    · intro e
      have := (eq_nI (a := 3) (by omega) (by omega)).mp e
      omega
    · intro e; omega
  · rw [z]
    constructor
    · intro e
      have := (eq_nI (a := 2) (by omega) (by omega)).mp e
      omega
    · intro e; omega
  · rw [z]
    have hr := h.rg
    have : kM t ≤ 200 := by unfold kM; repeat (first | omega | split)
    rw [eq_nI (by omega) (by omega)]
    exact ⟨fun e => ⟨h0, e⟩, fun e => e.2⟩
theorem TkM.sym {m : Mem} {t n s : Nat} (h : TkM m t n s) {k : Nat} (hk : 35 ≤ k ∧ k ≤ 94) : m.1 273 10 = nI k ↔ t = k := by
  rw [h.eq (by omega)]
  have hr := h.rg
  unfold kM
  constructor
  · rintro ⟨h0, e⟩
    revert e
    repeat (first | omega | split)
  · intro e
    refine ⟨by omega, ?_⟩
    repeat (first | omega | split)
theorem TkM.num {m : Mem} {t n s : Nat} (h : TkM m t n s) : m.1 273 10 = 1 ↔ t = 2 := by
  rw [show (1 : Int32) = nI 1 from rfl, h.eq (by omega)]
  have hr := h.rg
  unfold kM
  constructor
  · rintro ⟨h0, e⟩
    revert e
    repeat (first | omega | split)
  · intro e
    refine ⟨by omega, ?_⟩
    repeat (first | omega | split)
theorem TkM.fin {m : Mem} {t n s : Nat} (h : TkM m t n s) : m.1 273 10 = 0 ↔ t = 1 := by
  rw [show (0 : Int32) = nI 0 from rfl, h.eq (by omega)]
  have hr := h.rg
  unfold kM
  constructor
  · rintro ⟨h0, e⟩
    revert e
    repeat (first | omega | split)
  · intro e
    refine ⟨by omega, ?_⟩
    repeat (first | omega | split)
theorem TkM.le {m : Mem} {t n s : Nat} (h : TkM m t n s) : m.1 273 10 = 4 ↔ t = 3 := by
  rw [show (4 : Int32) = nI 4 from rfl, h.eq (by omega)]
  have hr := h.rg
  unfold kM
  constructor
  · rintro ⟨h0, e⟩
    revert e
    repeat (first | omega | split)
  · intro e
    refine ⟨by omega, ?_⟩
    repeat (first | omega | split)
theorem TkM.ge {m : Mem} {t n s : Nat} (h : TkM m t n s) : m.1 273 10 = 5 ↔ t = 4 := by
  rw [show (5 : Int32) = nI 5 from rfl, h.eq (by omega)]
  have hr := h.rg
  unfold kM
  constructor
  · rintro ⟨h0, e⟩
    revert e
    repeat (first | omega | split)
  · intro e
    refine ⟨by omega, ?_⟩
    repeat (first | omega | split)
/-- no word: below 100 -/
theorem TkM.nw {m : Mem} {t n s : Nat} (h : TkM m t n s) (hz : ¬ m.1 273 10 = 2) : t < 100 := by
  rcases h.kd with ⟨h0, z | z⟩ | ⟨h0, z⟩
  · omega
  · omega
  · have hr := h.rg
    rcases Nat.lt_or_ge t 100 with q | q
    · exact q
    · exfalso
      refine hz ?_
      rw [z]
      have : kM t = 2 := by unfold kM; repeat (first | omega | split)
      rw [this]
      rfl
theorem nmT_lo {t : Nat} (h : t < 100) : nmT t = 13 := by
  unfold nmT
  repeat (first | omega | split)
theorem qX12_nameOf (G : GP) {kd nm st : Nat → Nat} {cnt : Nat} {T : Nat → Mem → Prop} (H : TokM G kd nm st cnt T) (d i : Nat) (m : Mem) (K : Int32 → Mem → Prop) (hT : T i m) (h1 : nmT (kd i) = 13 → K (-1) m) (h2 : nmT (kd i) ≠ 13 → K (nI (nmT (kd i))) m) : Evi G (d + 5) mX12_nameOf [.ref (ga G 273)] m K := by
  have hk := H.tk hT
  have A : ∀ v : Nat, v < 13 → nmT (kd i) = v → K (nI v) m := fun v hv e => by
    have := h2 (by omega)
    rw [e] at this
    exact this
  refine vX12_nameOf G d m K ⟨fun hz => ?_, fun hz => h1 (nmT_lo (hk.nw hz))⟩
  have W : ∀ {w : Int64}, lg_cmp (m.2.1 273 12) w = 0 → isW m w := fun e => ⟨hz, lc_0.mp e⟩
  have N : ∀ {w : Int64}, ¬ lg_cmp (m.2.1 273 12) w = 0 → ¬ isW m w := fun e z => e (lc_0.mpr z.2)
  refine ⟨fun a0 => ⟨fun a1 => ⟨fun a2 => ⟨fun a3 => ⟨fun a4 => ⟨fun a5 => H.stk hT (fun b => ⟨fun z => absurd z (by decide), fun _ => A 6 (by omega) (by rw [b]; rfl)⟩) (fun a6 => ⟨fun _ => ⟨fun a7 => ⟨fun a8 => ⟨fun a9 => ⟨fun a10 => H.mng hT (fun b => ⟨fun z => absurd z (by decide), fun _ => A 11 (by omega) (by rw [b]; rfl)⟩) (fun a11 => ⟨fun _ => ⟨fun a12 => h1 ?_, fun b => A 12 (by omega) ?_⟩, fun z => absurd rfl z⟩), fun b => A 10 (by omega) ?_⟩, fun b => A 9 (by omega) ?_⟩, fun b => A 8 (by omega) ?_⟩, fun b => A 7 (by omega) ?_⟩, fun z => absurd rfl z⟩), fun b => A 5 (by omega) ?_⟩, fun b => A 4 (by omega) ?_⟩, fun b => A 3 (by omega) ?_⟩, fun b => A 2 (by omega) ?_⟩, fun b => A 1 (by omega) ?_⟩, fun b => A 0 (by omega) ?_⟩
  · have c0 := fun z => N a0 (hk.loud.mpr z)
    have c1 := fun z => N a1 (hk.pitch.mpr z)
    have c2 := fun z => N a2 (hk.men.mpr z)
    have c3 := fun z => N a3 (hk.wind.mpr z)
    have c4 := fun z => N a4 (hk.frost.mpr z)
    have c5 := fun z => N a5 (hk.hour.mpr z)
    have c7 := fun z => N a7 (hk.bell.mpr z)
    have c8 := fun z => N a8 (hk.kind.mpr z)
    have c9 := fun z => N a9 (hk.means.mpr z)
    have c10 := fun z => N a10 (hk.next.mpr z)
    have c12 := fun z => N a12 (hk.place.mpr z)
    unfold nmT
    rw [if_neg c0, if_neg c1, if_neg c2, if_neg c3, if_neg c4, if_neg c5, if_neg a6, if_neg c7, if_neg c8, if_neg c9, if_neg c10, if_neg a11, if_neg c12]
  · rw [hk.place.mp (W b)]; rfl
  · rw [hk.next.mp (W b)]; rfl
  · rw [hk.means.mp (W b)]; rfl
  · rw [hk.kind.mp (W b)]; rfl
  · rw [hk.bell.mp (W b)]; rfl
  · rw [hk.hour.mp (W b)]; rfl
  · rw [hk.frost.mp (W b)]; rfl
  · rw [hk.wind.mp (W b)]; rfl
  · rw [hk.men.mp (W b)]; rfl
  · rw [hk.pitch.mp (W b)]; rfl
  · rw [hk.loud.mp (W b)]; rfl
theorem qX12_isOf (G : GP) (d l v : Nat) (m : Mem) (K : Int32 → Mem → Prop) (hl : l < 3) (hv : v < 13) (hm : m.1 273 15 = nI l) (h1 : nmB l v = true → K 1 m) (h2 : nmB l v = false → K 0 m) : Evi G d mX12_isOf [.ref (ga G 273), .int (nI v)] m K := by
  have e8 : (8 : Int32) ≤ nI v ↔ 8 ≤ v := le_nI (a := 8) (by omega) (by omega)
  have e10 : (10 : Int32) ≤ nI v ↔ 10 ≤ v := le_nI (a := 10) (by omega) (by omega)
  have l1 : nI l = (1 : Int32) ↔ l = 1 := eq_nI (b := 1) (by omega) (by omega)
  have l0 : nI l = (0 : Int32) ↔ l = 0 := eq_nI (b := 0) (by omega) (by omega)
  refine vX12_isOf G d _ m K ?_
  rw [hm]
  refine ⟨fun a => ⟨fun b => ⟨fun c => h2 ?_, fun c => h1 ?_⟩, fun b => ⟨fun c => h2 ?_, fun c => h1 ?_⟩⟩, fun a => ⟨fun c => h2 ?_, fun c => h1 ?_⟩⟩ <;> unfold nmB
  · rw [e8] at a; rw [e10] at b; rw [l1] at c
    rw [if_neg (by omega), if_neg (by omega)]; exact decide_eq_false c
  · rw [e8] at a; rw [e10] at b; rw [l1] at c
    rw [if_neg (by omega), if_neg (by omega)]; exact decide_eq_true c
  · rw [e8] at a; rw [e10] at b; rw [l0] at c
    rw [if_neg (by omega), if_pos (by omega)]; exact decide_eq_false (fun z => z c)
  · rw [e8] at a; rw [e10] at b; rw [l0] at c
    rw [if_neg (by omega), if_pos (by omega)]; exact decide_eq_true c
  · rw [e8] at a; rw [l0] at c
    rw [if_pos (by omega)]; exact decide_eq_false c
  · rw [e8] at a; rw [l0] at c
    rw [if_pos (by omega)]; exact decide_eq_true c
