/-! the model reads a law -/
def MSt (T : Nat → Mem → Prop) (t0 l c0 cnt i : Nat) (S : List Nat) (C : List (Nat × Nat)) (w : Bool) (m : Mem) : Prop := T i m ∧ ML t0 l S C m ∧ m.1 273 18 = nI (opS S) ∧ m.1 273 19 = (if w then 0 else 1) ∧ GS S ∧ opS S ≤ 8 ∧ C.length + S.length ≤ i ∧ c0 ≤ C.length ∧ i ≤ cnt
theorem TokM.lt {G : GP} {kd nm st : Nat → Nat} {cnt : Nat} {T : Nat → Mem → Prop} (H : TokM G kd nm st cnt T) {i : Nat} (h : i ≤ cnt) (hk : kd i ≠ 1) : i < cnt := by
  rcases Nat.lt_or_ge i cnt with z | z
  · exact z
  · have : i = cnt := by omega
    rw [this] at hk
    exact absurd H.ec hk
theorem qX12_opened (G : GP) {kd nm st : Nat → Nat} {cnt : Nat} {T : Nat → Mem → Prop} (H : TokM G kd nm st cnt T) (d t0 l c0 i o : Nat) (S : List Nat) (C : List (Nat × Nat)) (m : Mem) (K : Int32 → Mem → Prop) (h : MSt T t0 l c0 cnt i S C true m) (hk : kd i ≠ 1) (hO : isO o = true) (hg : GS (o :: S)) (hK : opS S < 8 → ∀ m', MSt T t0 l c0 cnt (i + 1) (o :: S) C true m' → FL t0 c0 m m' → K 0 m') (h3 : 8 ≤ opS S → K 3 m) : Evi G (d + 2) mX12_opened [.ref (ga G 273), .int (nI o)] m K := by
  obtain ⟨hT, hM, h18, h19, hG, h8, hl, hc, hi⟩ := h
  have h45 := GS_len hG h8
  have hlt := H.lt hi hk
  have e8 : nI (opS S) = 8 ↔ opS S = 8 := eq_nI (b := 8) (by omega) (by omega)
  have ho8 : opS (o :: S) = opS S + 1 := by
    show opS S + (if isO o then 1 else 0) = opS S + 1
    rw [hO]; rfl
  refine vX12_opened G d _ m K ?_
  rw [h18, e8]
  refine ⟨fun z m1 em1 => ?_, fun z => h3 (by omega)⟩
  rw [show (1 : Int32) = nI 1 from rfl, nI_add] at em1
  have a1 : m1.1 273 17 = nI S.length := by rw [em1, wI_s, upd_n _ _ (by omega)]; exact hM.2.2.2.1
  have e2 : (nI S.length).toNatClampNeg = S.length := tn_nI (by omega)
  rw [a1, e2]
  refine ⟨in_nI (by omega) (by omega), fun m2 em2 m3 em3 => ?_⟩
  have a2 : m2.1 273 17 = nI S.length := by rw [em2, wI_n m1 _ _ (by omega)]; exact a1
  rw [a2, show (1 : Int32) = nI 1 from rfl, nI_add] at em3
  have b3 : m3.1 273 = upd (upd (m.1 273) 18 (nI (opS S + 1))) 17 (nI (S.length + 1)) := by rw [em3, wI_s, em2, wI_n m1 _ _ (by omega), em1, wI_s]
  have b9 : m3.1 279 = upd (m.1 279) S.length (nI o) := by rw [em3, wI_n m2 _ _ (by omega), em2, wI_s, em1, wI_n m _ _ (by omega)]
  have bo : ∀ c, c ≠ 273 → c ≠ 279 → m3.1 c = m.1 c := fun c z1 z2 => by rw [em3, wI_n m2 _ _ z1, em2, wI_n m1 _ _ z2, em1, wI_n m _ _ z1]
  have f3 : FX t0 c0 m m3 := ⟨fun c z1 _ z3 => bo c z1 z3, fun p hp => by rw [b3, upd_n _ _ (by omega), upd_n _ _ (by omega)], fun p _ => by rw [bo 276 (by omega) (by omega)], by rw [em3, em2, em1]; rfl⟩
  have hT3 := H.fr hT f3.ms
  obtain ⟨k1, k2, k3, k4, k5, k6⟩ := hM
  have hM3 : ML t0 l (o :: S) C m3 := by
    unfold ML
    rw [b3, b9, bo 276 (by omega) (by omega), List.length_cons, upd_s, upd_n _ _ (show 13 ≠ 17 by omega), upd_n _ _ (show 13 ≠ 18 by omega), upd_n _ _ (show 14 ≠ 17 by omega), upd_n _ _ (show 14 ≠ 18 by omega), upd_n _ _ (show 15 ≠ 17 by omega), upd_n _ _ (show 15 ≠ 18 by omega)]
    exact ⟨k1, k2, k3, rfl, ⟨upd_s _ _ _, k5.fr (fun k hk => upd_n _ _ (by omega))⟩, k6⟩
  refine H.nx hT3 hk (fun m4 v4 hT4 => hK (by omega) m4 ⟨hT4, v4.ml hM3, ?_, ?_, hg, by omega, by rw [List.length_cons]; omega, hc, hlt⟩ (f3.fl.tr v4.fl))
  · rw [v4.p (by omega), b3, upd_n _ _ (by omega), upd_s, ho8]
  · rw [v4.p (by omega), b3, upd_n _ _ (by omega), upd_n _ _ (by omega)]; exact h19
/-- a value is laid down -/
theorem mval (G : GP) {kd nm st : Nat → Nat} {cnt : Nat} {T : Nat → Mem → Prop} (H : TokM G kd nm st cnt T) (d t0 l c0 i o v : Nat) (S : List Nat) (C : List (Nat × Nat)) (m : Mem) (K : Int32 → Mem → Prop) (ht : t0 < 4) (h : MSt T t0 l c0 cnt i S C true m) (hk : kd i ≠ 1) (hK : ∀ m', MSt T t0 l c0 cnt (i + 1) (stl 8 S (C ++ [(o, v)])).1 (stl 8 S (C ++ [(o, v)])).2 false m' → FL t0 c0 m m' → K 0 m') : Evv G (d + 5) mX12_emit [.ref (ga G 273), .int (nI o), .int (nI v)] m (fun m3 => Evv G (d + 5) mX12_nextToken [.ref (ga G 273)] m3 (fun m4 => ∀ m5 : Mem, m5 = wI m4 273 19 1 → Evv G (d + 5) mX12_settle [.ref (ga G 273), .int 8] m5 (fun m6 => K 0 m6))) := by
  obtain ⟨hT, hM, h18, h19, hG, h8, hl, hc, hi⟩ := h
  have hlt := H.lt hi hk
  have hcb := H.cb
  refine qX12_emit G (d + 5) t0 l c0 o v S C m _ ht hM (by omega) hc (fun m3 hM3 f3 _ cp => ?_)
  refine H.nx (H.fr hT f3.ms) hk (fun m4 v4 hT4 m5 em5 => ?_)
  have hM5 : ML t0 l S (C ++ [(o, v)]) m5 := by rw [em5]; exact (v4.ml hM3).w3 (Or.inr rfl)
  have f5 : FX t0 c0 m4 m5 := by rw [em5]; exact FX.w3 (by omega)
  obtain ⟨g1, g2, g3, g4, g5⟩ := stl_GS (l := 8) (C := C ++ [(o, v)]) hG
  have gm := stl_mem (r := 8) (S := S) (C := C ++ [(o, v)])
  rw [List.length_append, List.length_singleton] at g4 gm
  refine qX12_settle G (d + 4) t0 l c0 8 ht (by omega) S _ m5 _ hG h8 hM5 ?_ (by rw [List.length_append, List.length_singleton]; omega) (by rw [List.length_append, List.length_singleton]; omega) (fun m6 hM6 h186 h196 f6 => hK m6 ⟨H.fr (H.fr hT4 f5.ms) f6.ms, hM6, h186, ?_, g1, by omega, by omega, by omega, hlt⟩ (((f3.fl.tr v4.fl).tr f5.fl).tr f6.fl))
  · rw [em5, wI_s, upd_n _ _ (by omega), v4.p (by omega), cp 18 (by omega)]; exact h18
  · rw [h196, em5, wI_s, upd_s]; rfl
theorem qX12_beginOne (G : GP) {kd nm st : Nat → Nat} {cnt : Nat} {T : Nat → Mem → Prop} (H : TokM G kd nm st cnt T) (d t0 l c0 f i : Nat) (S : List Nat) (C : List (Nat × Nat)) (m : Mem) (K : Int32 → Mem → Prop) (ht : t0 < 4) (hl : l < 3) (h : MSt T t0 l c0 cnt i S C true m) (hgo : ∀ S' C' w' m', lawP l kd nm (f + 1) i S C true = lawP l kd nm f (i + 1) S' C' w' → MSt T t0 l c0 cnt (i + 1) S' C' w' m' → FL t0 c0 m m' → K 0 m') (hno : ∀ e, 0 < e → e ≤ 5 → lawP l kd nm (f + 1) i S C true = (e, i, C) → K (nI e) m) : Evi G (d + 6) mX12_beginOne [.ref (ga G 273)] m K := by
  have hs := h
  obtain ⟨hT, hM, h18, h19, hG, h8, hlen, hc, hi⟩ := h
  have hk := H.tk hT
  have h45 := GS_len hG h8
  have el : ∀ x, lawP l kd nm (f + 1) i S C true = x ↔ (if kd i = 2 then (if 9999 < nm i then (2, i, C) else lawP l kd nm f (i + 1) (stl 8 S (C ++ [(0, nm i)])).1 (stl 8 S (C ++ [(0, nm i)])).2 false)
    else if kd i = 40 then (if 8 ≤ opS S then (3, i, C) else lawP l kd nm f (i + 1) (40 :: S) C true)
    else if kd i = 45 then (if 8 ≤ opS S then (3, i, C) else lawP l kd nm f (i + 1) (2 :: S) C true)
    else if kd i = 116 then (if askS S then (if 8 ≤ opS S then (3, i, C) else lawP l kd nm f (i + 1) (20 :: S) C true) else (1, i, C))
    else if nmT (kd i) = 13 then (1, i, C)
    else if nmB l (nmT (kd i)) then lawP l kd nm f (i + 1) (stl 8 S (C ++ [(1, nmT (kd i))])).1 (stl 8 S (C ++ [(1, nmT (kd i))])).2 false
    else (5, i, C)) = x := fun x => Iff.rfl
  have n13 : ∀ t, (t = 40 ∨ t = 45 ∨ t = 116 ∨ t = 2) → nmT t = 13 := by rintro t (rfl | rfl | rfl | rfl) <;> rfl
  refine vX12_beginOne G d m K ⟨fun q1 => ?_, fun q1 => ?_⟩
  · have k2 : kd i ≠ 2 := fun z => q1 (hk.num.mpr z)
    refine qX12_nameOf G H d i m _ hT (fun hn => ⟨fun _ => ⟨fun z => absurd z q1, fun _ => ⟨fun _ => ⟨fun q40 => ⟨fun q45 => ⟨fun qn => ?_, fun qn => ?_⟩, fun q45 => ?_⟩, fun q40 => ?_⟩, fun z => absurd (by decide) z⟩⟩, fun z => absurd (by decide) z⟩) (fun hn => ⟨fun z => absurd z (neg_nI _ (by have := nmT_le (kd i); omega)), fun _ => ?_⟩)
    · have k116 : kd i = 116 := hk.not_.mp qn
      refine qX12_isAskAhead G (d + 4) S m _ hG (by omega) hM.2.2.2.1 hM.2.2.2.2.1 (fun a => ⟨fun z => absurd z (by decide), fun _ => ?_⟩) (fun a => ⟨fun _ => ?_, fun z => absurd rfl z⟩)
      · have hh : hasP S = false ∧ topR S ≤ 3 := by
          cases S with
          | nil => exact ⟨rfl, Nat.zero_le _⟩
          | cons p S =>
            rw [askS_c, Bool.and_eq_true] at a
            have a2 := of_decide_eq_true a.2
            refine ⟨?_, a2.2⟩
            cases z : hasP (p :: S)
            · rfl
            · have a1 := a.1
              rw [z] at a1; cases a1
        have hg : GS (20 :: S) := ⟨hG, by unfold opIn; omega, fun z => (by cases z), fun _ => hh.1, fun _ => hh.2⟩
        refine qX12_opened G H (d + 3) t0 l c0 i 20 S C m _ hs (by omega) rfl hg (fun z m' g1 g2 => hgo _ _ _ m' ((el _).mpr ?_) g1 g2) (fun z => hno 3 (by omega) (by omega) ((el _).mpr ?_))
        · rw [if_neg k2, if_neg (by omega), if_neg (by omega), if_pos k116, if_pos a, if_neg (by omega)]
        · rw [if_neg k2, if_neg (by omega), if_neg (by omega), if_pos k116, if_pos a, if_pos z]
      · refine hno 1 (by omega) (by omega) ((el _).mpr ?_)
        rw [if_neg k2, if_neg (by omega), if_neg (by omega), if_pos k116, if_neg (by rw [a]; decide)]
    · have k116 : kd i ≠ 116 := fun z => qn (hk.not_.mpr z)
      have k40 : kd i ≠ 40 := fun z => q40 ((hk.sym (k := 40) (by omega)).mpr z)
      have k45 : kd i ≠ 45 := fun z => q45 ((hk.sym (k := 45) (by omega)).mpr z)
      refine hno 1 (by omega) (by omega) ((el _).mpr ?_)
      rw [if_neg k2, if_neg k40, if_neg k45, if_neg k116, if_pos hn]
    · have k45 : kd i = 45 := (hk.sym (k := 45) (by omega)).mp q45
      have hg : GS (2 :: S) := ⟨hG, by unfold opIn; omega, fun z => (by cases z), fun z => (by omega), fun z => (by omega)⟩
      refine qX12_opened G H (d + 3) t0 l c0 i 2 S C m _ hs (by omega) rfl hg (fun z m' g1 g2 => hgo _ _ _ m' ((el _).mpr ?_) g1 g2) (fun z => hno 3 (by omega) (by omega) ((el _).mpr ?_))
      · rw [if_neg k2, if_neg (by omega), if_pos k45, if_neg (by omega)]
      · rw [if_neg k2, if_neg (by omega), if_pos k45, if_pos z]
    · have k40 : kd i = 40 := (hk.sym (k := 40) (by omega)).mp q40
      have hg : GS (40 :: S) := ⟨hG, by unfold opIn; omega, fun z => (by cases z), fun z => (by omega), fun z => (by omega)⟩
      refine qX12_opened G H (d + 3) t0 l c0 i 40 S C m _ hs (by omega) rfl hg (fun z m' g1 g2 => hgo _ _ _ m' ((el _).mpr ?_) g1 g2) (fun z => hno 3 (by omega) (by omega) ((el _).mpr ?_))
      · rw [if_neg k2, if_pos k40, if_neg (by omega)]
      · rw [if_neg k2, if_pos k40, if_pos z]
    · have hv : nmT (kd i) < 13 := by have := nmT_le (kd i); omega
      have m1 : kd i ≠ 40 := fun z => hn (n13 _ (Or.inl z))
      have m2 : kd i ≠ 45 := fun z => hn (n13 _ (Or.inr (Or.inl z)))
      have m3 : kd i ≠ 116 := fun z => hn (n13 _ (Or.inr (Or.inr (Or.inl z))))
      have m4 : kd i ≠ 1 := fun z => hn (by rw [z]; rfl)
      refine qX12_isOf G (d + 5) l _ m _ hl hv hM.2.2.1 (fun b => ⟨fun _ => ⟨fun z => absurd z q1, fun _ => ⟨fun z => absurd z (neg_nI _ (by omega)), fun _ => ⟨fun _ => ⟨fun _ => ?_, fun z => absurd z q1⟩, fun z => absurd z q1⟩⟩⟩, fun z => absurd z (by decide)⟩) (fun b => ⟨fun z => absurd rfl z, fun _ => ?_⟩)
      · refine mval G H d t0 l c0 i 1 (nmT (kd i)) S C m K ht hs m4 (fun m' g1 g2 => hgo _ _ _ m' ((el _).mpr ?_) g1 g2)
        rw [if_neg k2, if_neg m1, if_neg m2, if_neg m3, if_neg hn, if_pos b]
      · refine hno 5 (by omega) (by omega) ((el _).mpr ?_)
        rw [if_neg k2, if_neg m1, if_neg m2, if_neg m3, if_neg hn, if_neg (by rw [b]; decide)]
  · have k2 : kd i = 2 := hk.num.mp q1
    obtain ⟨v, ev, hv, en⟩ := hk.nu k2
    rw [ev]
    have e9 : nI v ≤ 9999 ↔ v ≤ 9999 := le_nI (b := 9999) (by omega) (by omega)
    rw [e9]
    refine ⟨fun z => ?_, fun z => hno 2 (by omega) (by omega) ((el _).mpr ?_)⟩
    · refine qX12_nameOf G H d i m _ hT (fun hn => ⟨fun _ => ⟨fun _ => ⟨fun z => absurd q1 z, fun _ => ⟨fun z => absurd q1 z, fun _ => ?_⟩⟩, fun z => absurd q1 z⟩, fun z => absurd (by decide) z⟩) (fun hn => absurd (n13 _ (Or.inr (Or.inr (Or.inr k2)))) hn)
      rw [ev]
      have en : nm i = v := by omega
      refine mval G H d t0 l c0 i 0 v S C m K ht hs (by omega) (fun m' g1 g2 => hgo _ _ _ m' ((el _).mpr ?_) g1 g2)
      rw [if_pos k2, if_neg (by omega), en]
    · rw [if_pos k2, if_pos (by omega)]
