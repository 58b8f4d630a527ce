/-! the model's law, whole -/
theorem qX12_behindOne (G : GP) {kd nm st : Nat → Nat} {cnt : Nat} {T : Nat → Mem → Prop} (H : TokM G kd nm st cnt T) (d t0 l c0 f i : Nat) (S : List Nat) (C : List (Nat × Nat)) (m : Mem) (K : Int32 → Mem → Prop) (ht : t0 < 4) (h : MSt T t0 l c0 cnt i S C false m) (hgo : ∀ S' C' w' m', lawP l kd nm (f + 1) i S C false = lawP l kd nm f (i + 1) S' C' w' → MSt T t0 l c0 cnt (i + 1) S' C' w' m' → FL t0 c0 m m' → K 0 m') (hno : ∀ m', lawP l kd nm (f + 1) i S C false = (3, i, C) → T i m' → FL t0 c0 m m' → K 3 m') (hend : lawP l kd nm (f + 1) i S C false = (if hasP S then (1, i, C) else if cmpS S then (0, i, (stl 1 S C).2) else (1, i, C)) → K (-1) m) : Evi G (d + 3) mX12_behindOne [.ref (ga G 273)] m K := by
  have hs := h
  obtain ⟨hT, hM, h18, h19, hG, h8, hlen, hc, hi⟩ := h
  have hk := H.tk hT
  have h45 := GS_len hG h8
  have hcb := H.cb
  rw [lawP_f] at hno hend
  have hgo' : ∀ S' C' w' m', (if bwP S (kd i) = 7 then (if 8 ≤ opS S then (3, i, C) else lawP l kd nm f (i + 1) (7 :: S) C true) else if bwP S (kd i) ≠ 0 then lawP l kd nm f (i + 1) (bwP S (kd i) :: (stl (rk (bwP S (kd i))) S C).1) (stl (rk (bwP S (kd i))) S C).2 true else if hasP S then (if kd i = 41 then lawP l kd nm f (i + 1) (stl 8 (stl 1 S C).1.tail (stl 1 S C).2).1 (stl 8 (stl 1 S C).1.tail (stl 1 S C).2).2 false else (1, i, C)) else if cmpS S then (0, i, (stl 1 S C).2) else (1, i, C)) = lawP l kd nm f (i + 1) S' C' w' → MSt T t0 l c0 cnt (i + 1) S' C' w' m' → FL t0 c0 m m' → K 0 m' := fun S' C' w' m' e => hgo S' C' w' m' ((lawP_f l kd nm f i S C).trans e)
  refine vX12_behindOne G d m K (qX12_betweenOf G H d i S m _ hT hG (by omega) hM.2.2.2.1 hM.2.2.2.2.1 (fun hb => ?_) (fun hb => ⟨fun _ => ⟨fun _ => ?_, fun z => absurd (by decide) z⟩, fun z => absurd z (by decide)⟩))
  · obtain ⟨b1, b2, b3, b4⟩ := bwP_ok hb
    generalize bwP S (kd i) = o at hb b1 b2 b3 hgo' hno hend
    have o41 := opIn_lt b1
    have e7 : nI o = 7 ↔ o = 7 := eq_nI (b := 7) (by omega) (by omega)
    have hlt := H.lt hi b4
    rw [e7]
    refine ⟨fun z7 => ⟨fun z => absurd z (neg_nI o (by omega)), fun _ => ?_⟩, fun z7 m15 em15 => ?_⟩
    · obtain ⟨bB, bO⟩ := b2 z7
      have hr := rk_le b1
      have hr1 : 1 ≤ rk o := by
        rcases op_cases b1 with rfl | rfl | rfl | rfl | rfl | rfl | rfl | rfl | rfl | rfl | rfl | rfl | rfl | rfl | rfl | rfl <;> first | decide | exact absurd bB (by decide)
      rw [rkV b1]
      obtain ⟨g1, g2, g3, g4, g5⟩ := stl_GS (l := rk o) (C := C) hG
      have gm := stl_mem (r := rk o) (S := S) (C := C)
      refine qX12_settle G (d + 1) t0 l c0 (rk o) ht (by omega) S C m _ hG h8 hM h18 (by omega) hc (fun m10 hM10 h1810 h1910 f10 => ?_)
      have hP10 := hasP_stl (l := rk o) (S := S) (C := C) hr1
      generalize hZ : stl (rk o) S C = Z at g1 g2 g3 g4 g5 gm hM10 h1810 hP10 hgo'
      obtain ⟨S1, C1⟩ := Z
      have g1 : GS S1 := g1
      have g2 : opS S1 ≤ opS S := g2
      have g3 : S1.length ≤ S.length := g3
      have g4 : C1.length + S1.length = C.length + S.length := g4
      have g5 : S1 = [] ∨ topR S1 < rk o := g5
      have gm : C.length ≤ C1.length := gm
      have hM10 : ML t0 l S1 C1 m10 := hM10
      have h1810 : m10.1 273 18 = nI (opS S1) := h1810
      have hP10 : hasP S1 = hasP S := hP10
      have e2 : (nI S1.length).toNatClampNeg = S1.length := tn_nI (by omega)
      obtain ⟨k1, k2, k3, k4, k5, k6⟩ := hM10
      rw [k4, e2]
      refine ⟨in_nI (by omega) (by omega), fun m11 em11 m12 em12 m13 em13 => ?_⟩
      have a11 : m11.1 273 = m10.1 273 := by rw [em11]; exact wI_n m10 _ _ (by omega)
      rw [a11, k4, show (1 : Int32) = nI 1 from rfl, nI_add] at em12
      have c3 : m13.1 273 = upd (upd (m10.1 273) 17 (nI (S1.length + 1))) 19 0 := by rw [em13, wI_s, em12, wI_s, a11]
      have c9 : m13.1 279 = upd (m10.1 279) S1.length (nI o) := by rw [em13, wI_n m12 _ _ (by omega), em12, wI_n m11 _ _ (by omega), em11, wI_s]
      have co : ∀ c, c ≠ 273 → c ≠ 279 → m13.1 c = m10.1 c := fun c z1 z2 => by rw [em13, wI_n m12 _ _ z1, em12, wI_n m11 _ _ z1, em11, wI_n m10 _ _ z2]
      have f13 : FX t0 c0 m10 m13 := ⟨fun c z1 _ z3 => co c z1 z3, fun p hp => by rw [c3, upd_n _ _ (by omega), upd_n _ _ (by omega)], fun p _ => by rw [co 276 (by omega) (by omega)], by rw [em13, em12, em11]; rfl⟩
      have hM13 : ML t0 l (o :: S1) C1 m13 := by
        unfold ML
        rw [c3, c9, co 276 (by omega) (by omega), List.length_cons, upd_n _ _ (show 17 ≠ 19 by omega), upd_s, upd_n _ _ (show 13 ≠ 19 by omega), upd_n _ _ (show 13 ≠ 17 by omega), upd_n _ _ (show 14 ≠ 19 by omega), upd_n _ _ (show 14 ≠ 17 by omega), upd_n _ _ (show 15 ≠ 19 by omega), upd_n _ _ (show 15 ≠ 17 by omega)]
        exact ⟨k1, k2, k3, rfl, ⟨upd_s _ _ _, k5.fr (fun k hk => upd_n _ _ (by omega))⟩, k6⟩
      have hop : opS (o :: S1) = opS S1 := by
        show opS S1 + (if isO o then 1 else 0) = opS S1
        rw [bO]; rfl
      have hg : GS (o :: S1) := push_b g1 b1 bB g5 (fun z => by rw [hP10]; exact b3 z)
      refine H.nx (H.fr (H.fr hT f10.ms) f13.ms) b4 (fun m14 v14 hT14 => hgo' (o :: S1) C1 true m14 ?_ ⟨hT14, v14.ml hM13, ?_, ?_, hg, by omega, by rw [List.length_cons]; omega, by omega, hlt⟩ ((f10.fl.tr f13.fl).tr v14.fl))
      · rw [if_neg z7, if_pos hb]
      · rw [v14.p (by omega), c3, upd_n _ _ (by omega), upd_n _ _ (by omega), h1810, hop]
      · rw [v14.p (by omega), c3, upd_s]; rfl
    · subst z7
      have hM15 : ML t0 l S C m15 := by rw [em15]; exact hM.w3 (Or.inr rfl)
      have f15 : FX t0 c0 m m15 := by rw [em15]; exact FX.w3 (by omega)
      have hg : GS (7 :: S) := ⟨hG, by unfold opIn; omega, fun z => (by cases z), fun z => (by omega), fun z => (by omega)⟩
      have hT15 := H.fr hT f15.ms
      refine qX12_opened G H d t0 l c0 i 7 S C m15 _ ⟨hT15, hM15, ?_, ?_, hG, h8, hlen, hc, hi⟩ b4 rfl hg (fun z m' g1 g2 => hgo' _ _ _ m' ?_ g1 (f15.fl.tr g2)) (fun z => hno m15 ?_ hT15 f15.fl)
      · rw [em15, wI_s, upd_n _ _ (by omega)]; exact h18
      · rw [em15, wI_s, upd_s]; rfl
      · rw [if_pos rfl, if_neg (by omega)]
      · rw [if_pos rfl, if_pos z]
  · rw [hb] at hend hgo'
    rw [if_neg (show ¬ ((0 : Nat) = 7) by decide), if_neg (show ¬ ((0 : Nat) ≠ 0) by decide)] at hend hgo'
    refine qX12_isOpen G (d + 2) S m _ hG (by omega) hM.2.2.2.1 hM.2.2.2.2.1 (fun y => ⟨fun z => absurd z (by decide), fun _ => ⟨fun q => ?_, fun q => ?_⟩⟩) (fun y => ⟨fun _ => hend ?_, fun z => absurd rfl z⟩)
    · have k41 : kd i = 41 := (hk.sym (k := 41) (by omega)).mp q
      have hlt := H.lt hi (show kd i ≠ 1 by omega)
      obtain ⟨g1, g2, g3, g4, g5⟩ := stl_GS (l := 1) (C := C) hG
      have gm := stl_mem (r := 1) (S := S) (C := C)
      have hP1 : hasP (stl 1 S C).1 = true := by rw [hasP_stl (by omega)]; exact y
      rw [y, if_pos rfl, if_pos k41] at hgo'
      refine qX12_settle G (d + 1) t0 l c0 1 ht (by omega) S C m _ hG h8 hM h18 (by omega) hc (fun m5 hM5 h185 h195 f5 m6 em6 m7 em7 => ?_)
      generalize hZ : stl 1 S C = Z at g1 g2 g3 g4 g5 gm hM5 h185 hP1 hgo'
      obtain ⟨S1, C1⟩ := Z
      cases S1 with
      | nil => cases hP1
      | cons p S2 =>
        have g1 : GS (p :: S2) := g1
        have hp40 : p = 40 := by
          have : rk p < 1 := by rcases g5 with z | z; cases z; exact z
          rcases op_cases g1.2.1 with rfl | rfl | rfl | rfl | rfl | rfl | rfl | rfl | rfl | rfl | rfl | rfl | rfl | rfl | rfl | rfl <;> first | rfl | exact absurd this (by decide)
        subst hp40
        have g2 : opS S2 + 1 ≤ opS S := g2
        have g3 : S2.length + 1 ≤ S.length := g3
        have g4 : C1.length + (S2.length + 1) = C.length + S.length := g4
        have gm : C.length ≤ C1.length := gm
        have hM5 : ML t0 l (40 :: S2) C1 m5 := hM5
        have h185 : m5.1 273 18 = nI (opS S2 + 1) := h185
        obtain ⟨k1, k2, k3, k4, k5, k6⟩ := hM5
        rw [k4, List.length_cons, nI_p] at em6
        have a6 : m6.1 273 = upd (m5.1 273) 17 (nI S2.length) := by rw [em6, wI_s]
        rw [a6, upd_n _ _ (show 18 ≠ 17 by omega), h185, nI_p] at em7
        have c3 : m7.1 273 = upd (upd (m5.1 273) 17 (nI S2.length)) 18 (nI (opS S2)) := by rw [em7, wI_s, a6]
        have co : ∀ c, c ≠ 273 → m7.1 c = m5.1 c := fun c z1 => by rw [em7, wI_n m6 _ _ z1, em6, wI_n m5 _ _ z1]
        have f7 : FX t0 c0 m5 m7 := ⟨fun c z1 _ _ => co c z1, fun p hp => by rw [c3, upd_n _ _ (by omega), upd_n _ _ (by omega)], fun p _ => by rw [co 276 (by omega)], by rw [em7, em6]; rfl⟩
        have hM7 : ML t0 l S2 C1 m7 := by
          unfold ML
          rw [c3, co 279 (by omega), co 276 (by omega), upd_n _ _ (show 17 ≠ 18 by omega), upd_s, upd_n _ _ (show 13 ≠ 18 by omega), upd_n _ _ (show 13 ≠ 17 by omega), upd_n _ _ (show 14 ≠ 18 by omega), upd_n _ _ (show 14 ≠ 17 by omega), upd_n _ _ (show 15 ≠ 18 by omega), upd_n _ _ (show 15 ≠ 17 by omega)]
          exact ⟨k1, k2, k3, rfl, k5.2, k6⟩
        refine H.nx (H.fr (H.fr hT f5.ms) f7.ms) (by omega) (fun m8 v8 hT8 => ?_)
        obtain ⟨a1, a2, a3, a4, a5⟩ := stl_GS (l := 8) (C := C1) g1.1
        have am := stl_mem (r := 8) (S := S2) (C := C1)
        refine qX12_settle G (d + 1) t0 l c0 8 ht (by omega) S2 C1 m8 _ g1.1 (by omega) (v8.ml hM7) ?_ (by omega) (by omega) (fun m9 hM9 h189 h199 f9 => hgo' (stl 8 S2 C1).1 (stl 8 S2 C1).2 false m9 rfl ⟨H.fr hT8 f9.ms, hM9, h189, ?_, a1, by omega, by omega, by omega, hlt⟩ (((f5.fl.tr f7.fl).tr v8.fl).tr f9.fl))
        · rw [v8.p (by omega), c3, upd_s]
        · rw [h199, v8.p (by omega), c3, upd_n _ _ (by omega), upd_n _ _ (by omega), h195]; exact h19
    · refine hend ?_
      have k41 : ¬ kd i = 41 := fun z => q ((hk.sym (k := 41) (by omega)).mpr z)
      rw [y, if_pos rfl, if_pos rfl, if_neg k41]
    · rw [y]
      simp only [Bool.false_eq_true, if_false]
theorem qX12_law (G : GP) {kd nm st : Nat → Nat} {cnt : Nat} {T : Nat → Mem → Prop} (H : TokM G kd nm st cnt T) (d t0 l c0 : Nat) (ht : t0 < 4) (hl : l < 3) : ∀ (f i : Nat) (S : List Nat) (C : List (Nat × Nat)) (w : Bool) (u : Value) (m : Mem) (K : Int32 → Mem → Prop), cnt + 1 - i ≤ f → MSt T t0 l c0 cnt i S C w m → (∀ e j C' m', lawP l kd nm f i S C w = (e, j, C') → e ≤ 5 → j ≤ cnt → T j m' → FL t0 c0 m m' → (e = 0 → m'.1 273 14 = nI C'.length ∧ CM t0 C' (m'.1 276)) → K (nI e) m') → Gw G (d + 7) mX12_either 15 [.ref (ga G 273), u] [] m (Qi K)
  | 0, i, S, C, w, u, m, K, hf, h, hK => by
    have := h.2.2.2.2.2.2.2.2
    omega
  | f + 1, i, S, C, true, u, m, K, hf, h, hK => by
    have hi := h.2.2.2.2.2.2.2.2
    have h19 : m.1 273 19 = 0 := h.2.2.2.1
    refine vX12_either_15 G d u m K ⟨fun _ => ?_, fun z => absurd h19 z⟩
    refine qX12_beginOne G H d t0 l c0 f i S C m _ ht hl h (fun S' C' w' m' e h' fl => ⟨fun _ => ⟨fun z => absurd rfl z, fun _ => ?_⟩, fun z => absurd (by decide) z⟩) (fun e h0 h5 ee => ⟨fun z => ?_, fun _ => hK e i C m ee h5 hi h.1 (FL.rf t0 c0 m) (fun z => by omega)⟩)
    · refine qX12_law G H d t0 l c0 ht hl f (i + 1) S' C' w' _ m' K (by omega) h' (fun e2 j C2 m2 ee h5 hj hT2 f2 k2 => hK e2 j C2 m2 (e.trans ee) h5 hj hT2 (fl.tr f2) k2)
    · have := (le_nI (b := 0) (by omega) (by omega)).mp z
      omega
  | f + 1, i, S, C, false, u, m, K, hf, h, hK => by
    have hi := h.2.2.2.2.2.2.2.2
    have h19 : m.1 273 19 = 1 := h.2.2.2.1
    have hG := h.2.2.2.2.1
    have h8 := h.2.2.2.2.2.1
    have hM := h.2.1
    have h45 := GS_len hG h8
    have hcb := H.cb
    have hlen := h.2.2.2.2.2.2.1
    refine vX12_either_15 G d u m K ⟨fun z => absurd z (by rw [h19]; decide), fun _ => ?_⟩
    refine qX12_behindOne G H (d + 3) t0 l c0 f i S C m _ ht h (fun S' C' w' m' e h' fl => ⟨fun _ => ⟨fun z => absurd rfl z, fun _ => ?_⟩, fun z => absurd (by decide) z⟩) (fun m' ee hT' fl => ⟨fun z => absurd z (by decide), fun _ => hK 3 i C m' ee (by omega) hi hT' fl (fun z => by omega)⟩) (fun ee => ⟨fun _ => ⟨fun _ => ?_, fun z => absurd z (by decide)⟩, fun z => absurd (by decide) z⟩)
    · refine qX12_law G H d t0 l c0 ht hl f (i + 1) S' C' w' _ m' K (by omega) h' (fun e2 j C2 m2 ee h5 hj hT2 f2 k2 => hK e2 j C2 m2 (e.trans ee) h5 hj hT2 (fl.tr f2) k2)
    · refine qX12_isOpen G (d + 6) S m _ hG (by omega) hM.2.2.2.1 hM.2.2.2.2.1 (fun y => ⟨fun _ => hK 1 i C m (by rw [ee, if_pos y]) (by omega) hi h.1 (FL.rf t0 c0 m) (fun z => by omega), fun z => absurd z (by decide)⟩) (fun y => ⟨fun z => absurd rfl z, fun _ => ?_⟩)
      rw [y] at ee
      simp only [Bool.false_eq_true, if_false] at ee
      refine qX12_isCompared G (d + 5) S m _ hG (by omega) hM.2.2.2.1 hM.2.2.2.2.1 (fun c => ⟨fun _ => ?_, fun z => absurd z (by decide)⟩) (fun c => ⟨fun z => absurd rfl z, fun _ => hK 1 i C m (by rw [ee, c]; rfl) (by omega) hi h.1 (FL.rf t0 c0 m) (fun z => by omega)⟩)
      refine qX12_settle G (d + 5) t0 l c0 1 ht (by omega) S C m _ hG h8 hM h.2.2.1 (by omega) h.2.2.2.2.2.2.2.1 (fun m' hM' _ _ f' => hK 0 i (stl 1 S C).2 m' (by rw [ee, c]; rfl) (by omega) hi (H.fr h.1 f'.ms) f'.fl (fun _ => ⟨hM'.2.1, hM'.2.2.2.2.2⟩))
