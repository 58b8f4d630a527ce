/-! symbolOf AND keywordOf -/
theorem sB_ch : ∀ v, v < 256 → ((((nI v).toInt8.toInt32 &&& 255).toUInt32 % 65536).toInt32 = nI v ∧ ((nI v).toInt8.toInt32 = 61 ↔ v = 61)) := by decide +kernel
theorem kw_tab : ∀ k, k < 23 → (KWs[k]? = some (KWs.getD k []) ∧ (KWs.getD k []).length ≤ 7 ∧ (∀ i, i < (KWs.getD k []).length → (KWs.getD k []).getD i 0 ≠ 32) ∧ ∀ i, i < 8 → kwN.getD (k * 8 + i) 0 = if i < (KWs.getD k []).length then (KWs.getD k []).getD i 0 else 32) := by decide +kernel
theorem ltr_eq {b : Nat → Nat} {p L : Nat} {W : List Nat} : ltr b p L = W ↔ (W.length = L ∧ ∀ i, i < L → W.getD i 0 = b (p + i)) := by
  constructor
  · intro e
    have e1 := congrArg List.length e
    rw [ltr_len] at e1
    refine ⟨e1.symm, fun i hi => ?_⟩
    rw [← e, List.getD_eq_getElem?_getD, ltr_get L i hi]; rfl
  · rintro ⟨e1, e2⟩
    apply List.ext_getElem?
    intro i
    by_cases hi : i < L
    · rw [ltr_get L i hi, ← e2 i hi, List.getD_eq_getElem?_getD, List.getElem?_eq_getElem (by omega)]; rfl
    · rw [List.getElem?_eq_none (by rw [ltr_len]; omega), List.getElem?_eq_none (by omega)]
theorem kwL_long {l : List Nat} (h : 8 ≤ l.length) : kwL l = 0 := by
  rcases kwL_sp l with ⟨e, -⟩ | ⟨e1, e2, e3⟩
  · exact e
  · have := (KWs_ok l (List.mem_of_getElem? e3)).2
    omega
theorem kwL_none {l : List Nat} (h : ∀ k, k < 23 → l ≠ KWs.getD k []) : kwL l = 0 := by
  rcases kwL_sp l with ⟨e, -⟩ | ⟨e1, e2, e3⟩
  · exact e
  · have h1 := (kw_tab (kwL l - 100) (by omega)).1
    rw [e3] at h1
    exact absurd (Option.some.inj h1) (h _ (by omega))
theorem kX7_symbolOf (G : GP) {aK aV : Nat → Nat} (hz : StrG G aK aV) (d : Nat) {b : Nat → Nat} {n : Nat} (h : BT b n) (m : Mem) (K : Int32 → Mem → Prop) (p : Nat) (hp : p < n) (h3 : srt (b p) = 3) (hB : CB b n m.1) (hK : K (nI (tkK b p)) m) : Evi G (d + 6) mX7_symbolOf [.ref (ga G 228), .int (nI p)] m K := by
  have hn := h.1
  have hc := h.2.2 p hp
  have ek : tkK b p = if b p = 60 ∧ b (p + 1) = 61 then 3 else if b p = 62 ∧ b (p + 1) = 61 then 4 else if b p ∈ sgL then b p else 0 := by
    unfold tkK; rw [if_neg (by omega), if_neg (by omega), if_neg (by omega)]
  have s1 : nI p + 1 = nI (p + 1) := nI_add p 1
  have s100 : (m.1 228 0 ≤ nI p + 1) ↔ n ≤ p + 1 := by rw [hB.1, s1]; exact le_nI (by omega) (by omega)
  refine vX7_symbolOf G d hz _ m K ⟨in_nI (by omega) (by omega), fun x1 e1 => ?_⟩
  rw [show (nI p).toNatClampNeg = p from tn_nI (by omega), hB.2 p hp, (sB_ch _ hc).1] at e1
  subst e1
  have e60 : nI (b p) = 60 ↔ b p = 60 := eq_nI (b := 60) (by omega) (by omega)
  have e62 : nI (b p) = 62 ↔ b p = 62 := eq_nI (b := 62) (by omega) (by omega)
  have eS : inSg (nI (b p)) ↔ b p ∈ sgL := by
    constructor
    · rintro ⟨w, w1, w2⟩
      have hw : w < 256 := (show ∀ x ∈ sgL, x < 256 by decide) w w1
      rw [(eq_nI (by omega) (by omega)).mp w2]; exact w1
    · exact fun z => ⟨b p, z, rfl⟩
  rw [s100, e60, e62, eS, s1]
  have one : ¬ (b p = 60 ∧ b (p + 1) = 61) → ¬ (b p = 62 ∧ b (p + 1) = 61) → isBt (nI (b p)) ∧ ∀ r : Int32, (0 ≤ r ↔ b p ∈ sgL) → ((r < 0) → K 0 m) ∧ ((¬ r < 0) → K (nI (b p)) m) := fun n1 n2 => by
    rw [ek, if_neg n1, if_neg n2] at hK
    refine ⟨⟨b p, hc, rfl⟩, fun r hr => ⟨fun z => ?_, fun z => ?_⟩⟩
    · rw [if_neg (fun y => zl.mpr (hr.mpr y) z)] at hK; exact hK
    · rw [if_pos (hr.mp (zl.mp z))] at hK; exact hK
  refine ⟨fun z => ?_, fun z => ⟨in_nI (by omega) (by omega), ?_⟩⟩
  · have e256 := h.2.1 (p + 1) z
    exact one (by omega) (by omega)
  · have hc1 := h.2.2 (p + 1) (by omega)
    rw [show (nI (p + 1)).toNatClampNeg = p + 1 from tn_nI (by omega), hB.2 (p + 1) (by omega), (sB_ch _ hc1).2]
    refine ⟨fun y => one (by omega) (by omega), fun y => ⟨fun y1 => ⟨fun y2 => one (by omega) (by omega), fun y2 => ?_⟩, fun y1 => ?_⟩⟩
    · rw [ek, if_neg (by omega), if_pos ⟨y2, y⟩] at hK; exact hK
    · rw [ek, if_pos ⟨y1, y⟩] at hK; exact hK
theorem kX7_keywordOf (G : GP) {aK aV : Nat → Nat} (hz : StrG G aK aV) (d : Nat) {b : Nat → Nat} {n : Nat} (h : BT b n) (m : Mem) (K : Int32 → Mem → Prop) (p L : Nat) (hL : p + L ≤ n) (hl : ∀ j, j < L → srt (b (p + j)) = 2) (hB : CB b n m.1) (hK : K (nI (kwL (ltr b p L))) m) : Evi G (d + 6) mX7_keywordOf [.ref (ga G 228), .int (nI p), .int (nI L)] m K := by
  have hn := h.1
  have l8 : nI L < 8 ↔ L < 8 := lt_nI (b := 8) (by omega) (by omega)
  refine vX7_keywordOf G d hz _ _ m K ?_
  rw [l8]
  refine ⟨fun hL8 => ?_, fun z => ?_⟩
  · have main : ∀ (f k : Nat) (u4 : Value), k + f = 23 → (∀ k', k' < k → ltr b p L ≠ KWs.getD k' []) → Gw G (d + 6) mX7_keywordOf 10 [.ref (ga G 228), .int (nI p), .int (nI L), .int (nI k), u4] [] m (Qi K) := by
      intro f
      induction f with
      | zero =>
        intro k u4 e hk
        have : k = 23 := by omega
        subst this
        rw [kwL_none hk] at hK
        exact vX7_keywordOf_10 G d hz _ _ _ u4 m K ⟨fun _ => hK, fun z => absurd ((le_nI (a := 23) (b := 23) (by omega) (by omega)).mpr (Nat.le_refl _)) z⟩
      | succ f ih =>
        intro k u4 e hk
        refine vX7_keywordOf_10 G d hz _ _ _ u4 m K ⟨fun z => absurd ((le_nI (a := 23) (b := k) (by omega) (by omega)).mp z) (by omega), fun _ => ?_⟩
        obtain ⟨w1, w2, w3, w4⟩ := kw_tab k (by omega)
        have nxt : ltr b p L ≠ KWs.getD k [] → ∀ (x : Int32) (u4 : Value), x = nI k + 1 → Gw G (d + 6) mX7_keywordOf 10 [.ref (ga G 228), .int (nI p), .int (nI L), .int x, u4] [] m (Qi K) := fun hne x u4 ex => by
          rw [ex, ← nI_succ]
          refine ih (k + 1) u4 (by omega) (fun k' hk' => ?_)
          by_cases q : k' = k
          · rw [q]; exact hne
          · exact hk k' (by omega)
        have em : nI k * 8 = nI (k * 8) := pk_mul k 8
        have inner : ∀ (g j : Nat), j + g = L → (∀ i, i < j → kwN.getD (k * 8 + i) 0 = b (p + i)) → Gw G (d + 6) mX7_keywordOf 19 [.ref (ga G 228), .int (nI p), .int (nI L), .int (nI k), .int (nI j)] [] m (Qi K) := by
          intro g
          induction g with
          | zero =>
            intro j ej hj
            have : j = L := by omega
            subst this
            have ea : nI k * 8 + nI j = nI (k * 8 + j) := by rw [em, nI_add]
            have ec : chA (nI (k * 8 + j)) = nI (kwN.getD (k * 8 + j) 0) := by unfold chA; rw [show (nI (k * 8 + j)).toNatClampNeg = k * 8 + j from tn_nI (by omega)]
            have hb : kwN.getD (k * 8 + j) 0 < 256 := (show ∀ i, i < 184 → kwN.getD i 0 < 256 by decide +kernel) _ (by omega)
            have e32 : nI (kwN.getD (k * 8 + j) 0) = 32 ↔ kwN.getD (k * 8 + j) 0 = 32 := eq_nI (b := 32) (by omega) (by omega)
            refine vX7_keywordOf_19 G d hz _ _ _ _ m K ⟨fun _ => ⟨fun z => absurd rfl z, fun _ => ?_⟩, fun z => absurd ((le_nI (by omega) (by omega)).mpr (Nat.le_refl _)) z⟩
            rw [ea, ec, e32]
            refine ⟨in_nI (by omega) (by omega), fun z x ex => nxt (fun y => z ?_) x _ ex, fun z => ?_⟩
            · rw [w4 j hL8, if_neg (by have := (ltr_eq.mp y).1; omega)]
            · have hW : ltr b p j = KWs.getD k [] := by
                have e1 : ¬ j < (KWs.getD k []).length := fun q => by
                  rw [w4 j hL8, if_pos q] at z
                  exact w3 j q z
                have e2 : ∀ i, i < j → i < (KWs.getD k []).length := fun i hi => by
                  rcases Nat.lt_or_ge i (KWs.getD k []).length with q | q
                  · exact q
                  · have e3 := hj i hi
                    rw [w4 i (by omega), if_neg (by omega)] at e3
                    have e4 := srt2.mp (hl i hi)
                    omega
                have e5 : (KWs.getD k []).length = j := by
                  rcases Nat.lt_or_ge (KWs.getD k []).length j with q | q
                  · have := e2 _ q; omega
                  · omega
                refine ltr_eq.mpr ⟨e5, fun i hi => ?_⟩
                have e3 := hj i hi
                rw [w4 i (by omega), if_pos (e2 i hi)] at e3
                exact e3
              rw [(kwL_iff w1).mp hW] at hK
              rw [show (100 : Int32) + nI k = nI (100 + k) from nI_add 100 k]
              exact hK
          | succ g ihg =>
            intro j ej hj
            have ea : nI k * 8 + nI j = nI (k * 8 + j) := by rw [em, nI_add]
            have ec : chA (nI (k * 8 + j)) = nI (kwN.getD (k * 8 + j) 0) := by unfold chA; rw [show (nI (k * 8 + j)).toNatClampNeg = k * 8 + j from tn_nI (by omega)]
            have hb : kwN.getD (k * 8 + j) 0 < 256 := (show ∀ i, i < 184 → kwN.getD i 0 < 256 by decide +kernel) _ (by omega)
            have ep : nI p + nI j = nI (p + j) := nI_add p j
            have hc := srt2.mp (hl j (by omega))
            have ee : nI (kwN.getD (k * 8 + j) 0) = nI (b (p + j)) ↔ kwN.getD (k * 8 + j) 0 = b (p + j) := eq_nI (by omega) (by omega)
            have hjl : ¬ nI j = nI L := fun z => by have := (eq_nI (by omega) (by omega)).mp z; omega
            refine vX7_keywordOf_19 G d hz _ _ _ _ m K ⟨fun z => absurd ((le_nI (a := L) (b := j) (by omega) (by omega)).mp z) (by omega), fun _ => ?_⟩
            rw [ea, ec, ep, show (nI (p + j)).toNatClampNeg = p + j from tn_nI (by omega), hB.2 (p + j) (by omega), sB_lo _ (by omega), ee]
            refine ⟨in_nI (by omega) (by omega), in_nI (by omega) (by omega), fun z => ⟨fun _ x ex => nxt (fun y => z ?_) x _ ex, fun y => absurd y hjl⟩, fun z x ex => ?_⟩
            · obtain ⟨y1, y2⟩ := ltr_eq.mp y
              rw [w4 j (by omega), if_pos (by omega)]
              exact y2 j (by omega)
            · rw [ex, ← nI_succ]
              refine ihg (j + 1) (by omega) (fun i hi => ?_)
              by_cases q : i = j
              · rw [q]; exact z
              · exact hj i (by omega)
        exact inner L 0 (by omega) (fun i hi => absurd hi (Nat.not_lt_zero i))
    exact main 23 0 uu (by omega) (fun k' hk' => absurd hk' (Nat.not_lt_zero k'))
  · rw [kwL_long (by rw [ltr_len]; omega)] at hK
    exact hK
theorem ScS_of {G : GP} {aK aV : Nat → Nat} (hz : StrG G aK aV) : ScS G := fun d b n h => ⟨fun m K p hp h3 hB hK => kX7_symbolOf G hz d h m K p hp h3 hB hK, fun m K p L hL _ hl hB hK => kX7_keywordOf G hz d h m K p L hL hl hB hK⟩
