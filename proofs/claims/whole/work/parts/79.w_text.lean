/-! text, given the tokens -/
theorem case_text_of (G : GP) (d : Nat) {n : Nat} (m : Mem) (h : Inv TXc n m.1) {kd nm st : Nat → Nat} {cnt : Nat} {T : Nat → Mem → Prop} (H : TokM G kd nm st cnt T) (hS : ∀ (m3 : Mem) (K3 : Mem → Prop), m3.1 228 = m.1 228 → m3.1 229 = m.1 229 → (∀ m4, TB kd nm st cnt m4.1 → (∀ c, ¬ (230 ≤ c ∧ c ≤ 232) → m4.1 c = m3.1 c) → m4.2.2 = m3.2.2 → K3 m4) → Evv G (d + 8) mX7_scan [.ref (ga G 228)] m3 K3) (hN : ∀ (m5 : Mem) (K5 : Mem → Prop), m5.1 273 5 = m.1 273 5 → m5.1 278 = m.1 278 → m5.1 273 8 = 0 → (∀ m6, MV m5 m6 → T 0 m6 → K5 m6) → Evv G (d + 10) mX12_nextToken [.ref (ga G 273)] m5 K5) : Evi G (d + 10) mX11_text [.ref (ga G 0)] m (Same G TXc n (d + 12) mX12_text []) := by
  have hI := h
  obtain ⟨hW, hW2, hR, hR2, hTP, hFA, hX, hb1, hb2⟩ := h
  obtain ⟨t1, -, t3⟩ := hW.nt.is (by omega)
  generalize ht0 : tn (m.1 274 2) = t0 at t1 t3
  have e5 : m.1 1 5 = nI t0 := (show m.1 1 5 = m.1 274 2 from hR.nt).trans t1
  refine vX11_text G d m _ ?_
  rw [e5]
  have e4 : nI t0 < 4 ↔ t0 < 4 := lt_nI (b := 4) (by omega) (by omega)
  rw [e4]
  refine ⟨fun q => ⟨in_nI q (by omega), fun u1 eu1 => ?_⟩, fun q => ?_⟩
  · rw [show (nI t0).toNatClampNeg = t0 from tn_nI (by omega)] at eu1
    subst eu1
    refine kX3_reads G d t0 m _ q hS (fun e j C' cls' lw' m1 q1 q2 q3 => ?_)
    have key : ∀ mm : Mem, (∀ c, c ≠ 1 → c ≠ 228 → mm.1 c = m1.1 c) → (∀ c, c ≠ 1 → c ≠ 228 → ¬ (230 ≤ c ∧ c ≤ 234) → ¬ (238 + 6 * t0 ≤ c ∧ c ≤ 243 + 6 * t0) → mm.1 c = m.1 c) := fun mm hm c h1 h2 h3 h4 => (hm c h1 h2).trans (q3 c h3 h4)
    have tx : ∀ mm F : Mem, (∀ c, c ≠ 1 → c ≠ 228 → mm.1 c = m1.1 c) → FR t0 mm F → ∀ t, t < t0 → TxEq m.1 F.1 t := fun mm F hm hF t htt => ⟨fun c h1 h2 => by rw [hF.1 c (by omega) (by omega) (by omega) (by omega), key mm hm c (by omega) (by omega) (by omega) (by omega)], fun p h1 h2 => by rw [hF.2 p (by omega), key mm hm 276 (by omega) (by omega) (by omega) (by omega)]⟩
    have tp : ∀ F : Mem, F.1 228 0 = 0 → F.1 273 5 = 0 → TP F.1 := fun F h1 h2 => ⟨by rw [h1, h2], ⟨0, by omega, by omega, by rw [h2]; rfl⟩, fun k hk => by rw [h2] at hk; exact absurd hk (Nat.not_lt_zero k)⟩
    by_cases e0 : e = 0
    · subst e0
      rcases q2 with ⟨-, qX⟩ | ⟨z, -⟩
      · rw [if_pos rfl]
        refine ⟨fun _ m4 em4 => ?_, fun y => absurd y (by decide)⟩
        have c1 : (wI m1 228 0 0).1 1 = m.1 1 := by rw [wI_n m1 _ _ (by omega), q3 1 (by omega) (by omega)]
        rw [c1, e5, show nI t0 + 1 = nI (t0 + 1) from nI_add t0 1] at em4
        have d1 : m4.1 1 = upd (m.1 1) 5 (nI (t0 + 1)) := by rw [em4, wI_s, c1]
        have hm : ∀ c, c ≠ 1 → c ≠ 228 → m4.1 c = m1.1 c := fun c h1 h2 => by rw [em4, wI_n _ _ _ h1, wI_n m1 _ _ h2]
        have kk := key _ hm
        have g273 := kk 273 (by omega) (by omega) (by omega) (by omega)
        have g274 := kk 274 (by omega) (by omega) (by omega) (by omega)
        rw [d1, upd_s, nI_p]
        refine mtext G H d t0 m4 _ q (by rw [g274]; exact t1) (fun m5 K5 a b c k => hN m5 K5 (by rw [a, g273]) (by rw [b]; exact kk 278 (by omega) (by omega) (by omega) (by omega)) c k) (fun e2 j2 C2 cls2 lw2 F s1 s2 s3 s4 s5 s6 s7 s8 => ?_) (fun j2 C2 cls2 lw2 F s1 s2 s3 s4 s5 s6 s7 s8 s9 s10 s11 => ?_)
        · have ee := q1.symm.trans s1
          injection ee with ee1 ee2
          omega
        · have ee := q1.symm.trans s1
          injection ee with ee1 ee2
          injection ee2 with ee2 ee3
          injection ee3 with ee3 ee4
          injection ee4 with ee4 ee5
          subst ee2 ee3 ee4 ee5
          have hL := txP_ok 25 0 [] [] (fun _ => (0, 0)) j C' cls' lw' ⟨fun l _ => Or.inr ⟨rfl, fun k hk => (by cases hk)⟩, fun k hk => (by cases hk)⟩ (Nat.le_refl _) q1
          have fF : ∀ c, c ≠ 273 → c ≠ 276 → c ≠ 279 → c ≠ 274 → c ≠ 1 → c ≠ 228 → ¬ (230 ≤ c ∧ c ≤ 234) → ¬ (238 + 6 * t0 ≤ c ∧ c ≤ 243 + 6 * t0) → F.1 c = m.1 c := fun c h1 h2 h3 x4 x1 h4 h5 h6 => by rw [s2.1 c h1 h2 h3 x4, kk c x1 h4 h5 h6]
          have f1 : F.1 1 = upd (m.1 1) 5 (nI (t0 + 1)) := by rw [s2.1 1 (by omega) (by omega) (by omega) (by omega), d1]
          have f4 : F.1 274 = upd (m.1 274) 2 (nI (t0 + 1)) := by rw [s3, g274]
          have f5 : F.1 275 = m.1 275 := fF 275 (by omega) (by omega) (by omega) (by omega) (by omega) (by omega) (by omega) (by omega)
          have fc : ∀ c, 238 + 6 * t0 ≤ c → c ≤ 243 + 6 * t0 → F.1 c = m1.1 c := fun c h1 h2 => by rw [s2.1 c (by omega) (by omega) (by omega) (by omega), hm c (by omega) (by omega)]
          have f233 : F.1 233 = m1.1 233 := by rw [s2.1 233 (by omega) (by omega) (by omega) (by omega), hm 233 (by omega) (by omega)]
          have f228 : F.1 228 0 = 0 := by rw [s2.1 228 (by omega) (by omega) (by omega) (by omega), em4, wI_n _ _ _ (by omega), wI_s, upd_s]
          obtain ⟨⟨x1, x2, x3, x4, x5, x6, x7⟩, x8, x9, x10, x11, x12, x13⟩ := qX
          have hTT : TT F.1 t0 := by
            refine TT_of hL s10 s11 (by rw [fc _ (by omega) (by omega)]; exact x8) ?_ ?_ ?_ ?_ s7 s8 s9
            · unfold CR; rw [fc (238 + 6 * t0 + 1) (by omega) (by omega), fc (238 + 6 * t0 + 2) (by omega) (by omega)]; exact x9
            · unfold CLw; rw [fc (238 + 6 * t0 + 4) (by omega) (by omega), fc (238 + 6 * t0 + 5) (by omega) (by omega)]; exact x10
            · unfold CCl; rw [fc (238 + 6 * t0) (by omega) (by omega), fc (238 + 6 * t0 + 3) (by omega) (by omega)]; exact x6
            · unfold ACl; rw [fc (238 + 6 * t0) (by omega) (by omega)]; exact x7
          refine ⟨rfl, ?_, ?_, ?_, ?_, tp F f228 s4, ⟨by rw [f233, x3.1, s5], by rw [f233, x3.2, s6]⟩, hX.txt1 (t0 := t0) q t1 hTT (tx _ F hm s2) (by rw [f4, upd_s]) (by rw [f1, upd_s]) (by rw [f1, upd_n _ _ (by omega)]) (by rw [f5]) ?_ ?_ ?_ ?_, ?_, ?_⟩
          · rw [f4]; exact hW.txt1 q t1
          · rw [f5]; exact hW2
          · rw [f4]; exact hR.txt1 hW f1 (fun c h1 h2 h3 => fF c (by omega) (by omega) (by omega) (by omega) h3 (by omega) (by omega) (by omega))
          · rw [f5]; exact hR2.fr (fun c h1 h2 _ _ => fF c (by omega) (by omega) (by omega) (by omega) (by omega) (by omega) (by omega) (by omega))
          · rw [fF 2 (by omega) (by omega) (by omega) (by omega) (by omega) (by omega) (by omega) (by omega)]
          · rw [fF 8 (by omega) (by omega) (by omega) (by omega) (by omega) (by omega) (by omega) (by omega)]
          · rw [fF 9 (by omega) (by omega) (by omega) (by omega) (by omega) (by omega) (by omega) (by omega)]
          · rw [fF 265 (by omega) (by omega) (by omega) (by omega) (by omega) (by omega) (by omega) (by omega)]
          · rw [f4, upd_n _ _ (by omega)]; omega
          · rw [f5]; omega
      · omega
    · rw [if_neg e0]
      refine ⟨fun y => absurd rfl y, fun _ => ?_⟩
      rcases q2 with ⟨z, -⟩ | ⟨z0, z7, z1, z2⟩
      · exact absurd z e0
      have hm : ∀ c, c ≠ 1 → c ≠ 228 → (wI m1 228 0 0).1 c = m1.1 c := fun c _ h2 => wI_n m1 _ _ h2
      have kk := key _ hm
      have g273 := kk 273 (by omega) (by omega) (by omega) (by omega)
      have g274 := kk 274 (by omega) (by omega) (by omega) (by omega)
      have c1 : (wI m1 228 0 0).1 1 = m.1 1 := by rw [wI_n m1 _ _ (by omega), q3 1 (by omega) (by omega)]
      refine mtext G H d t0 (wI m1 228 0 0) _ q (by rw [g274]; exact t1) (fun m5 K5 a b c k => hN m5 K5 (by rw [a, g273]) (by rw [b]; exact kk 278 (by omega) (by omega) (by omega) (by omega)) c k) (fun e2 j2 C2 cls2 lw2 F s1 s2 s3 s4 s5 s6 s7 s8 => ?_) (fun j2 C2 cls2 lw2 F s1 s2 s3 s4 s5 s6 s7 s8 s9 s10 s11 => ?_)
      · have ee := q1.symm.trans s1
        injection ee with ee1 ee2
        injection ee2 with ee2 ee3
        subst ee1 ee2
        have fF : ∀ c, c ≠ 273 → c ≠ 276 → c ≠ 279 → c ≠ 228 → ¬ (230 ≤ c ∧ c ≤ 234) → ¬ (238 + 6 * t0 ≤ c ∧ c ≤ 243 + 6 * t0) → F.1 c = m.1 c := fun c h1 h2 h3 h4 h5 h6 => by
          by_cases x4 : c = 274
          · rw [x4, s5, g274]
          · by_cases x1 : c = 1
            · rw [x1, s4.1 1 (by omega) (by omega) (by omega) (by omega), c1]
            · rw [s4.1 c h1 h2 h3 x4, kk c x1 h4 h5 h6]
        have f4 : F.1 274 = m.1 274 := fF 274 (by omega) (by omega) (by omega) (by omega) (by omega) (by omega)
        have f5 : F.1 275 = m.1 275 := fF 275 (by omega) (by omega) (by omega) (by omega) (by omega) (by omega)
        have f233 : F.1 233 = m1.1 233 := by rw [s4.1 233 (by omega) (by omega) (by omega) (by omega), wI_n m1 _ _ (by omega)]
        have f228 : F.1 228 0 = 0 := by rw [s4.1 228 (by omega) (by omega) (by omega) (by omega), wI_s, upd_s]
        refine ⟨rfl, ?_, ?_, ?_, ?_, tp F f228 s6, ⟨by rw [f233, z1, s7], by rw [f233, z2, s8]⟩, hX.keep (t0 := t0) (by omega) t1 (tx _ F hm s4) (by rw [f4]) ?_ ?_ (by rw [f5]) ?_ ?_ ?_ ?_, ?_, ?_⟩
        · rw [f4]; exact hW
        · rw [f5]; exact hW2
        · rw [f4]; exact hR.fr (fun c h1 h2 _ _ => fF c (by omega) (by omega) (by omega) (by omega) (by omega) (by omega))
        · rw [f5]; exact hR2.fr (fun c h1 h2 _ _ => fF c (by omega) (by omega) (by omega) (by omega) (by omega) (by omega))
        · rw [fF 1 (by omega) (by omega) (by omega) (by omega) (by omega) (by omega)]
        · rw [fF 1 (by omega) (by omega) (by omega) (by omega) (by omega) (by omega)]
        · rw [fF 2 (by omega) (by omega) (by omega) (by omega) (by omega) (by omega)]
        · rw [fF 8 (by omega) (by omega) (by omega) (by omega) (by omega) (by omega)]
        · rw [fF 9 (by omega) (by omega) (by omega) (by omega) (by omega) (by omega)]
        · rw [fF 265 (by omega) (by omega) (by omega) (by omega) (by omega) (by omega)]
        · rw [f4]; omega
        · rw [f5]; omega
      · have ee := q1.symm.trans s1
        injection ee with ee1 ee2
        exact absurd ee1 e0
  · have e44 : t0 = 4 := by omega
    refine vX12_text G d m _ ⟨fun z => absurd (by rw [t1, e44]; rfl) z, fun _ => ⟨rfl, hI.idle⟩⟩
