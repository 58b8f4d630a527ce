theorem vlaw_18 (G : GP) (b N : Nat) (xs : Nat → Int32) (l3 : Int32) (m : Mem) (hF : ((((Int32.ofNat N) - 7) < l3) → True) ∧ ((¬ ((Int32.ofNat N) - 7) < l3) → vp_in l3 N ∧ (((xs l3.toNatClampNeg) &&& 63) = 0 → Lw G b N xs 232 [.ref b, .ref (ga G 0), .ref (ga G 273), .int l3] [] m) ∧ (((xs l3.toNatClampNeg) &&& 63) = 1 → Lw G b N xs 275 [.ref b, .ref (ga G 0), .ref (ga G 273), .int l3] [] m) ∧ (((xs l3.toNatClampNeg) &&& 63) = 2 → Lw G b N xs 350 [.ref b, .ref (ga G 0), .ref (ga G 273), .int l3] [] m) ∧ (((xs l3.toNatClampNeg) &&& 63) = 3 → Lw G b N xs 373 [.ref b, .ref (ga G 0), .ref (ga G 273), .int l3] [] m) ∧ (((xs l3.toNatClampNeg) &&& 63) = 4 → Lw G b N xs 436 [.ref b, .ref (ga G 0), .ref (ga G 273), .int l3] [] m) ∧ (((xs l3.toNatClampNeg) &&& 63) = 5 → Lw G b N xs 459 [.ref b, .ref (ga G 0), .ref (ga G 273), .int l3] [] m) ∧ (((xs l3.toNatClampNeg) &&& 63) = 6 → Lw G b N xs 472 [.ref b, .ref (ga G 0), .ref (ga G 273), .int l3] [] m) ∧ (((xs l3.toNatClampNeg) &&& 63) = 7 → Lw G b N xs 495 [.ref b, .ref (ga G 0), .ref (ga G 273), .int l3] [] m) ∧ (((xs l3.toNatClampNeg) &&& 63) = 8 → Lw G b N xs 518 [.ref b, .ref (ga G 0), .ref (ga G 273), .int l3] [] m) ∧ (((xs l3.toNatClampNeg) &&& 63) = 9 → Lw G b N xs 541 [.ref b, .ref (ga G 0), .ref (ga G 273), .int l3] [] m) ∧ (((xs l3.toNatClampNeg) &&& 63) = 10 → Lw G b N xs 564 [.ref b, .ref (ga G 0), .ref (ga G 273), .int l3] [] m) ∧ (((xs l3.toNatClampNeg) &&& 63) = 11 → Lw G b N xs 613 [.ref b, .ref (ga G 0), .ref (ga G 273), .int l3] [] m) ∧ (((xs l3.toNatClampNeg) &&& 63) = 12 → Lw G b N xs 636 [.ref b, .ref (ga G 0), .ref (ga G 273), .int l3] [] m) ∧ (((xs l3.toNatClampNeg) &&& 63) = 13 → Lw G b N xs 649 [.ref b, .ref (ga G 0), .ref (ga G 273), .int l3] [] m) ∧ (((xs l3.toNatClampNeg) &&& 63) = 14 → Lw G b N xs 672 [.ref b, .ref (ga G 0), .ref (ga G 273), .int l3] [] m) ∧ (((xs l3.toNatClampNeg) &&& 63) = 15 → Lw G b N xs 705 [.ref b, .ref (ga G 0), .ref (ga G 273), .int l3] [] m) ∧ (((xs l3.toNatClampNeg) &&& 63) = 16 → Lw G b N xs 718 [.ref b, .ref (ga G 0), .ref (ga G 273), .int l3] [] m) ∧ (((xs l3.toNatClampNeg) &&& 63) = 17 → Lw G b N xs 751 [.ref b, .ref (ga G 0), .ref (ga G 273), .int l3] [] m) ∧ (((xs l3.toNatClampNeg) &&& 63) = 18 → Lw G b N xs 784 [.ref b, .ref (ga G 0), .ref (ga G 273), .int l3] [] m) ∧ (((xs l3.toNatClampNeg) &&& 63) = 19 → Lw G b N xs 807 [.ref b, .ref (ga G 0), .ref (ga G 273), .int l3] [] m) ∧ (((xs l3.toNatClampNeg) &&& 63) = 20 → Lw G b N xs 830 [.ref b, .ref (ga G 0), .ref (ga G 273), .int l3] [] m) ∧ (((xs l3.toNatClampNeg) &&& 63) = 21 → Lw G b N xs 853 [.ref b, .ref (ga G 0), .ref (ga G 273), .int l3] [] m) ∧ (((xs l3.toNatClampNeg) &&& 63) = 22 → Lw G b N xs 886 [.ref b, .ref (ga G 0), .ref (ga G 273), .int l3] [] m) ∧ (((xs l3.toNatClampNeg) &&& 63) = 23 → Lw G b N xs 925 [.ref b, .ref (ga G 0), .ref (ga G 273), .int l3] [] m) ∧ (((xs l3.toNatClampNeg) &&& 63) = 24 → Lw G b N xs 974 [.ref b, .ref (ga G 0), .ref (ga G 273), .int l3] [] m) ∧ (((xs l3.toNatClampNeg) &&& 63) = 25 → Lw G b N xs 1007 [.ref b, .ref (ga G 0), .ref (ga G 273), .int l3] [] m) ∧ (((xs l3.toNatClampNeg) &&& 63) = 26 → Lw G b N xs 1067 [.ref b, .ref (ga G 0), .ref (ga G 273), .int l3] [] m) ∧ (((xs l3.toNatClampNeg) &&& 63) = 27 → Lw G b N xs 1090 [.ref b, .ref (ga G 0), .ref (ga G 273), .int l3] [] m) ∧ (((xs l3.toNatClampNeg) &&& 63) = 28 → Lw G b N xs 1113 [.ref b, .ref (ga G 0), .ref (ga G 273), .int l3] [] m) ∧ (((xs l3.toNatClampNeg) &&& 63) = 29 → Lw G b N xs 1146 [.ref b, .ref (ga G 0), .ref (ga G 273), .int l3] [] m) ∧ (((xs l3.toNatClampNeg) &&& 63) = 30 → Lw G b N xs 1169 [.ref b, .ref (ga G 0), .ref (ga G 273), .int l3] [] m) ∧ (((xs l3.toNatClampNeg) &&& 63) = 31 → Lw G b N xs 1182 [.ref b, .ref (ga G 0), .ref (ga G 273), .int l3] [] m) ∧ (((xs l3.toNatClampNeg) &&& 63) = 32 → Lw G b N xs 1215 [.ref b, .ref (ga G 0), .ref (ga G 273), .int l3] [] m) ∧ (((xs l3.toNatClampNeg) &&& 63) = 33 → Lw G b N xs 1248 [.ref b, .ref (ga G 0), .ref (ga G 273), .int l3] [] m) ∧ (((xs l3.toNatClampNeg) &&& 63) = 34 → Lw G b N xs 1281 [.ref b, .ref (ga G 0), .ref (ga G 273), .int l3] [] m) ∧ (((xs l3.toNatClampNeg) &&& 63) = 35 → Lw G b N xs 1294 [.ref b, .ref (ga G 0), .ref (ga G 273), .int l3] [] m) ∧ (((xs l3.toNatClampNeg) &&& 63) = 36 → Lw G b N xs 1307 [.ref b, .ref (ga G 0), .ref (ga G 273), .int l3] [] m) ∧ (((xs l3.toNatClampNeg) &&& 63) = 37 → Lw G b N xs 1340 [.ref b, .ref (ga G 0), .ref (ga G 273), .int l3] [] m) ∧ (((xs l3.toNatClampNeg) &&& 63) = 38 → Lw G b N xs 1379 [.ref b, .ref (ga G 0), .ref (ga G 273), .int l3] [] m) ∧ (((xs l3.toNatClampNeg) &&& 63) = 39 → Lw G b N xs 1402 [.ref b, .ref (ga G 0), .ref (ga G 273), .int l3] [] m) ∧ (((xs l3.toNatClampNeg) &&& 63) = 40 → Lw G b N xs 1415 [.ref b, .ref (ga G 0), .ref (ga G 273), .int l3] [] m) ∧ (((xs l3.toNatClampNeg) &&& 63) = 41 → Lw G b N xs 1428 [.ref b, .ref (ga G 0), .ref (ga G 273), .int l3] [] m) ∧ (((xs l3.toNatClampNeg) &&& 63) = 42 → Lw G b N xs 1497 [.ref b, .ref (ga G 0), .ref (ga G 273), .int l3] [] m) ∧ (((xs l3.toNatClampNeg) &&& 63) = 43 → Lw G b N xs 1520 [.ref b, .ref (ga G 0), .ref (ga G 273), .int l3] [] m) ∧ (((xs l3.toNatClampNeg) &&& 63) = 44 → Lw G b N xs 1533 [.ref b, .ref (ga G 0), .ref (ga G 273), .int l3] [] m) ∧ (((xs l3.toNatClampNeg) &&& 63) = 45 → Lw G b N xs 1546 [.ref b, .ref (ga G 0), .ref (ga G 273), .int l3] [] m) ∧ (Lw G b N xs 1569 [.ref b, .ref (ga G 0), .ref (ga G 273), .int l3] [] m))) : Lw G b N xs 18 [.ref b, .ref (ga G 0), .ref (ga G 273), .int l3] [] m := by
  refine lo_iload_n dL_law_18 rfl ?_
  refine lo_aload_n dL_law_19 rfl ?_
  refine lo_slen dL_law_20 ?_
  refine lo_bipush (v := 7) dL_law_21 (by decide) ?_
  refine lo_isub dL_law_23 ?_
  refine lo_icmp_gt 1575 dL_law_24 rfl ⟨fun hc => ?_, fun hc => ?_⟩
  · have hF := hF.1 hc
    refine lo_iconst (v := 1) dL_law_1575 (by decide) ?_
    exact lo_ret (S := []) dL_law_1576
  · have hF := hF.2 hc
    refine lo_aload_n dL_law_27 rfl ?_
    refine lo_iload_n dL_law_28 rfl ?_
    obtain ⟨hi, hF⟩ := hF
    refine lo_sld dL_law_29 hi ?_
    refine lo_bipush (v := 63) dL_law_30 (by decide) ?_
    refine lo_iand dL_law_32 ?_
    rcases Decidable.em (((xs l3.toNatClampNeg) &&& 63) = 0) with hc0 | hc0
    · have hF := hF.1 hc0
      refine lo_tabIn (off := 199) 232 dL_law_33 (by rw [hc0]; decide) (by rw [hc0]; decide) (by rw [hc0]; rfl) rfl ?_
      exact hF
    rcases Decidable.em (((xs l3.toNatClampNeg) &&& 63) = 1) with hc1 | hc1
    · have hF := hF.2.1 hc1
      refine lo_tabIn (off := 242) 275 dL_law_33 (by rw [hc1]; decide) (by rw [hc1]; decide) (by rw [hc1]; rfl) rfl ?_
      exact hF
    rcases Decidable.em (((xs l3.toNatClampNeg) &&& 63) = 2) with hc2 | hc2
    · have hF := hF.2.2.1 hc2
      refine lo_tabIn (off := 317) 350 dL_law_33 (by rw [hc2]; decide) (by rw [hc2]; decide) (by rw [hc2]; rfl) rfl ?_
      exact hF
    rcases Decidable.em (((xs l3.toNatClampNeg) &&& 63) = 3) with hc3 | hc3
    · have hF := hF.2.2.2.1 hc3
      refine lo_tabIn (off := 340) 373 dL_law_33 (by rw [hc3]; decide) (by rw [hc3]; decide) (by rw [hc3]; rfl) rfl ?_
      exact hF
    rcases Decidable.em (((xs l3.toNatClampNeg) &&& 63) = 4) with hc4 | hc4
    · have hF := hF.2.2.2.2.1 hc4
      refine lo_tabIn (off := 403) 436 dL_law_33 (by rw [hc4]; decide) (by rw [hc4]; decide) (by rw [hc4]; rfl) rfl ?_
      exact hF
    rcases Decidable.em (((xs l3.toNatClampNeg) &&& 63) = 5) with hc5 | hc5
    · have hF := hF.2.2.2.2.2.1 hc5
      refine lo_tabIn (off := 426) 459 dL_law_33 (by rw [hc5]; decide) (by rw [hc5]; decide) (by rw [hc5]; rfl) rfl ?_
      exact hF
    rcases Decidable.em (((xs l3.toNatClampNeg) &&& 63) = 6) with hc6 | hc6
    · have hF := hF.2.2.2.2.2.2.1 hc6
      refine lo_tabIn (off := 439) 472 dL_law_33 (by rw [hc6]; decide) (by rw [hc6]; decide) (by rw [hc6]; rfl) rfl ?_
      exact hF
    rcases Decidable.em (((xs l3.toNatClampNeg) &&& 63) = 7) with hc7 | hc7
    · have hF := hF.2.2.2.2.2.2.2.1 hc7
      refine lo_tabIn (off := 462) 495 dL_law_33 (by rw [hc7]; decide) (by rw [hc7]; decide) (by rw [hc7]; rfl) rfl ?_
      exact hF
    rcases Decidable.em (((xs l3.toNatClampNeg) &&& 63) = 8) with hc8 | hc8
    · have hF := hF.2.2.2.2.2.2.2.2.1 hc8
      refine lo_tabIn (off := 485) 518 dL_law_33 (by rw [hc8]; decide) (by rw [hc8]; decide) (by rw [hc8]; rfl) rfl ?_
      exact hF
    rcases Decidable.em (((xs l3.toNatClampNeg) &&& 63) = 9) with hc9 | hc9
    · have hF := hF.2.2.2.2.2.2.2.2.2.1 hc9
      refine lo_tabIn (off := 508) 541 dL_law_33 (by rw [hc9]; decide) (by rw [hc9]; decide) (by rw [hc9]; rfl) rfl ?_
      exact hF
    rcases Decidable.em (((xs l3.toNatClampNeg) &&& 63) = 10) with hc10 | hc10
    · have hF := hF.2.2.2.2.2.2.2.2.2.2.1 hc10
      refine lo_tabIn (off := 531) 564 dL_law_33 (by rw [hc10]; decide) (by rw [hc10]; decide) (by rw [hc10]; rfl) rfl ?_
      exact hF
    rcases Decidable.em (((xs l3.toNatClampNeg) &&& 63) = 11) with hc11 | hc11
    · have hF := hF.2.2.2.2.2.2.2.2.2.2.2.1 hc11
      refine lo_tabIn (off := 580) 613 dL_law_33 (by rw [hc11]; decide) (by rw [hc11]; decide) (by rw [hc11]; rfl) rfl ?_
      exact hF
    rcases Decidable.em (((xs l3.toNatClampNeg) &&& 63) = 12) with hc12 | hc12
    · have hF := hF.2.2.2.2.2.2.2.2.2.2.2.2.1 hc12
      refine lo_tabIn (off := 603) 636 dL_law_33 (by rw [hc12]; decide) (by rw [hc12]; decide) (by rw [hc12]; rfl) rfl ?_
      exact hF
    rcases Decidable.em (((xs l3.toNatClampNeg) &&& 63) = 13) with hc13 | hc13
    · have hF := hF.2.2.2.2.2.2.2.2.2.2.2.2.2.1 hc13
      refine lo_tabIn (off := 616) 649 dL_law_33 (by rw [hc13]; decide) (by rw [hc13]; decide) (by rw [hc13]; rfl) rfl ?_
      exact hF
    rcases Decidable.em (((xs l3.toNatClampNeg) &&& 63) = 14) with hc14 | hc14
    · have hF := hF.2.2.2.2.2.2.2.2.2.2.2.2.2.2.1 hc14
      refine lo_tabIn (off := 639) 672 dL_law_33 (by rw [hc14]; decide) (by rw [hc14]; decide) (by rw [hc14]; rfl) rfl ?_
      exact hF
    rcases Decidable.em (((xs l3.toNatClampNeg) &&& 63) = 15) with hc15 | hc15
    · have hF := hF.2.2.2.2.2.2.2.2.2.2.2.2.2.2.2.1 hc15
      refine lo_tabIn (off := 672) 705 dL_law_33 (by rw [hc15]; decide) (by rw [hc15]; decide) (by rw [hc15]; rfl) rfl ?_
      exact hF
    rcases Decidable.em (((xs l3.toNatClampNeg) &&& 63) = 16) with hc16 | hc16
    · have hF := hF.2.2.2.2.2.2.2.2.2.2.2.2.2.2.2.2.1 hc16
      refine lo_tabIn (off := 685) 718 dL_law_33 (by rw [hc16]; decide) (by rw [hc16]; decide) (by rw [hc16]; rfl) rfl ?_
      exact hF
    rcases Decidable.em (((xs l3.toNatClampNeg) &&& 63) = 17) with hc17 | hc17
    · have hF := hF.2.2.2.2.2.2.2.2.2.2.2.2.2.2.2.2.2.1 hc17
      refine lo_tabIn (off := 718) 751 dL_law_33 (by rw [hc17]; decide) (by rw [hc17]; decide) (by rw [hc17]; rfl) rfl ?_
      exact hF
    rcases Decidable.em (((xs l3.toNatClampNeg) &&& 63) = 18) with hc18 | hc18
    · have hF := hF.2.2.2.2.2.2.2.2.2.2.2.2.2.2.2.2.2.2.1 hc18
      refine lo_tabIn (off := 751) 784 dL_law_33 (by rw [hc18]; decide) (by rw [hc18]; decide) (by rw [hc18]; rfl) rfl ?_
      exact hF
    rcases Decidable.em (((xs l3.toNatClampNeg) &&& 63) = 19) with hc19 | hc19
    · have hF := hF.2.2.2.2.2.2.2.2.2.2.2.2.2.2.2.2.2.2.2.1 hc19
      refine lo_tabIn (off := 774) 807 dL_law_33 (by rw [hc19]; decide) (by rw [hc19]; decide) (by rw [hc19]; rfl) rfl ?_
      exact hF
    rcases Decidable.em (((xs l3.toNatClampNeg) &&& 63) = 20) with hc20 | hc20
    · have hF := hF.2.2.2.2.2.2.2.2.2.2.2.2.2.2.2.2.2.2.2.2.1 hc20
      refine lo_tabIn (off := 797) 830 dL_law_33 (by rw [hc20]; decide) (by rw [hc20]; decide) (by rw [hc20]; rfl) rfl ?_
      exact hF
    rcases Decidable.em (((xs l3.toNatClampNeg) &&& 63) = 21) with hc21 | hc21
    · have hF := hF.2.2.2.2.2.2.2.2.2.2.2.2.2.2.2.2.2.2.2.2.2.1 hc21
      refine lo_tabIn (off := 820) 853 dL_law_33 (by rw [hc21]; decide) (by rw [hc21]; decide) (by rw [hc21]; rfl) rfl ?_
      exact hF
    rcases Decidable.em (((xs l3.toNatClampNeg) &&& 63) = 22) with hc22 | hc22
    · have hF := hF.2.2.2.2.2.2.2.2.2.2.2.2.2.2.2.2.2.2.2.2.2.2.1 hc22
      refine lo_tabIn (off := 853) 886 dL_law_33 (by rw [hc22]; decide) (by rw [hc22]; decide) (by rw [hc22]; rfl) rfl ?_
      exact hF
    rcases Decidable.em (((xs l3.toNatClampNeg) &&& 63) = 23) with hc23 | hc23
    · have hF := hF.2.2.2.2.2.2.2.2.2.2.2.2.2.2.2.2.2.2.2.2.2.2.2.1 hc23
      refine lo_tabIn (off := 892) 925 dL_law_33 (by rw [hc23]; decide) (by rw [hc23]; decide) (by rw [hc23]; rfl) rfl ?_
      exact hF
    rcases Decidable.em (((xs l3.toNatClampNeg) &&& 63) = 24) with hc24 | hc24
    · have hF := hF.2.2.2.2.2.2.2.2.2.2.2.2.2.2.2.2.2.2.2.2.2.2.2.2.1 hc24
      refine lo_tabIn (off := 941) 974 dL_law_33 (by rw [hc24]; decide) (by rw [hc24]; decide) (by rw [hc24]; rfl) rfl ?_
      exact hF
    rcases Decidable.em (((xs l3.toNatClampNeg) &&& 63) = 25) with hc25 | hc25
    · have hF := hF.2.2.2.2.2.2.2.2.2.2.2.2.2.2.2.2.2.2.2.2.2.2.2.2.2.1 hc25
      refine lo_tabIn (off := 974) 1007 dL_law_33 (by rw [hc25]; decide) (by rw [hc25]; decide) (by rw [hc25]; rfl) rfl ?_
      exact hF
    rcases Decidable.em (((xs l3.toNatClampNeg) &&& 63) = 26) with hc26 | hc26
    · have hF := hF.2.2.2.2.2.2.2.2.2.2.2.2.2.2.2.2.2.2.2.2.2.2.2.2.2.2.1 hc26
      refine lo_tabIn (off := 1034) 1067 dL_law_33 (by rw [hc26]; decide) (by rw [hc26]; decide) (by rw [hc26]; rfl) rfl ?_
      exact hF
    rcases Decidable.em (((xs l3.toNatClampNeg) &&& 63) = 27) with hc27 | hc27
    · have hF := hF.2.2.2.2.2.2.2.2.2.2.2.2.2.2.2.2.2.2.2.2.2.2.2.2.2.2.2.1 hc27
      refine lo_tabIn (off := 1057) 1090 dL_law_33 (by rw [hc27]; decide) (by rw [hc27]; decide) (by rw [hc27]; rfl) rfl ?_
      exact hF
    rcases Decidable.em (((xs l3.toNatClampNeg) &&& 63) = 28) with hc28 | hc28
    · have hF := hF.2.2.2.2.2.2.2.2.2.2.2.2.2.2.2.2.2.2.2.2.2.2.2.2.2.2.2.2.1 hc28
      refine lo_tabIn (off := 1080) 1113 dL_law_33 (by rw [hc28]; decide) (by rw [hc28]; decide) (by rw [hc28]; rfl) rfl ?_
      exact hF
    rcases Decidable.em (((xs l3.toNatClampNeg) &&& 63) = 29) with hc29 | hc29
    · have hF := hF.2.2.2.2.2.2.2.2.2.2.2.2.2.2.2.2.2.2.2.2.2.2.2.2.2.2.2.2.2.1 hc29
      refine lo_tabIn (off := 1113) 1146 dL_law_33 (by rw [hc29]; decide) (by rw [hc29]; decide) (by rw [hc29]; rfl) rfl ?_
      exact hF
    rcases Decidable.em (((xs l3.toNatClampNeg) &&& 63) = 30) with hc30 | hc30
    · have hF := hF.2.2.2.2.2.2.2.2.2.2.2.2.2.2.2.2.2.2.2.2.2.2.2.2.2.2.2.2.2.2.1 hc30
      refine lo_tabIn (off := 1136) 1169 dL_law_33 (by rw [hc30]; decide) (by rw [hc30]; decide) (by rw [hc30]; rfl) rfl ?_
      exact hF
    rcases Decidable.em (((xs l3.toNatClampNeg) &&& 63) = 31) with hc31 | hc31
    · have hF := hF.2.2.2.2.2.2.2.2.2.2.2.2.2.2.2.2.2.2.2.2.2.2.2.2.2.2.2.2.2.2.2.1 hc31
      refine lo_tabIn (off := 1149) 1182 dL_law_33 (by rw [hc31]; decide) (by rw [hc31]; decide) (by rw [hc31]; rfl) rfl ?_
      exact hF
    rcases Decidable.em (((xs l3.toNatClampNeg) &&& 63) = 32) with hc32 | hc32
    · have hF := hF.2.2.2.2.2.2.2.2.2.2.2.2.2.2.2.2.2.2.2.2.2.2.2.2.2.2.2.2.2.2.2.2.1 hc32
      refine lo_tabIn (off := 1182) 1215 dL_law_33 (by rw [hc32]; decide) (by rw [hc32]; decide) (by rw [hc32]; rfl) rfl ?_
      exact hF
    rcases Decidable.em (((xs l3.toNatClampNeg) &&& 63) = 33) with hc33 | hc33
    · have hF := hF.2.2.2.2.2.2.2.2.2.2.2.2.2.2.2.2.2.2.2.2.2.2.2.2.2.2.2.2.2.2.2.2.2.1 hc33
      refine lo_tabIn (off := 1215) 1248 dL_law_33 (by rw [hc33]; decide) (by rw [hc33]; decide) (by rw [hc33]; rfl) rfl ?_
      exact hF
    rcases Decidable.em (((xs l3.toNatClampNeg) &&& 63) = 34) with hc34 | hc34
    · have hF := hF.2.2.2.2.2.2.2.2.2.2.2.2.2.2.2.2.2.2.2.2.2.2.2.2.2.2.2.2.2.2.2.2.2.2.1 hc34
      refine lo_tabIn (off := 1248) 1281 dL_law_33 (by rw [hc34]; decide) (by rw [hc34]; decide) (by rw [hc34]; rfl) rfl ?_
      exact hF
    rcases Decidable.em (((xs l3.toNatClampNeg) &&& 63) = 35) with hc35 | hc35
    · have hF := hF.2.2.2.2.2.2.2.2.2.2.2.2.2.2.2.2.2.2.2.2.2.2.2.2.2.2.2.2.2.2.2.2.2.2.2.1 hc35
      refine lo_tabIn (off := 1261) 1294 dL_law_33 (by rw [hc35]; decide) (by rw [hc35]; decide) (by rw [hc35]; rfl) rfl ?_
      exact hF
    rcases Decidable.em (((xs l3.toNatClampNeg) &&& 63) = 36) with hc36 | hc36
    · have hF := hF.2.2.2.2.2.2.2.2.2.2.2.2.2.2.2.2.2.2.2.2.2.2.2.2.2.2.2.2.2.2.2.2.2.2.2.2.1 hc36
      refine lo_tabIn (off := 1274) 1307 dL_law_33 (by rw [hc36]; decide) (by rw [hc36]; decide) (by rw [hc36]; rfl) rfl ?_
      exact hF
    rcases Decidable.em (((xs l3.toNatClampNeg) &&& 63) = 37) with hc37 | hc37
    · have hF := hF.2.2.2.2.2.2.2.2.2.2.2.2.2.2.2.2.2.2.2.2.2.2.2.2.2.2.2.2.2.2.2.2.2.2.2.2.2.1 hc37
      refine lo_tabIn (off := 1307) 1340 dL_law_33 (by rw [hc37]; decide) (by rw [hc37]; decide) (by rw [hc37]; rfl) rfl ?_
      exact hF
    rcases Decidable.em (((xs l3.toNatClampNeg) &&& 63) = 38) with hc38 | hc38
    · have hF := hF.2.2.2.2.2.2.2.2.2.2.2.2.2.2.2.2.2.2.2.2.2.2.2.2.2.2.2.2.2.2.2.2.2.2.2.2.2.2.1 hc38
      refine lo_tabIn (off := 1346) 1379 dL_law_33 (by rw [hc38]; decide) (by rw [hc38]; decide) (by rw [hc38]; rfl) rfl ?_
      exact hF
    rcases Decidable.em (((xs l3.toNatClampNeg) &&& 63) = 39) with hc39 | hc39
    · have hF := hF.2.2.2.2.2.2.2.2.2.2.2.2.2.2.2.2.2.2.2.2.2.2.2.2.2.2.2.2.2.2.2.2.2.2.2.2.2.2.2.1 hc39
      refine lo_tabIn (off := 1369) 1402 dL_law_33 (by rw [hc39]; decide) (by rw [hc39]; decide) (by rw [hc39]; rfl) rfl ?_
      exact hF
    rcases Decidable.em (((xs l3.toNatClampNeg) &&& 63) = 40) with hc40 | hc40
    · have hF := hF.2.2.2.2.2.2.2.2.2.2.2.2.2.2.2.2.2.2.2.2.2.2.2.2.2.2.2.2.2.2.2.2.2.2.2.2.2.2.2.2.1 hc40
      refine lo_tabIn (off := 1382) 1415 dL_law_33 (by rw [hc40]; decide) (by rw [hc40]; decide) (by rw [hc40]; rfl) rfl ?_
      exact hF
    rcases Decidable.em (((xs l3.toNatClampNeg) &&& 63) = 41) with hc41 | hc41
    · have hF := hF.2.2.2.2.2.2.2.2.2.2.2.2.2.2.2.2.2.2.2.2.2.2.2.2.2.2.2.2.2.2.2.2.2.2.2.2.2.2.2.2.2.1 hc41
      refine lo_tabIn (off := 1395) 1428 dL_law_33 (by rw [hc41]; decide) (by rw [hc41]; decide) (by rw [hc41]; rfl) rfl ?_
      exact hF
    rcases Decidable.em (((xs l3.toNatClampNeg) &&& 63) = 42) with hc42 | hc42
    · have hF := hF.2.2.2.2.2.2.2.2.2.2.2.2.2.2.2.2.2.2.2.2.2.2.2.2.2.2.2.2.2.2.2.2.2.2.2.2.2.2.2.2.2.2.1 hc42
      refine lo_tabIn (off := 1464) 1497 dL_law_33 (by rw [hc42]; decide) (by rw [hc42]; decide) (by rw [hc42]; rfl) rfl ?_
      exact hF
    rcases Decidable.em (((xs l3.toNatClampNeg) &&& 63) = 43) with hc43 | hc43
    · have hF := hF.2.2.2.2.2.2.2.2.2.2.2.2.2.2.2.2.2.2.2.2.2.2.2.2.2.2.2.2.2.2.2.2.2.2.2.2.2.2.2.2.2.2.2.1 hc43
      refine lo_tabIn (off := 1487) 1520 dL_law_33 (by rw [hc43]; decide) (by rw [hc43]; decide) (by rw [hc43]; rfl) rfl ?_
      exact hF
    rcases Decidable.em (((xs l3.toNatClampNeg) &&& 63) = 44) with hc44 | hc44
    · have hF := hF.2.2.2.2.2.2.2.2.2.2.2.2.2.2.2.2.2.2.2.2.2.2.2.2.2.2.2.2.2.2.2.2.2.2.2.2.2.2.2.2.2.2.2.2.1 hc44
      refine lo_tabIn (off := 1500) 1533 dL_law_33 (by rw [hc44]; decide) (by rw [hc44]; decide) (by rw [hc44]; rfl) rfl ?_
      exact hF
    rcases Decidable.em (((xs l3.toNatClampNeg) &&& 63) = 45) with hc45 | hc45
    · have hF := hF.2.2.2.2.2.2.2.2.2.2.2.2.2.2.2.2.2.2.2.2.2.2.2.2.2.2.2.2.2.2.2.2.2.2.2.2.2.2.2.2.2.2.2.2.2.1 hc45
      refine lo_tabIn (off := 1513) 1546 dL_law_33 (by rw [hc45]; decide) (by rw [hc45]; decide) (by rw [hc45]; rfl) rfl ?_
      exact hF
    have hF := hF.2.2.2.2.2.2.2.2.2.2.2.2.2.2.2.2.2.2.2.2.2.2.2.2.2.2.2.2.2.2.2.2.2.2.2.2.2.2.2.2.2.2.2.2.2.2
    refine lo_tabOut 1569 dL_law_33 (tab_out [0, 1, 2, 3, 4, 5, 6, 7, 8, 9, 10, 11, 12, 13, 14, 15, 16, 17, 18, 19, 20, 21, 22, 23, 24, 25, 26, 27, 28, 29, 30, 31, 32, 33, 34, 35, 36, 37, 38, 39, 40, 41, 42, 43, 44, 45] 0 45 ((xs l3.toNatClampNeg) &&& 63) (by decide) (by simp only [List.forall_mem_cons, List.not_mem_nil, false_implies, implies_true, and_true]; exact ⟨hc0, hc1, hc2, hc3, hc4, hc5, hc6, hc7, hc8, hc9, hc10, hc11, hc12, hc13, hc14, hc15, hc16, hc17, hc18, hc19, hc20, hc21, hc22, hc23, hc24, hc25, hc26, hc27, hc28, hc29, hc30, hc31, hc32, hc33, hc34, hc35, hc36, hc37, hc38, hc39, hc40, hc41, hc42, hc43, hc44, hc45⟩)) rfl ?_
    exact hF
theorem vlaw_232 (G : GP) (b N : Nat) (xs : Nat → Int32) (l3 : Int32) (m : Mem) (hF : vp_in (l3 + 1) N ∧ vp_in (l3 + 2) N ∧ vp_in (l3 + 3) N ∧ Evi G 12 mX11_bell [.ref (ga G 0), .int (xs (l3 + 1).toNatClampNeg), .int (xs (l3 + 2).toNatClampNeg), .int (xs (l3 + 3).toNatClampNeg)] m (fun r1 m2 => vp_in (l3 + 1) N ∧ vp_in (l3 + 2) N ∧ vp_in (l3 + 3) N ∧ Evi G 12 mX12_bell [.ref (ga G 273), .int (xs (l3 + 1).toNatClampNeg), .int (xs (l3 + 2).toNatClampNeg), .int (xs (l3 + 3).toNatClampNeg)] m2 (fun r3 m4 => ((r1 = r3) → Lw G b N xs 1569 [.ref b, .ref (ga G 0), .ref (ga G 273), .int l3] [] m4) ∧ ((¬ r1 = r3) → False)))) : Lw G b N xs 232 [.ref b, .ref (ga G 0), .ref (ga G 273), .int l3] [] m := by
  refine lo_aload_n dL_law_232 rfl ?_
  refine lo_aload_n dL_law_233 rfl ?_
  refine lo_iload_n dL_law_234 rfl ?_
  refine lo_iconst (v := 1) dL_law_235 (by decide) ?_
  refine lo_iadd dL_law_236 ?_
  obtain ⟨hi, hF⟩ := hF
  refine lo_sld dL_law_237 hi ?_
  refine lo_aload_n dL_law_238 rfl ?_
  refine lo_iload_n dL_law_239 rfl ?_
  refine lo_iconst (v := 2) dL_law_240 (by decide) ?_
  refine lo_iadd dL_law_241 ?_
  obtain ⟨hi, hF⟩ := hF
  refine lo_sld dL_law_242 hi ?_
  refine lo_aload_n dL_law_243 rfl ?_
  refine lo_iload_n dL_law_244 rfl ?_
  refine lo_iconst (v := 3) dL_law_245 (by decide) ?_
  refine lo_iadd dL_law_246 ?_
  obtain ⟨hi, hF⟩ := hF
  refine lo_sld dL_law_247 hi ?_
  refine lo_callV mX11_bell dL_law_248 ll_13 okX11_bell isX11_bell sh_0 rfl (As := [.int (xs (l3 + 1).toNatClampNeg), .int (xs (l3 + 2).toNatClampNeg), .int (xs (l3 + 3).toNatClampNeg)]) (S := []) rfl rfl (Nat.le_of_ble_eq_true rfl) hF (lk_i (fun r1 m2 hF => ?_))
  refine lo_aload_n dL_law_251 rfl ?_
  refine lo_aload_n dL_law_252 rfl ?_
  refine lo_iload_n dL_law_253 rfl ?_
  refine lo_iconst (v := 1) dL_law_254 (by decide) ?_
  refine lo_iadd dL_law_255 ?_
  obtain ⟨hi, hF⟩ := hF
  refine lo_sld dL_law_256 hi ?_
  refine lo_aload_n dL_law_257 rfl ?_
  refine lo_iload_n dL_law_258 rfl ?_
  refine lo_iconst (v := 2) dL_law_259 (by decide) ?_
  refine lo_iadd dL_law_260 ?_
  obtain ⟨hi, hF⟩ := hF
  refine lo_sld dL_law_261 hi ?_
  refine lo_aload_n dL_law_262 rfl ?_
  refine lo_iload_n dL_law_263 rfl ?_
  refine lo_iconst (v := 3) dL_law_264 (by decide) ?_
  refine lo_iadd dL_law_265 ?_
  obtain ⟨hi, hF⟩ := hF
  refine lo_sld dL_law_266 hi ?_
  refine lo_callV mX12_bell dL_law_267 ll_17 okX12_bell isX12_bell sh_273 rfl (As := [.int (xs (l3 + 1).toNatClampNeg), .int (xs (l3 + 2).toNatClampNeg), .int (xs (l3 + 3).toNatClampNeg)]) (S := [.int r1]) rfl rfl (Nat.le_of_ble_eq_true rfl) hF (lk_i (fun r3 m4 hF => ?_))
  refine lo_icmp_eq 1569 dL_law_270 rfl ⟨fun hc => ?_, fun hc => ?_⟩
  · have hF := hF.1 hc
    exact hF
  · have hF := hF.2 hc
    refine lo_iconst (v := 0) dL_law_273 (by decide) ?_
    exact lo_no hF
theorem vlaw_275 (G : GP) (b N : Nat) (xs : Nat → Int32) (l3 : Int32) (m : Mem) (hF : vp_in (l3 + 1) N ∧ vp_in (l3 + 2) N ∧ vp_in (l3 + 3) N ∧ vp_in (l3 + 4) N ∧ vp_in (l3 + 5) N ∧ vp_in (l3 + 6) N ∧ Evi G 12 mX11_word [.ref (ga G 0), .int (xs (l3 + 1).toNatClampNeg), .int (xs (l3 + 2).toNatClampNeg), .int (xs (l3 + 3).toNatClampNeg), .int (xs (l3 + 4).toNatClampNeg), .int (xs (l3 + 5).toNatClampNeg), .int (xs (l3 + 6).toNatClampNeg)] m (fun r5 m6 => vp_in (l3 + 1) N ∧ vp_in (l3 + 2) N ∧ vp_in (l3 + 3) N ∧ vp_in (l3 + 4) N ∧ vp_in (l3 + 5) N ∧ vp_in (l3 + 6) N ∧ Evi G 12 mX12_word [.ref (ga G 273), .int (xs (l3 + 1).toNatClampNeg), .int (xs (l3 + 2).toNatClampNeg), .int (xs (l3 + 3).toNatClampNeg), .int (xs (l3 + 4).toNatClampNeg), .int (xs (l3 + 5).toNatClampNeg), .int (xs (l3 + 6).toNatClampNeg)] m6 (fun r7 m8 => ((r5 = r7) → Lw G b N xs 1569 [.ref b, .ref (ga G 0), .ref (ga G 273), .int l3] [] m8) ∧ ((¬ r5 = r7) → False)))) : Lw G b N xs 275 [.ref b, .ref (ga G 0), .ref (ga G 273), .int l3] [] m := by
  refine lo_aload_n dL_law_275 rfl ?_
  refine lo_aload_n dL_law_276 rfl ?_
  refine lo_iload_n dL_law_277 rfl ?_
  refine lo_iconst (v := 1) dL_law_278 (by decide) ?_
  refine lo_iadd dL_law_279 ?_
  obtain ⟨hi, hF⟩ := hF
  refine lo_sld dL_law_280 hi ?_
  refine lo_aload_n dL_law_281 rfl ?_
  refine lo_iload_n dL_law_282 rfl ?_
  refine lo_iconst (v := 2) dL_law_283 (by decide) ?_
  refine lo_iadd dL_law_284 ?_
  obtain ⟨hi, hF⟩ := hF
  refine lo_sld dL_law_285 hi ?_
  refine lo_aload_n dL_law_286 rfl ?_
  refine lo_iload_n dL_law_287 rfl ?_
  refine lo_iconst (v := 3) dL_law_288 (by decide) ?_
  refine lo_iadd dL_law_289 ?_
  obtain ⟨hi, hF⟩ := hF
  refine lo_sld dL_law_290 hi ?_
  refine lo_aload_n dL_law_291 rfl ?_
  refine lo_iload_n dL_law_292 rfl ?_
  refine lo_iconst (v := 4) dL_law_293 (by decide) ?_
  refine lo_iadd dL_law_294 ?_
  obtain ⟨hi, hF⟩ := hF
  refine lo_sld dL_law_295 hi ?_
  refine lo_aload_n dL_law_296 rfl ?_
  refine lo_iload_n dL_law_297 rfl ?_
  refine lo_iconst (v := 5) dL_law_298 (by decide) ?_
  refine lo_iadd dL_law_299 ?_
  obtain ⟨hi, hF⟩ := hF
  refine lo_sld dL_law_300 hi ?_
  refine lo_aload_n dL_law_301 rfl ?_
  refine lo_iload_n dL_law_302 rfl ?_
  refine lo_bipush (v := 6) dL_law_303 (by decide) ?_
  refine lo_iadd dL_law_305 ?_
  obtain ⟨hi, hF⟩ := hF
  refine lo_sld dL_law_306 hi ?_
  refine lo_callV mX11_word dL_law_307 ll_18 okX11_word isX11_word sh_0 rfl (As := [.int (xs (l3 + 1).toNatClampNeg), .int (xs (l3 + 2).toNatClampNeg), .int (xs (l3 + 3).toNatClampNeg), .int (xs (l3 + 4).toNatClampNeg), .int (xs (l3 + 5).toNatClampNeg), .int (xs (l3 + 6).toNatClampNeg)]) (S := []) rfl rfl (Nat.le_of_ble_eq_true rfl) hF (lk_i (fun r5 m6 hF => ?_))
  refine lo_aload_n dL_law_310 rfl ?_
  refine lo_aload_n dL_law_311 rfl ?_
  refine lo_iload_n dL_law_312 rfl ?_
  refine lo_iconst (v := 1) dL_law_313 (by decide) ?_
  refine lo_iadd dL_law_314 ?_
  obtain ⟨hi, hF⟩ := hF
  refine lo_sld dL_law_315 hi ?_
  refine lo_aload_n dL_law_316 rfl ?_
  refine lo_iload_n dL_law_317 rfl ?_
  refine lo_iconst (v := 2) dL_law_318 (by decide) ?_
  refine lo_iadd dL_law_319 ?_
  obtain ⟨hi, hF⟩ := hF
  refine lo_sld dL_law_320 hi ?_
  refine lo_aload_n dL_law_321 rfl ?_
  refine lo_iload_n dL_law_322 rfl ?_
  refine lo_iconst (v := 3) dL_law_323 (by decide) ?_
  refine lo_iadd dL_law_324 ?_
  obtain ⟨hi, hF⟩ := hF
  refine lo_sld dL_law_325 hi ?_
  refine lo_aload_n dL_law_326 rfl ?_
  refine lo_iload_n dL_law_327 rfl ?_
  refine lo_iconst (v := 4) dL_law_328 (by decide) ?_
  refine lo_iadd dL_law_329 ?_
  obtain ⟨hi, hF⟩ := hF
  refine lo_sld dL_law_330 hi ?_
  refine lo_aload_n dL_law_331 rfl ?_
  refine lo_iload_n dL_law_332 rfl ?_
  refine lo_iconst (v := 5) dL_law_333 (by decide) ?_
  refine lo_iadd dL_law_334 ?_
  obtain ⟨hi, hF⟩ := hF
  refine lo_sld dL_law_335 hi ?_
  refine lo_aload_n dL_law_336 rfl ?_
  refine lo_iload_n dL_law_337 rfl ?_
  refine lo_bipush (v := 6) dL_law_338 (by decide) ?_
  refine lo_iadd dL_law_340 ?_
  obtain ⟨hi, hF⟩ := hF
  refine lo_sld dL_law_341 hi ?_
  refine lo_callV mX12_word dL_law_342 ll_22 okX12_word isX12_word sh_273 rfl (As := [.int (xs (l3 + 1).toNatClampNeg), .int (xs (l3 + 2).toNatClampNeg), .int (xs (l3 + 3).toNatClampNeg), .int (xs (l3 + 4).toNatClampNeg), .int (xs (l3 + 5).toNatClampNeg), .int (xs (l3 + 6).toNatClampNeg)]) (S := [.int r5]) rfl rfl (Nat.le_of_ble_eq_true rfl) hF (lk_i (fun r7 m8 hF => ?_))
  refine lo_icmp_eq 1569 dL_law_345 rfl ⟨fun hc => ?_, fun hc => ?_⟩
  · have hF := hF.1 hc
    exact hF
  · have hF := hF.2 hc
    refine lo_iconst (v := 0) dL_law_348 (by decide) ?_
    exact lo_no hF
theorem vlaw_350 (G : GP) (b N : Nat) (xs : Nat → Int32) (l3 : Int32) (m : Mem) (hF : vp_in (l3 + 1) N ∧ Evi G 12 mX11_hands [.ref (ga G 0), .int (xs (l3 + 1).toNatClampNeg)] m (fun r9 m10 => vp_in (l3 + 1) N ∧ Evi G 12 mX12_hands [.ref (ga G 273), .int (xs (l3 + 1).toNatClampNeg)] m10 (fun r11 m12 => ((r9 = r11) → Lw G b N xs 1569 [.ref b, .ref (ga G 0), .ref (ga G 273), .int l3] [] m12) ∧ ((¬ r9 = r11) → False)))) : Lw G b N xs 350 [.ref b, .ref (ga G 0), .ref (ga G 273), .int l3] [] m := by
  refine lo_aload_n dL_law_350 rfl ?_
  refine lo_aload_n dL_law_351 rfl ?_
  refine lo_iload_n dL_law_352 rfl ?_
  refine lo_iconst (v := 1) dL_law_353 (by decide) ?_
  refine lo_iadd dL_law_354 ?_
  obtain ⟨hi, hF⟩ := hF
  refine lo_sld dL_law_355 hi ?_
  refine lo_callV mX11_hands dL_law_356 ll_23 okX11_hands isX11_hands sh_0 rfl (As := [.int (xs (l3 + 1).toNatClampNeg)]) (S := []) rfl rfl (Nat.le_of_ble_eq_true rfl) hF (lk_i (fun r9 m10 hF => ?_))
  refine lo_aload_n dL_law_359 rfl ?_
  refine lo_aload_n dL_law_360 rfl ?_
  refine lo_iload_n dL_law_361 rfl ?_
  refine lo_iconst (v := 1) dL_law_362 (by decide) ?_
  refine lo_iadd dL_law_363 ?_
  obtain ⟨hi, hF⟩ := hF
  refine lo_sld dL_law_364 hi ?_
  refine lo_callV mX12_hands dL_law_365 ll_27 okX12_hands isX12_hands sh_273 rfl (As := [.int (xs (l3 + 1).toNatClampNeg)]) (S := [.int r9]) rfl rfl (Nat.le_of_ble_eq_true rfl) hF (lk_i (fun r11 m12 hF => ?_))
  refine lo_icmp_eq 1569 dL_law_368 rfl ⟨fun hc => ?_, fun hc => ?_⟩
  · have hF := hF.1 hc
    exact hF
  · have hF := hF.2 hc
    refine lo_iconst (v := 0) dL_law_371 (by decide) ?_
    exact lo_no hF
theorem vlaw_373 (G : GP) (b N : Nat) (xs : Nat → Int32) (l3 : Int32) (m : Mem) (hF : vp_in (l3 + 1) N ∧ vp_in (l3 + 2) N ∧ vp_in (l3 + 3) N ∧ vp_in (l3 + 4) N ∧ vp_in (l3 + 5) N ∧ Evi G 12 mX11_feed [.ref (ga G 0), .int (xs (l3 + 1).toNatClampNeg), .int (xs (l3 + 2).toNatClampNeg), .int (xs (l3 + 3).toNatClampNeg), .int (xs (l3 + 4).toNatClampNeg), .int (xs (l3 + 5).toNatClampNeg)] m (fun r13 m14 => vp_in (l3 + 1) N ∧ vp_in (l3 + 2) N ∧ vp_in (l3 + 3) N ∧ vp_in (l3 + 4) N ∧ vp_in (l3 + 5) N ∧ Evi G 12 mX12_feed [.ref (ga G 273), .int (xs (l3 + 1).toNatClampNeg), .int (xs (l3 + 2).toNatClampNeg), .int (xs (l3 + 3).toNatClampNeg), .int (xs (l3 + 4).toNatClampNeg), .int (xs (l3 + 5).toNatClampNeg)] m14 (fun r15 m16 => ((r13 = r15) → Lw G b N xs 1569 [.ref b, .ref (ga G 0), .ref (ga G 273), .int l3] [] m16) ∧ ((¬ r13 = r15) → False)))) : Lw G b N xs 373 [.ref b, .ref (ga G 0), .ref (ga G 273), .int l3] [] m := by
  refine lo_aload_n dL_law_373 rfl ?_
  refine lo_aload_n dL_law_374 rfl ?_
  refine lo_iload_n dL_law_375 rfl ?_
  refine lo_iconst (v := 1) dL_law_376 (by decide) ?_
  refine lo_iadd dL_law_377 ?_
  obtain ⟨hi, hF⟩ := hF
  refine lo_sld dL_law_378 hi ?_
  refine lo_aload_n dL_law_379 rfl ?_
  refine lo_iload_n dL_law_380 rfl ?_
  refine lo_iconst (v := 2) dL_law_381 (by decide) ?_
  refine lo_iadd dL_law_382 ?_
  obtain ⟨hi, hF⟩ := hF
  refine lo_sld dL_law_383 hi ?_
  refine lo_aload_n dL_law_384 rfl ?_
  refine lo_iload_n dL_law_385 rfl ?_
  refine lo_iconst (v := 3) dL_law_386 (by decide) ?_
  refine lo_iadd dL_law_387 ?_
  obtain ⟨hi, hF⟩ := hF
  refine lo_sld dL_law_388 hi ?_
  refine lo_aload_n dL_law_389 rfl ?_
  refine lo_iload_n dL_law_390 rfl ?_
  refine lo_iconst (v := 4) dL_law_391 (by decide) ?_
  refine lo_iadd dL_law_392 ?_
  obtain ⟨hi, hF⟩ := hF
  refine lo_sld dL_law_393 hi ?_
  refine lo_aload_n dL_law_394 rfl ?_
  refine lo_iload_n dL_law_395 rfl ?_
  refine lo_iconst (v := 5) dL_law_396 (by decide) ?_
  refine lo_iadd dL_law_397 ?_
  obtain ⟨hi, hF⟩ := hF
  refine lo_sld dL_law_398 hi ?_
  refine lo_callV mX11_feed dL_law_399 ll_28 okX11_feed isX11_feed sh_0 rfl (As := [.int (xs (l3 + 1).toNatClampNeg), .int (xs (l3 + 2).toNatClampNeg), .int (xs (l3 + 3).toNatClampNeg), .int (xs (l3 + 4).toNatClampNeg), .int (xs (l3 + 5).toNatClampNeg)]) (S := []) rfl rfl (Nat.le_of_ble_eq_true rfl) hF (lk_i (fun r13 m14 hF => ?_))
  refine lo_aload_n dL_law_402 rfl ?_
  refine lo_aload_n dL_law_403 rfl ?_
  refine lo_iload_n dL_law_404 rfl ?_
  refine lo_iconst (v := 1) dL_law_405 (by decide) ?_
  refine lo_iadd dL_law_406 ?_
  obtain ⟨hi, hF⟩ := hF
  refine lo_sld dL_law_407 hi ?_
  refine lo_aload_n dL_law_408 rfl ?_
  refine lo_iload_n dL_law_409 rfl ?_
  refine lo_iconst (v := 2) dL_law_410 (by decide) ?_
  refine lo_iadd dL_law_411 ?_
  obtain ⟨hi, hF⟩ := hF
  refine lo_sld dL_law_412 hi ?_
  refine lo_aload_n dL_law_413 rfl ?_
  refine lo_iload_n dL_law_414 rfl ?_
  refine lo_iconst (v := 3) dL_law_415 (by decide) ?_
  refine lo_iadd dL_law_416 ?_
  obtain ⟨hi, hF⟩ := hF
  refine lo_sld dL_law_417 hi ?_
  refine lo_aload_n dL_law_418 rfl ?_
  refine lo_iload_n dL_law_419 rfl ?_
  refine lo_iconst (v := 4) dL_law_420 (by decide) ?_
  refine lo_iadd dL_law_421 ?_
  obtain ⟨hi, hF⟩ := hF
  refine lo_sld dL_law_422 hi ?_
  refine lo_aload_n dL_law_423 rfl ?_
  refine lo_iload_n dL_law_424 rfl ?_
  refine lo_iconst (v := 5) dL_law_425 (by decide) ?_
  refine lo_iadd dL_law_426 ?_
  obtain ⟨hi, hF⟩ := hF
  refine lo_sld dL_law_427 hi ?_
  refine lo_callV mX12_feed dL_law_428 ll_32 okX12_feed isX12_feed sh_273 rfl (As := [.int (xs (l3 + 1).toNatClampNeg), .int (xs (l3 + 2).toNatClampNeg), .int (xs (l3 + 3).toNatClampNeg), .int (xs (l3 + 4).toNatClampNeg), .int (xs (l3 + 5).toNatClampNeg)]) (S := [.int r13]) rfl rfl (Nat.le_of_ble_eq_true rfl) hF (lk_i (fun r15 m16 hF => ?_))
  refine lo_icmp_eq 1569 dL_law_431 rfl ⟨fun hc => ?_, fun hc => ?_⟩
  · have hF := hF.1 hc
    exact hF
  · have hF := hF.2 hc
    refine lo_iconst (v := 0) dL_law_434 (by decide) ?_
    exact lo_no hF
theorem vlaw_436 (G : GP) (b N : Nat) (xs : Nat → Int32) (l3 : Int32) (m : Mem) (hF : vp_in (l3 + 1) N ∧ Evi G 12 mX11_end [.ref (ga G 0), .int (xs (l3 + 1).toNatClampNeg)] m (fun r17 m18 => vp_in (l3 + 1) N ∧ Evi G 12 mX12_end [.ref (ga G 273), .int (xs (l3 + 1).toNatClampNeg)] m18 (fun r19 m20 => ((r17 = r19) → Lw G b N xs 1569 [.ref b, .ref (ga G 0), .ref (ga G 273), .int l3] [] m20) ∧ ((¬ r17 = r19) → False)))) : Lw G b N xs 436 [.ref b, .ref (ga G 0), .ref (ga G 273), .int l3] [] m := by
  refine lo_aload_n dL_law_436 rfl ?_
  refine lo_aload_n dL_law_437 rfl ?_
  refine lo_iload_n dL_law_438 rfl ?_
  refine lo_iconst (v := 1) dL_law_439 (by decide) ?_
  refine lo_iadd dL_law_440 ?_
  obtain ⟨hi, hF⟩ := hF
  refine lo_sld dL_law_441 hi ?_
  refine lo_callV mX11_end dL_law_442 ll_33 okX11_end isX11_end sh_0 rfl (As := [.int (xs (l3 + 1).toNatClampNeg)]) (S := []) rfl rfl (Nat.le_of_ble_eq_true rfl) hF (lk_i (fun r17 m18 hF => ?_))
  refine lo_aload_n dL_law_445 rfl ?_
  refine lo_aload_n dL_law_446 rfl ?_
  refine lo_iload_n dL_law_447 rfl ?_
  refine lo_iconst (v := 1) dL_law_448 (by decide) ?_
  refine lo_iadd dL_law_449 ?_
  obtain ⟨hi, hF⟩ := hF
  refine lo_sld dL_law_450 hi ?_
  refine lo_callV mX12_end dL_law_451 ll_37 okX12_end isX12_end sh_273 rfl (As := [.int (xs (l3 + 1).toNatClampNeg)]) (S := [.int r17]) rfl rfl (Nat.le_of_ble_eq_true rfl) hF (lk_i (fun r19 m20 hF => ?_))
  refine lo_icmp_eq 1569 dL_law_454 rfl ⟨fun hc => ?_, fun hc => ?_⟩
  · have hF := hF.1 hc
    exact hF
  · have hF := hF.2 hc
    refine lo_iconst (v := 0) dL_law_457 (by decide) ?_
    exact lo_no hF
theorem vlaw_459 (G : GP) (b N : Nat) (xs : Nat → Int32) (l3 : Int32) (m : Mem) (hF : Evi G 12 mX11_text [.ref (ga G 0)] m (fun r21 m22 => Evi G 12 mX12_text [.ref (ga G 273)] m22 (fun r23 m24 => ((r21 = r23) → Lw G b N xs 1569 [.ref b, .ref (ga G 0), .ref (ga G 273), .int l3] [] m24) ∧ ((¬ r21 = r23) → False)))) : Lw G b N xs 459 [.ref b, .ref (ga G 0), .ref (ga G 273), .int l3] [] m := by
  refine lo_aload_n dL_law_459 rfl ?_
  refine lo_callV mX11_text dL_law_460 ll_38 okX11_text isX11_text sh_0 rfl (As := []) (S := []) rfl rfl (Nat.le_of_ble_eq_true rfl) hF (lk_i (fun r21 m22 hF => ?_))
  refine lo_aload_n dL_law_463 rfl ?_
  refine lo_callV mX12_text dL_law_464 ll_42 okX12_text isX12_text sh_273 rfl (As := []) (S := [.int r21]) rfl rfl (Nat.le_of_ble_eq_true rfl) hF (lk_i (fun r23 m24 hF => ?_))
  refine lo_icmp_eq 1569 dL_law_467 rfl ⟨fun hc => ?_, fun hc => ?_⟩
  · have hF := hF.1 hc
    exact hF
  · have hF := hF.2 hc
    refine lo_iconst (v := 0) dL_law_470 (by decide) ?_
    exact lo_no hF
theorem vlaw_472 (G : GP) (b N : Nat) (xs : Nat → Int32) (l3 : Int32) (m : Mem) (hF : vp_in (l3 + 1) N ∧ Evi G 12 mX11_fault [.ref (ga G 0), .int (xs (l3 + 1).toNatClampNeg)] m (fun r25 m26 => vp_in (l3 + 1) N ∧ Evi G 12 mX12_fault [.ref (ga G 273), .int (xs (l3 + 1).toNatClampNeg)] m26 (fun r27 m28 => ((r25 = r27) → Lw G b N xs 1569 [.ref b, .ref (ga G 0), .ref (ga G 273), .int l3] [] m28) ∧ ((¬ r25 = r27) → False)))) : Lw G b N xs 472 [.ref b, .ref (ga G 0), .ref (ga G 273), .int l3] [] m := by
  refine lo_aload_n dL_law_472 rfl ?_
  refine lo_aload_n dL_law_473 rfl ?_
  refine lo_iload_n dL_law_474 rfl ?_
  refine lo_iconst (v := 1) dL_law_475 (by decide) ?_
  refine lo_iadd dL_law_476 ?_
  obtain ⟨hi, hF⟩ := hF
  refine lo_sld dL_law_477 hi ?_
  refine lo_callV mX11_fault dL_law_478 ll_43 okX11_fault isX11_fault sh_0 rfl (As := [.int (xs (l3 + 1).toNatClampNeg)]) (S := []) rfl rfl (Nat.le_of_ble_eq_true rfl) hF (lk_i (fun r25 m26 hF => ?_))
  refine lo_aload_n dL_law_481 rfl ?_
  refine lo_aload_n dL_law_482 rfl ?_
  refine lo_iload_n dL_law_483 rfl ?_
  refine lo_iconst (v := 1) dL_law_484 (by decide) ?_
  refine lo_iadd dL_law_485 ?_
  obtain ⟨hi, hF⟩ := hF
  refine lo_sld dL_law_486 hi ?_
  refine lo_callV mX12_fault dL_law_487 ll_46 okX12_fault isX12_fault sh_273 rfl (As := [.int (xs (l3 + 1).toNatClampNeg)]) (S := [.int r25]) rfl rfl (Nat.le_of_ble_eq_true rfl) hF (lk_i (fun r27 m28 hF => ?_))
  refine lo_icmp_eq 1569 dL_law_490 rfl ⟨fun hc => ?_, fun hc => ?_⟩
  · have hF := hF.1 hc
    exact hF
  · have hF := hF.2 hc
    refine lo_iconst (v := 0) dL_law_493 (by decide) ?_
    exact lo_no hF
theorem vlaw_495 (G : GP) (b N : Nat) (xs : Nat → Int32) (l3 : Int32) (m : Mem) (hF : vp_in (l3 + 1) N ∧ Evi G 12 mX11_by [.ref (ga G 0), .int (xs (l3 + 1).toNatClampNeg)] m (fun r29 m30 => vp_in (l3 + 1) N ∧ Evi G 12 mX12_by [.ref (ga G 273), .int (xs (l3 + 1).toNatClampNeg)] m30 (fun r31 m32 => ((r29 = r31) → Lw G b N xs 1569 [.ref b, .ref (ga G 0), .ref (ga G 273), .int l3] [] m32) ∧ ((¬ r29 = r31) → False)))) : Lw G b N xs 495 [.ref b, .ref (ga G 0), .ref (ga G 273), .int l3] [] m := by
  refine lo_aload_n dL_law_495 rfl ?_
  refine lo_aload_n dL_law_496 rfl ?_
  refine lo_iload_n dL_law_497 rfl ?_
  refine lo_iconst (v := 1) dL_law_498 (by decide) ?_
  refine lo_iadd dL_law_499 ?_
  obtain ⟨hi, hF⟩ := hF
  refine lo_sld dL_law_500 hi ?_
  refine lo_callV mX11_by dL_law_501 ll_47 okX11_by isX11_by sh_0 rfl (As := [.int (xs (l3 + 1).toNatClampNeg)]) (S := []) rfl rfl (Nat.le_of_ble_eq_true rfl) hF (lk_i (fun r29 m30 hF => ?_))
  refine lo_aload_n dL_law_504 rfl ?_
  refine lo_aload_n dL_law_505 rfl ?_
  refine lo_iload_n dL_law_506 rfl ?_
  refine lo_iconst (v := 1) dL_law_507 (by decide) ?_
  refine lo_iadd dL_law_508 ?_
  obtain ⟨hi, hF⟩ := hF
  refine lo_sld dL_law_509 hi ?_
  refine lo_callV mX12_by dL_law_510 ll_50 okX12_by isX12_by sh_273 rfl (As := [.int (xs (l3 + 1).toNatClampNeg)]) (S := [.int r29]) rfl rfl (Nat.le_of_ble_eq_true rfl) hF (lk_i (fun r31 m32 hF => ?_))
  refine lo_icmp_eq 1569 dL_law_513 rfl ⟨fun hc => ?_, fun hc => ?_⟩
  · have hF := hF.1 hc
    exact hF
  · have hF := hF.2 hc
    refine lo_iconst (v := 0) dL_law_516 (by decide) ?_
    exact lo_no hF
theorem vlaw_518 (G : GP) (b N : Nat) (xs : Nat → Int32) (l3 : Int32) (m : Mem) (hF : vp_in (l3 + 1) N ∧ Evi G 12 mX11_ring [.ref (ga G 0), .int (xs (l3 + 1).toNatClampNeg)] m (fun r33 m34 => vp_in (l3 + 1) N ∧ Evi G 12 mX12_ring [.ref (ga G 273), .int (xs (l3 + 1).toNatClampNeg)] m34 (fun r35 m36 => ((r33 = r35) → Lw G b N xs 1569 [.ref b, .ref (ga G 0), .ref (ga G 273), .int l3] [] m36) ∧ ((¬ r33 = r35) → False)))) : Lw G b N xs 518 [.ref b, .ref (ga G 0), .ref (ga G 273), .int l3] [] m := by
  refine lo_aload_n dL_law_518 rfl ?_
  refine lo_aload_n dL_law_519 rfl ?_
  refine lo_iload_n dL_law_520 rfl ?_
  refine lo_iconst (v := 1) dL_law_521 (by decide) ?_
  refine lo_iadd dL_law_522 ?_
  obtain ⟨hi, hF⟩ := hF
  refine lo_sld dL_law_523 hi ?_
  refine lo_callV mX11_ring dL_law_524 ll_51 okX11_ring isX11_ring sh_0 rfl (As := [.int (xs (l3 + 1).toNatClampNeg)]) (S := []) rfl rfl (Nat.le_of_ble_eq_true rfl) hF (lk_i (fun r33 m34 hF => ?_))
  refine lo_aload_n dL_law_527 rfl ?_
  refine lo_aload_n dL_law_528 rfl ?_
  refine lo_iload_n dL_law_529 rfl ?_
  refine lo_iconst (v := 1) dL_law_530 (by decide) ?_
  refine lo_iadd dL_law_531 ?_
  obtain ⟨hi, hF⟩ := hF
  refine lo_sld dL_law_532 hi ?_
  refine lo_callV mX12_ring dL_law_533 ll_54 okX12_ring isX12_ring sh_273 rfl (As := [.int (xs (l3 + 1).toNatClampNeg)]) (S := [.int r33]) rfl rfl (Nat.le_of_ble_eq_true rfl) hF (lk_i (fun r35 m36 hF => ?_))
  refine lo_icmp_eq 1569 dL_law_536 rfl ⟨fun hc => ?_, fun hc => ?_⟩
  · have hF := hF.1 hc
    exact hF
  · have hF := hF.2 hc
    refine lo_iconst (v := 0) dL_law_539 (by decide) ?_
    exact lo_no hF
theorem vlaw_541 (G : GP) (b N : Nat) (xs : Nat → Int32) (l3 : Int32) (m : Mem) (hF : vp_in (l3 + 1) N ∧ Evi G 12 mX11_speak [.ref (ga G 0), .int (xs (l3 + 1).toNatClampNeg)] m (fun r37 m38 => vp_in (l3 + 1) N ∧ Evi G 12 mX12_speak [.ref (ga G 273), .int (xs (l3 + 1).toNatClampNeg)] m38 (fun r39 m40 => ((r37 = r39) → Lw G b N xs 1569 [.ref b, .ref (ga G 0), .ref (ga G 273), .int l3] [] m40) ∧ ((¬ r37 = r39) → False)))) : Lw G b N xs 541 [.ref b, .ref (ga G 0), .ref (ga G 273), .int l3] [] m := by
  refine lo_aload_n dL_law_541 rfl ?_
  refine lo_aload_n dL_law_542 rfl ?_
  refine lo_iload_n dL_law_543 rfl ?_
  refine lo_iconst (v := 1) dL_law_544 (by decide) ?_
  refine lo_iadd dL_law_545 ?_
  obtain ⟨hi, hF⟩ := hF
  refine lo_sld dL_law_546 hi ?_
  refine lo_callV mX11_speak dL_law_547 ll_55 okX11_speak isX11_speak sh_0 rfl (As := [.int (xs (l3 + 1).toNatClampNeg)]) (S := []) rfl rfl (Nat.le_of_ble_eq_true rfl) hF (lk_i (fun r37 m38 hF => ?_))
  refine lo_aload_n dL_law_550 rfl ?_
  refine lo_aload_n dL_law_551 rfl ?_
  refine lo_iload_n dL_law_552 rfl ?_
  refine lo_iconst (v := 1) dL_law_553 (by decide) ?_
  refine lo_iadd dL_law_554 ?_
  obtain ⟨hi, hF⟩ := hF
  refine lo_sld dL_law_555 hi ?_
  refine lo_callV mX12_speak dL_law_556 ll_58 okX12_speak isX12_speak sh_273 rfl (As := [.int (xs (l3 + 1).toNatClampNeg)]) (S := [.int r37]) rfl rfl (Nat.le_of_ble_eq_true rfl) hF (lk_i (fun r39 m40 hF => ?_))
  refine lo_icmp_eq 1569 dL_law_559 rfl ⟨fun hc => ?_, fun hc => ?_⟩
  · have hF := hF.1 hc
    exact hF
  · have hF := hF.2 hc
    refine lo_iconst (v := 0) dL_law_562 (by decide) ?_
    exact lo_no hF
theorem vlaw_564 (G : GP) (b N : Nat) (xs : Nat → Int32) (l3 : Int32) (m : Mem) (hF : vp_in (l3 + 1) N ∧ (((xs (l3 + 1).toNatClampNeg) = 0) → vp_in (l3 + 2) N ∧ Evi G 12 mX11_set [.ref (ga G 0), .int 0, .int (xs (l3 + 2).toNatClampNeg)] m (fun r41 m42 => vp_in (l3 + 1) N ∧ (((xs (l3 + 1).toNatClampNeg) = 0) → vp_in (l3 + 2) N ∧ Evi G 12 mX12_set [.ref (ga G 273), .int 0, .int (xs (l3 + 2).toNatClampNeg)] m42 (fun r43 m44 => ((r41 = r43) → Lw G b N xs 1569 [.ref b, .ref (ga G 0), .ref (ga G 273), .int l3] [] m44) ∧ ((¬ r41 = r43) → False))) ∧ ((¬ (xs (l3 + 1).toNatClampNeg) = 0) → vp_in (l3 + 2) N ∧ Evi G 12 mX12_set [.ref (ga G 273), .int 1, .int (xs (l3 + 2).toNatClampNeg)] m42 (fun r45 m46 => ((r41 = r45) → Lw G b N xs 1569 [.ref b, .ref (ga G 0), .ref (ga G 273), .int l3] [] m46) ∧ ((¬ r41 = r45) → False))))) ∧ ((¬ (xs (l3 + 1).toNatClampNeg) = 0) → vp_in (l3 + 2) N ∧ Evi G 12 mX11_set [.ref (ga G 0), .int 1, .int (xs (l3 + 2).toNatClampNeg)] m (fun r47 m48 => vp_in (l3 + 1) N ∧ (((xs (l3 + 1).toNatClampNeg) = 0) → vp_in (l3 + 2) N ∧ Evi G 12 mX12_set [.ref (ga G 273), .int 0, .int (xs (l3 + 2).toNatClampNeg)] m48 (fun r49 m50 => ((r47 = r49) → Lw G b N xs 1569 [.ref b, .ref (ga G 0), .ref (ga G 273), .int l3] [] m50) ∧ ((¬ r47 = r49) → False))) ∧ ((¬ (xs (l3 + 1).toNatClampNeg) = 0) → vp_in (l3 + 2) N ∧ Evi G 12 mX12_set [.ref (ga G 273), .int 1, .int (xs (l3 + 2).toNatClampNeg)] m48 (fun r51 m52 => ((r47 = r51) → Lw G b N xs 1569 [.ref b, .ref (ga G 0), .ref (ga G 273), .int l3] [] m52) ∧ ((¬ r47 = r51) → False)))))) : Lw G b N xs 564 [.ref b, .ref (ga G 0), .ref (ga G 273), .int l3] [] m := by
  refine lo_aload_n dL_law_564 rfl ?_
  refine lo_aload_n dL_law_565 rfl ?_
  refine lo_iload_n dL_law_566 rfl ?_
  refine lo_iconst (v := 1) dL_law_567 (by decide) ?_
  refine lo_iadd dL_law_568 ?_
  obtain ⟨hi, hF⟩ := hF
  refine lo_sld dL_law_569 hi ?_
  refine lo_if_eq 577 dL_law_570 rfl ⟨fun hc => ?_, fun hc => ?_⟩
  · have hF := hF.1 hc
    refine lo_iconst (v := 0) dL_law_577 (by decide) ?_
    refine lo_aload_n dL_law_578 rfl ?_
    refine lo_iload_n dL_law_579 rfl ?_
    refine lo_iconst (v := 2) dL_law_580 (by decide) ?_
    refine lo_iadd dL_law_581 ?_
    obtain ⟨hi, hF⟩ := hF
    refine lo_sld dL_law_582 hi ?_
    refine lo_callV mX11_set dL_law_583 ll_59 okX11_set isX11_set sh_0 rfl (As := [.int 0, .int (xs (l3 + 2).toNatClampNeg)]) (S := []) rfl rfl (Nat.le_of_ble_eq_true rfl) hF (lk_i (fun r41 m42 hF => ?_))
    refine lo_aload_n dL_law_586 rfl ?_
    refine lo_aload_n dL_law_587 rfl ?_
    refine lo_iload_n dL_law_588 rfl ?_
    refine lo_iconst (v := 1) dL_law_589 (by decide) ?_
    refine lo_iadd dL_law_590 ?_
    obtain ⟨hi, hF⟩ := hF
    refine lo_sld dL_law_591 hi ?_
    refine lo_if_eq 599 dL_law_592 rfl ⟨fun hc => ?_, fun hc => ?_⟩
    · have hF := hF.1 hc
      refine lo_iconst (v := 0) dL_law_599 (by decide) ?_
      refine lo_aload_n dL_law_600 rfl ?_
      refine lo_iload_n dL_law_601 rfl ?_
      refine lo_iconst (v := 2) dL_law_602 (by decide) ?_
      refine lo_iadd dL_law_603 ?_
      obtain ⟨hi, hF⟩ := hF
      refine lo_sld dL_law_604 hi ?_
      refine lo_callV mX12_set dL_law_605 ll_63 okX12_set isX12_set sh_273 rfl (As := [.int 0, .int (xs (l3 + 2).toNatClampNeg)]) (S := [.int r41]) rfl rfl (Nat.le_of_ble_eq_true rfl) hF (lk_i (fun r43 m44 hF => ?_))
      refine lo_icmp_eq 1569 dL_law_608 rfl ⟨fun hc => ?_, fun hc => ?_⟩
      · have hF := hF.1 hc
        exact hF
      · have hF := hF.2 hc
        refine lo_iconst (v := 0) dL_law_611 (by decide) ?_
        exact lo_no hF
    · have hF := hF.2 hc
      refine lo_iconst (v := 1) dL_law_595 (by decide) ?_
      refine lo_goto 600 dL_law_596 rfl ?_
      refine lo_aload_n dL_law_600 rfl ?_
      refine lo_iload_n dL_law_601 rfl ?_
      refine lo_iconst (v := 2) dL_law_602 (by decide) ?_
      refine lo_iadd dL_law_603 ?_
      obtain ⟨hi, hF⟩ := hF
      refine lo_sld dL_law_604 hi ?_
      refine lo_callV mX12_set dL_law_605 ll_63 okX12_set isX12_set sh_273 rfl (As := [.int 1, .int (xs (l3 + 2).toNatClampNeg)]) (S := [.int r41]) rfl rfl (Nat.le_of_ble_eq_true rfl) hF (lk_i (fun r45 m46 hF => ?_))
      refine lo_icmp_eq 1569 dL_law_608 rfl ⟨fun hc => ?_, fun hc => ?_⟩
      · have hF := hF.1 hc
        exact hF
      · have hF := hF.2 hc
        refine lo_iconst (v := 0) dL_law_611 (by decide) ?_
        exact lo_no hF
  · have hF := hF.2 hc
    refine lo_iconst (v := 1) dL_law_573 (by decide) ?_
    refine lo_goto 578 dL_law_574 rfl ?_
    refine lo_aload_n dL_law_578 rfl ?_
    refine lo_iload_n dL_law_579 rfl ?_
    refine lo_iconst (v := 2) dL_law_580 (by decide) ?_
    refine lo_iadd dL_law_581 ?_
    obtain ⟨hi, hF⟩ := hF
    refine lo_sld dL_law_582 hi ?_
    refine lo_callV mX11_set dL_law_583 ll_59 okX11_set isX11_set sh_0 rfl (As := [.int 1, .int (xs (l3 + 2).toNatClampNeg)]) (S := []) rfl rfl (Nat.le_of_ble_eq_true rfl) hF (lk_i (fun r47 m48 hF => ?_))
    refine lo_aload_n dL_law_586 rfl ?_
    refine lo_aload_n dL_law_587 rfl ?_
    refine lo_iload_n dL_law_588 rfl ?_
    refine lo_iconst (v := 1) dL_law_589 (by decide) ?_
    refine lo_iadd dL_law_590 ?_
    obtain ⟨hi, hF⟩ := hF
    refine lo_sld dL_law_591 hi ?_
    refine lo_if_eq 599 dL_law_592 rfl ⟨fun hc => ?_, fun hc => ?_⟩
    · have hF := hF.1 hc
      refine lo_iconst (v := 0) dL_law_599 (by decide) ?_
      refine lo_aload_n dL_law_600 rfl ?_
      refine lo_iload_n dL_law_601 rfl ?_
      refine lo_iconst (v := 2) dL_law_602 (by decide) ?_
      refine lo_iadd dL_law_603 ?_
      obtain ⟨hi, hF⟩ := hF
      refine lo_sld dL_law_604 hi ?_
      refine lo_callV mX12_set dL_law_605 ll_63 okX12_set isX12_set sh_273 rfl (As := [.int 0, .int (xs (l3 + 2).toNatClampNeg)]) (S := [.int r47]) rfl rfl (Nat.le_of_ble_eq_true rfl) hF (lk_i (fun r49 m50 hF => ?_))
      refine lo_icmp_eq 1569 dL_law_608 rfl ⟨fun hc => ?_, fun hc => ?_⟩
      · have hF := hF.1 hc
        exact hF
      · have hF := hF.2 hc
        refine lo_iconst (v := 0) dL_law_611 (by decide) ?_
        exact lo_no hF
    · have hF := hF.2 hc
      refine lo_iconst (v := 1) dL_law_595 (by decide) ?_
      refine lo_goto 600 dL_law_596 rfl ?_
      refine lo_aload_n dL_law_600 rfl ?_
      refine lo_iload_n dL_law_601 rfl ?_
      refine lo_iconst (v := 2) dL_law_602 (by decide) ?_
      refine lo_iadd dL_law_603 ?_
      obtain ⟨hi, hF⟩ := hF
      refine lo_sld dL_law_604 hi ?_
      refine lo_callV mX12_set dL_law_605 ll_63 okX12_set isX12_set sh_273 rfl (As := [.int 1, .int (xs (l3 + 2).toNatClampNeg)]) (S := [.int r47]) rfl rfl (Nat.le_of_ble_eq_true rfl) hF (lk_i (fun r51 m52 hF => ?_))
      refine lo_icmp_eq 1569 dL_law_608 rfl ⟨fun hc => ?_, fun hc => ?_⟩
      · have hF := hF.1 hc
        exact hF
      · have hF := hF.2 hc
        refine lo_iconst (v := 0) dL_law_611 (by decide) ?_
        exact lo_no hF
theorem vlaw_613 (G : GP) (b N : Nat) (xs : Nat → Int32) (l3 : Int32) (m : Mem) (hF : vp_in (l3 + 1) N ∧ Evi G 12 mX11_hour [.ref (ga G 0), .int (xs (l3 + 1).toNatClampNeg)] m (fun r53 m54 => vp_in (l3 + 1) N ∧ Evi G 12 mX12_hour [.ref (ga G 273), .int (xs (l3 + 1).toNatClampNeg)] m54 (fun r55 m56 => ((r53 = r55) → Lw G b N xs 1569 [.ref b, .ref (ga G 0), .ref (ga G 273), .int l3] [] m56) ∧ ((¬ r53 = r55) → False)))) : Lw G b N xs 613 [.ref b, .ref (ga G 0), .ref (ga G 273), .int l3] [] m := by
  refine lo_aload_n dL_law_613 rfl ?_
  refine lo_aload_n dL_law_614 rfl ?_
  refine lo_iload_n dL_law_615 rfl ?_
  refine lo_iconst (v := 1) dL_law_616 (by decide) ?_
  refine lo_iadd dL_law_617 ?_
  obtain ⟨hi, hF⟩ := hF
  refine lo_sld dL_law_618 hi ?_
  refine lo_callV mX11_hour dL_law_619 ll_64 okX11_hour isX11_hour sh_0 rfl (As := [.int (xs (l3 + 1).toNatClampNeg)]) (S := []) rfl rfl (Nat.le_of_ble_eq_true rfl) hF (lk_i (fun r53 m54 hF => ?_))
  refine lo_aload_n dL_law_622 rfl ?_
  refine lo_aload_n dL_law_623 rfl ?_
  refine lo_iload_n dL_law_624 rfl ?_
  refine lo_iconst (v := 1) dL_law_625 (by decide) ?_
  refine lo_iadd dL_law_626 ?_
  obtain ⟨hi, hF⟩ := hF
  refine lo_sld dL_law_627 hi ?_
  refine lo_callV mX12_hour dL_law_628 ll_67 okX12_hour isX12_hour sh_273 rfl (As := [.int (xs (l3 + 1).toNatClampNeg)]) (S := [.int r53]) rfl rfl (Nat.le_of_ble_eq_true rfl) hF (lk_i (fun r55 m56 hF => ?_))
  refine lo_icmp_eq 1569 dL_law_631 rfl ⟨fun hc => ?_, fun hc => ?_⟩
  · have hF := hF.1 hc
    exact hF
  · have hF := hF.2 hc
    refine lo_iconst (v := 0) dL_law_634 (by decide) ?_
    exact lo_no hF
theorem vlaw_636 (G : GP) (b N : Nat) (xs : Nat → Int32) (l3 : Int32) (m : Mem) (hF : Evi G 12 mX11_sunday [.ref (ga G 0)] m (fun r57 m58 => Evi G 12 mX12_sunday [.ref (ga G 273)] m58 (fun r59 m60 => ((r57 = r59) → Lw G b N xs 1569 [.ref b, .ref (ga G 0), .ref (ga G 273), .int l3] [] m60) ∧ ((¬ r57 = r59) → False)))) : Lw G b N xs 636 [.ref b, .ref (ga G 0), .ref (ga G 273), .int l3] [] m := by
  refine lo_aload_n dL_law_636 rfl ?_
  refine lo_callV mX11_sunday dL_law_637 ll_68 okX11_sunday isX11_sunday sh_0 rfl (As := []) (S := []) rfl rfl (Nat.le_of_ble_eq_true rfl) hF (lk_i (fun r57 m58 hF => ?_))
  refine lo_aload_n dL_law_640 rfl ?_
  refine lo_callV mX12_sunday dL_law_641 ll_71 okX12_sunday isX12_sunday sh_273 rfl (As := []) (S := [.int r57]) rfl rfl (Nat.le_of_ble_eq_true rfl) hF (lk_i (fun r59 m60 hF => ?_))
  refine lo_icmp_eq 1569 dL_law_644 rfl ⟨fun hc => ?_, fun hc => ?_⟩
  · have hF := hF.1 hc
    exact hF
  · have hF := hF.2 hc
    refine lo_iconst (v := 0) dL_law_647 (by decide) ?_
    exact lo_no hF
theorem vlaw_649 (G : GP) (b N : Nat) (xs : Nat → Int32) (l3 : Int32) (m : Mem) (hF : vp_in (l3 + 1) N ∧ Evi G 12 mX11_played [.ref (ga G 0), .int (xs (l3 + 1).toNatClampNeg)] m (fun r61 m62 => vp_in (l3 + 1) N ∧ Evi G 12 mX12_played [.ref (ga G 273), .int (xs (l3 + 1).toNatClampNeg)] m62 (fun r63 m64 => ((r61 = r63) → Lw G b N xs 1569 [.ref b, .ref (ga G 0), .ref (ga G 273), .int l3] [] m64) ∧ ((¬ r61 = r63) → False)))) : Lw G b N xs 649 [.ref b, .ref (ga G 0), .ref (ga G 273), .int l3] [] m := by
  refine lo_aload_n dL_law_649 rfl ?_
  refine lo_aload_n dL_law_650 rfl ?_
  refine lo_iload_n dL_law_651 rfl ?_
  refine lo_iconst (v := 1) dL_law_652 (by decide) ?_
  refine lo_iadd dL_law_653 ?_
  obtain ⟨hi, hF⟩ := hF
  refine lo_sld dL_law_654 hi ?_
  refine lo_callV mX11_played dL_law_655 ll_72 okX11_played isX11_played sh_0 rfl (As := [.int (xs (l3 + 1).toNatClampNeg)]) (S := []) rfl rfl (Nat.le_of_ble_eq_true rfl) hF (lk_i (fun r61 m62 hF => ?_))
  refine lo_aload_n dL_law_658 rfl ?_
  refine lo_aload_n dL_law_659 rfl ?_
  refine lo_iload_n dL_law_660 rfl ?_
  refine lo_iconst (v := 1) dL_law_661 (by decide) ?_
  refine lo_iadd dL_law_662 ?_
  obtain ⟨hi, hF⟩ := hF
  refine lo_sld dL_law_663 hi ?_
  refine lo_callV mX12_played dL_law_664 ll_75 okX12_played isX12_played sh_273 rfl (As := [.int (xs (l3 + 1).toNatClampNeg)]) (S := [.int r61]) rfl rfl (Nat.le_of_ble_eq_true rfl) hF (lk_i (fun r63 m64 hF => ?_))
  refine lo_icmp_eq 1569 dL_law_667 rfl ⟨fun hc => ?_, fun hc => ?_⟩
  · have hF := hF.1 hc
    exact hF
  · have hF := hF.2 hc
    refine lo_iconst (v := 0) dL_law_670 (by decide) ?_
    exact lo_no hF
theorem vlaw_672 (G : GP) (b N : Nat) (xs : Nat → Int32) (l3 : Int32) (m : Mem) (hF : vp_in (l3 + 1) N ∧ vp_in (l3 + 2) N ∧ Evi G 12 mX11_centuries [.ref (ga G 0), .int (xs (l3 + 1).toNatClampNeg), .int (xs (l3 + 2).toNatClampNeg)] m (fun r65 m66 => vp_in (l3 + 1) N ∧ vp_in (l3 + 2) N ∧ Evi G 12 mX12_centuries [.ref (ga G 273), .int (xs (l3 + 1).toNatClampNeg), .int (xs (l3 + 2).toNatClampNeg)] m66 (fun r67 m68 => ((r65 = r67) → Lw G b N xs 1569 [.ref b, .ref (ga G 0), .ref (ga G 273), .int l3] [] m68) ∧ ((¬ r65 = r67) → False)))) : Lw G b N xs 672 [.ref b, .ref (ga G 0), .ref (ga G 273), .int l3] [] m := by
  refine lo_aload_n dL_law_672 rfl ?_
  refine lo_aload_n dL_law_673 rfl ?_
  refine lo_iload_n dL_law_674 rfl ?_
  refine lo_iconst (v := 1) dL_law_675 (by decide) ?_
  refine lo_iadd dL_law_676 ?_
  obtain ⟨hi, hF⟩ := hF
  refine lo_sld dL_law_677 hi ?_
  refine lo_aload_n dL_law_678 rfl ?_
  refine lo_iload_n dL_law_679 rfl ?_
  refine lo_iconst (v := 2) dL_law_680 (by decide) ?_
  refine lo_iadd dL_law_681 ?_
  obtain ⟨hi, hF⟩ := hF
  refine lo_sld dL_law_682 hi ?_
  refine lo_callV mX11_centuries dL_law_683 ll_76 okX11_centuries isX11_centuries sh_0 rfl (As := [.int (xs (l3 + 1).toNatClampNeg), .int (xs (l3 + 2).toNatClampNeg)]) (S := []) rfl rfl (Nat.le_of_ble_eq_true rfl) hF (lk_i (fun r65 m66 hF => ?_))
  refine lo_aload_n dL_law_686 rfl ?_
  refine lo_aload_n dL_law_687 rfl ?_
  refine lo_iload_n dL_law_688 rfl ?_
  refine lo_iconst (v := 1) dL_law_689 (by decide) ?_
  refine lo_iadd dL_law_690 ?_
  obtain ⟨hi, hF⟩ := hF
  refine lo_sld dL_law_691 hi ?_
  refine lo_aload_n dL_law_692 rfl ?_
  refine lo_iload_n dL_law_693 rfl ?_
  refine lo_iconst (v := 2) dL_law_694 (by decide) ?_
  refine lo_iadd dL_law_695 ?_
  obtain ⟨hi, hF⟩ := hF
  refine lo_sld dL_law_696 hi ?_
  refine lo_callV mX12_centuries dL_law_697 ll_80 okX12_centuries isX12_centuries sh_273 rfl (As := [.int (xs (l3 + 1).toNatClampNeg), .int (xs (l3 + 2).toNatClampNeg)]) (S := [.int r65]) rfl rfl (Nat.le_of_ble_eq_true rfl) hF (lk_i (fun r67 m68 hF => ?_))
  refine lo_icmp_eq 1569 dL_law_700 rfl ⟨fun hc => ?_, fun hc => ?_⟩
  · have hF := hF.1 hc
    exact hF
  · have hF := hF.2 hc
    refine lo_iconst (v := 0) dL_law_703 (by decide) ?_
    exact lo_no hF
theorem vlaw_705 (G : GP) (b N : Nat) (xs : Nat → Int32) (l3 : Int32) (m : Mem) (hF : Evi G 12 mX11_undo [.ref (ga G 0)] m (fun r69 m70 => Evi G 12 mX12_undo [.ref (ga G 273)] m70 (fun r71 m72 => ((r69 = r71) → Lw G b N xs 1569 [.ref b, .ref (ga G 0), .ref (ga G 273), .int l3] [] m72) ∧ ((¬ r69 = r71) → False)))) : Lw G b N xs 705 [.ref b, .ref (ga G 0), .ref (ga G 273), .int l3] [] m := by
  refine lo_aload_n dL_law_705 rfl ?_
  refine lo_callV mX11_undo dL_law_706 ll_81 okX11_undo isX11_undo sh_0 rfl (As := []) (S := []) rfl rfl (Nat.le_of_ble_eq_true rfl) hF (lk_i (fun r69 m70 hF => ?_))
  refine lo_aload_n dL_law_709 rfl ?_
  refine lo_callV mX12_undo dL_law_710 ll_84 okX12_undo isX12_undo sh_273 rfl (As := []) (S := [.int r69]) rfl rfl (Nat.le_of_ble_eq_true rfl) hF (lk_i (fun r71 m72 hF => ?_))
  refine lo_icmp_eq 1569 dL_law_713 rfl ⟨fun hc => ?_, fun hc => ?_⟩
  · have hF := hF.1 hc
    exact hF
  · have hF := hF.2 hc
    refine lo_iconst (v := 0) dL_law_716 (by decide) ?_
    exact lo_no hF
theorem vlaw_718 (G : GP) (b N : Nat) (xs : Nat → Int32) (l3 : Int32) (m : Mem) (hF : vp_in (l3 + 1) N ∧ vp_in (l3 + 2) N ∧ Evi G 12 mX11_ofBell [.ref (ga G 0), .int (xs (l3 + 1).toNatClampNeg), .int (xs (l3 + 2).toNatClampNeg)] m (fun r73 m74 => vp_in (l3 + 1) N ∧ vp_in (l3 + 2) N ∧ Evi G 12 mX12_ofBell [.ref (ga G 273), .int (xs (l3 + 1).toNatClampNeg), .int (xs (l3 + 2).toNatClampNeg)] m74 (fun r75 m76 => ((r73 = r75) → Lw G b N xs 1569 [.ref b, .ref (ga G 0), .ref (ga G 273), .int l3] [] m76) ∧ ((¬ r73 = r75) → False)))) : Lw G b N xs 718 [.ref b, .ref (ga G 0), .ref (ga G 273), .int l3] [] m := by
  refine lo_aload_n dL_law_718 rfl ?_
  refine lo_aload_n dL_law_719 rfl ?_
  refine lo_iload_n dL_law_720 rfl ?_
  refine lo_iconst (v := 1) dL_law_721 (by decide) ?_
  refine lo_iadd dL_law_722 ?_
  obtain ⟨hi, hF⟩ := hF
  refine lo_sld dL_law_723 hi ?_
  refine lo_aload_n dL_law_724 rfl ?_
  refine lo_iload_n dL_law_725 rfl ?_
  refine lo_iconst (v := 2) dL_law_726 (by decide) ?_
  refine lo_iadd dL_law_727 ?_
  obtain ⟨hi, hF⟩ := hF
  refine lo_sld dL_law_728 hi ?_
  refine lo_callV mX11_ofBell dL_law_729 ll_85 okX11_ofBell isX11_ofBell sh_0 rfl (As := [.int (xs (l3 + 1).toNatClampNeg), .int (xs (l3 + 2).toNatClampNeg)]) (S := []) rfl rfl (Nat.le_of_ble_eq_true rfl) hF (lk_i (fun r73 m74 hF => ?_))
  refine lo_aload_n dL_law_732 rfl ?_
  refine lo_aload_n dL_law_733 rfl ?_
  refine lo_iload_n dL_law_734 rfl ?_
  refine lo_iconst (v := 1) dL_law_735 (by decide) ?_
  refine lo_iadd dL_law_736 ?_
  obtain ⟨hi, hF⟩ := hF
  refine lo_sld dL_law_737 hi ?_
  refine lo_aload_n dL_law_738 rfl ?_
  refine lo_iload_n dL_law_739 rfl ?_
  refine lo_iconst (v := 2) dL_law_740 (by decide) ?_
  refine lo_iadd dL_law_741 ?_
  obtain ⟨hi, hF⟩ := hF
  refine lo_sld dL_law_742 hi ?_
  refine lo_callV mX12_ofBell dL_law_743 ll_88 okX12_ofBell isX12_ofBell sh_273 rfl (As := [.int (xs (l3 + 1).toNatClampNeg), .int (xs (l3 + 2).toNatClampNeg)]) (S := [.int r73]) rfl rfl (Nat.le_of_ble_eq_true rfl) hF (lk_i (fun r75 m76 hF => ?_))
  refine lo_icmp_eq 1569 dL_law_746 rfl ⟨fun hc => ?_, fun hc => ?_⟩
  · have hF := hF.1 hc
    exact hF
  · have hF := hF.2 hc
    refine lo_iconst (v := 0) dL_law_749 (by decide) ?_
    exact lo_no hF
theorem vlaw_751 (G : GP) (b N : Nat) (xs : Nat → Int32) (l3 : Int32) (m : Mem) (hF : vp_in (l3 + 1) N ∧ vp_in (l3 + 2) N ∧ Evi G 12 mX11_ofWord [.ref (ga G 0), .int (xs (l3 + 1).toNatClampNeg), .int (xs (l3 + 2).toNatClampNeg)] m (fun r77 m78 => vp_in (l3 + 1) N ∧ vp_in (l3 + 2) N ∧ Evi G 12 mX12_ofWord [.ref (ga G 273), .int (xs (l3 + 1).toNatClampNeg), .int (xs (l3 + 2).toNatClampNeg)] m78 (fun r79 m80 => ((r77 = r79) → Lw G b N xs 1569 [.ref b, .ref (ga G 0), .ref (ga G 273), .int l3] [] m80) ∧ ((¬ r77 = r79) → False)))) : Lw G b N xs 751 [.ref b, .ref (ga G 0), .ref (ga G 273), .int l3] [] m := by
  refine lo_aload_n dL_law_751 rfl ?_
  refine lo_aload_n dL_law_752 rfl ?_
  refine lo_iload_n dL_law_753 rfl ?_
  refine lo_iconst (v := 1) dL_law_754 (by decide) ?_
  refine lo_iadd dL_law_755 ?_
  obtain ⟨hi, hF⟩ := hF
  refine lo_sld dL_law_756 hi ?_
  refine lo_aload_n dL_law_757 rfl ?_
  refine lo_iload_n dL_law_758 rfl ?_
  refine lo_iconst (v := 2) dL_law_759 (by decide) ?_
  refine lo_iadd dL_law_760 ?_
  obtain ⟨hi, hF⟩ := hF
  refine lo_sld dL_law_761 hi ?_
  refine lo_callV mX11_ofWord dL_law_762 ll_89 okX11_ofWord isX11_ofWord sh_0 rfl (As := [.int (xs (l3 + 1).toNatClampNeg), .int (xs (l3 + 2).toNatClampNeg)]) (S := []) rfl rfl (Nat.le_of_ble_eq_true rfl) hF (lk_i (fun r77 m78 hF => ?_))
  refine lo_aload_n dL_law_765 rfl ?_
  refine lo_aload_n dL_law_766 rfl ?_
  refine lo_iload_n dL_law_767 rfl ?_
  refine lo_iconst (v := 1) dL_law_768 (by decide) ?_
  refine lo_iadd dL_law_769 ?_
  obtain ⟨hi, hF⟩ := hF
  refine lo_sld dL_law_770 hi ?_
  refine lo_aload_n dL_law_771 rfl ?_
  refine lo_iload_n dL_law_772 rfl ?_
  refine lo_iconst (v := 2) dL_law_773 (by decide) ?_
  refine lo_iadd dL_law_774 ?_
  obtain ⟨hi, hF⟩ := hF
  refine lo_sld dL_law_775 hi ?_
  refine lo_callV mX12_ofWord dL_law_776 ll_92 okX12_ofWord isX12_ofWord sh_273 rfl (As := [.int (xs (l3 + 1).toNatClampNeg), .int (xs (l3 + 2).toNatClampNeg)]) (S := [.int r77]) rfl rfl (Nat.le_of_ble_eq_true rfl) hF (lk_i (fun r79 m80 hF => ?_))
  refine lo_icmp_eq 1569 dL_law_779 rfl ⟨fun hc => ?_, fun hc => ?_⟩
  · have hF := hF.1 hc
    exact hF
  · have hF := hF.2 hc
    refine lo_iconst (v := 0) dL_law_782 (by decide) ?_
    exact lo_no hF
theorem vlaw_784 (G : GP) (b N : Nat) (xs : Nat → Int32) (l3 : Int32) (m : Mem) (hF : vp_in (l3 + 1) N ∧ Evi G 12 mX11_is [.ref (ga G 0), .int (xs (l3 + 1).toNatClampNeg)] m (fun r81 m82 => vp_in (l3 + 1) N ∧ Evi G 12 mX12_is [.ref (ga G 273), .int (xs (l3 + 1).toNatClampNeg)] m82 (fun r83 m84 => ((r81 = r83) → Lw G b N xs 1569 [.ref b, .ref (ga G 0), .ref (ga G 273), .int l3] [] m84) ∧ ((¬ r81 = r83) → False)))) : Lw G b N xs 784 [.ref b, .ref (ga G 0), .ref (ga G 273), .int l3] [] m := by
  refine lo_aload_n dL_law_784 rfl ?_
  refine lo_aload_n dL_law_785 rfl ?_
  refine lo_iload_n dL_law_786 rfl ?_
  refine lo_iconst (v := 1) dL_law_787 (by decide) ?_
  refine lo_iadd dL_law_788 ?_
  obtain ⟨hi, hF⟩ := hF
  refine lo_sld dL_law_789 hi ?_
  refine lo_callV mX11_is dL_law_790 ll_93 okX11_is isX11_is sh_0 rfl (As := [.int (xs (l3 + 1).toNatClampNeg)]) (S := []) rfl rfl (Nat.le_of_ble_eq_true rfl) hF (lk_i (fun r81 m82 hF => ?_))
  refine lo_aload_n dL_law_793 rfl ?_
  refine lo_aload_n dL_law_794 rfl ?_
  refine lo_iload_n dL_law_795 rfl ?_
  refine lo_iconst (v := 1) dL_law_796 (by decide) ?_
  refine lo_iadd dL_law_797 ?_
  obtain ⟨hi, hF⟩ := hF
  refine lo_sld dL_law_798 hi ?_
  refine lo_callV mX12_is dL_law_799 ll_96 okX12_is isX12_is sh_273 rfl (As := [.int (xs (l3 + 1).toNatClampNeg)]) (S := [.int r81]) rfl rfl (Nat.le_of_ble_eq_true rfl) hF (lk_i (fun r83 m84 hF => ?_))
  refine lo_icmp_eq 1569 dL_law_802 rfl ⟨fun hc => ?_, fun hc => ?_⟩
  · have hF := hF.1 hc
    exact hF
  · have hF := hF.2 hc
    refine lo_iconst (v := 0) dL_law_805 (by decide) ?_
    exact lo_no hF
theorem vlaw_807 (G : GP) (b N : Nat) (xs : Nat → Int32) (l3 : Int32) (m : Mem) (hF : vp_in (l3 + 1) N ∧ Evi G 12 mX11_rung [.ref (ga G 0), .int (xs (l3 + 1).toNatClampNeg)] m (fun r85 m86 => vp_in (l3 + 1) N ∧ Evi G 12 mX12_rung [.ref (ga G 273), .int (xs (l3 + 1).toNatClampNeg)] m86 (fun r87 m88 => ((r85 = r87) → Lw G b N xs 1569 [.ref b, .ref (ga G 0), .ref (ga G 273), .int l3] [] m88) ∧ ((¬ r85 = r87) → False)))) : Lw G b N xs 807 [.ref b, .ref (ga G 0), .ref (ga G 273), .int l3] [] m := by
  refine lo_aload_n dL_law_807 rfl ?_
  refine lo_aload_n dL_law_808 rfl ?_
  refine lo_iload_n dL_law_809 rfl ?_
  refine lo_iconst (v := 1) dL_law_810 (by decide) ?_
  refine lo_iadd dL_law_811 ?_
  obtain ⟨hi, hF⟩ := hF
  refine lo_sld dL_law_812 hi ?_
  refine lo_callV mX11_rung dL_law_813 ll_97 okX11_rung isX11_rung sh_0 rfl (As := [.int (xs (l3 + 1).toNatClampNeg)]) (S := []) rfl rfl (Nat.le_of_ble_eq_true rfl) hF (lk_i (fun r85 m86 hF => ?_))
  refine lo_aload_n dL_law_816 rfl ?_
  refine lo_aload_n dL_law_817 rfl ?_
  refine lo_iload_n dL_law_818 rfl ?_
  refine lo_iconst (v := 1) dL_law_819 (by decide) ?_
  refine lo_iadd dL_law_820 ?_
  obtain ⟨hi, hF⟩ := hF
  refine lo_sld dL_law_821 hi ?_
  refine lo_callV mX12_rung dL_law_822 ll_100 okX12_rung isX12_rung sh_273 rfl (As := [.int (xs (l3 + 1).toNatClampNeg)]) (S := [.int r85]) rfl rfl (Nat.le_of_ble_eq_true rfl) hF (lk_i (fun r87 m88 hF => ?_))
  refine lo_icmp_eq 1569 dL_law_825 rfl ⟨fun hc => ?_, fun hc => ?_⟩
  · have hF := hF.1 hc
    exact hF
  · have hF := hF.2 hc
    refine lo_iconst (v := 0) dL_law_828 (by decide) ?_
    exact lo_no hF
theorem vlaw_830 (G : GP) (b N : Nat) (xs : Nat → Int32) (l3 : Int32) (m : Mem) (hF : vp_in (l3 + 1) N ∧ Evi G 12 mX11_heard [.ref (ga G 0), .int (xs (l3 + 1).toNatClampNeg)] m (fun r89 m90 => vp_in (l3 + 1) N ∧ Evi G 12 mX12_heard [.ref (ga G 273), .int (xs (l3 + 1).toNatClampNeg)] m90 (fun r91 m92 => ((r89 = r91) → Lw G b N xs 1569 [.ref b, .ref (ga G 0), .ref (ga G 273), .int l3] [] m92) ∧ ((¬ r89 = r91) → False)))) : Lw G b N xs 830 [.ref b, .ref (ga G 0), .ref (ga G 273), .int l3] [] m := by
  refine lo_aload_n dL_law_830 rfl ?_
  refine lo_aload_n dL_law_831 rfl ?_
  refine lo_iload_n dL_law_832 rfl ?_
  refine lo_iconst (v := 1) dL_law_833 (by decide) ?_
  refine lo_iadd dL_law_834 ?_
  obtain ⟨hi, hF⟩ := hF
  refine lo_sld dL_law_835 hi ?_
  refine lo_callV mX11_heard dL_law_836 ll_101 okX11_heard isX11_heard sh_0 rfl (As := [.int (xs (l3 + 1).toNatClampNeg)]) (S := []) rfl rfl (Nat.le_of_ble_eq_true rfl) hF (lk_i (fun r89 m90 hF => ?_))
  refine lo_aload_n dL_law_839 rfl ?_
  refine lo_aload_n dL_law_840 rfl ?_
  refine lo_iload_n dL_law_841 rfl ?_
  refine lo_iconst (v := 1) dL_law_842 (by decide) ?_
  refine lo_iadd dL_law_843 ?_
  obtain ⟨hi, hF⟩ := hF
  refine lo_sld dL_law_844 hi ?_
  refine lo_callV mX12_heard dL_law_845 ll_104 okX12_heard isX12_heard sh_273 rfl (As := [.int (xs (l3 + 1).toNatClampNeg)]) (S := [.int r89]) rfl rfl (Nat.le_of_ble_eq_true rfl) hF (lk_i (fun r91 m92 hF => ?_))
  refine lo_icmp_eq 1569 dL_law_848 rfl ⟨fun hc => ?_, fun hc => ?_⟩
  · have hF := hF.1 hc
    exact hF
  · have hF := hF.2 hc
    refine lo_iconst (v := 0) dL_law_851 (by decide) ?_
    exact lo_no hF
theorem vlaw_853 (G : GP) (b N : Nat) (xs : Nat → Int32) (l3 : Int32) (m : Mem) (hF : vp_in (l3 + 1) N ∧ vp_in (l3 + 2) N ∧ Evi G 12 mX11_book [.ref (ga G 0), .int (xs (l3 + 1).toNatClampNeg), .int (xs (l3 + 2).toNatClampNeg)] m (fun r93 m94 => vp_in (l3 + 1) N ∧ vp_in (l3 + 2) N ∧ Evi G 12 mX12_book [.ref (ga G 273), .int (xs (l3 + 1).toNatClampNeg), .int (xs (l3 + 2).toNatClampNeg)] m94 (fun r95 m96 => ((r93 = r95) → Lw G b N xs 1569 [.ref b, .ref (ga G 0), .ref (ga G 273), .int l3] [] m96) ∧ ((¬ r93 = r95) → False)))) : Lw G b N xs 853 [.ref b, .ref (ga G 0), .ref (ga G 273), .int l3] [] m := by
  refine lo_aload_n dL_law_853 rfl ?_
  refine lo_aload_n dL_law_854 rfl ?_
  refine lo_iload_n dL_law_855 rfl ?_
  refine lo_iconst (v := 1) dL_law_856 (by decide) ?_
  refine lo_iadd dL_law_857 ?_
  obtain ⟨hi, hF⟩ := hF
  refine lo_sld dL_law_858 hi ?_
  refine lo_aload_n dL_law_859 rfl ?_
  refine lo_iload_n dL_law_860 rfl ?_
  refine lo_iconst (v := 2) dL_law_861 (by decide) ?_
  refine lo_iadd dL_law_862 ?_
  obtain ⟨hi, hF⟩ := hF
  refine lo_sld dL_law_863 hi ?_
  refine lo_callV mX11_book dL_law_864 ll_105 okX11_book isX11_book sh_0 rfl (As := [.int (xs (l3 + 1).toNatClampNeg), .int (xs (l3 + 2).toNatClampNeg)]) (S := []) rfl rfl (Nat.le_of_ble_eq_true rfl) hF (lk_i (fun r93 m94 hF => ?_))
  refine lo_aload_n dL_law_867 rfl ?_
  refine lo_aload_n dL_law_868 rfl ?_
  refine lo_iload_n dL_law_869 rfl ?_
  refine lo_iconst (v := 1) dL_law_870 (by decide) ?_
  refine lo_iadd dL_law_871 ?_
  obtain ⟨hi, hF⟩ := hF
  refine lo_sld dL_law_872 hi ?_
  refine lo_aload_n dL_law_873 rfl ?_
  refine lo_iload_n dL_law_874 rfl ?_
  refine lo_iconst (v := 2) dL_law_875 (by decide) ?_
  refine lo_iadd dL_law_876 ?_
  obtain ⟨hi, hF⟩ := hF
  refine lo_sld dL_law_877 hi ?_
  refine lo_callV mX12_book dL_law_878 ll_108 okX12_book isX12_book sh_273 rfl (As := [.int (xs (l3 + 1).toNatClampNeg), .int (xs (l3 + 2).toNatClampNeg)]) (S := [.int r93]) rfl rfl (Nat.le_of_ble_eq_true rfl) hF (lk_i (fun r95 m96 hF => ?_))
  refine lo_icmp_eq 1569 dL_law_881 rfl ⟨fun hc => ?_, fun hc => ?_⟩
  · have hF := hF.1 hc
    exact hF
  · have hF := hF.2 hc
    refine lo_iconst (v := 0) dL_law_884 (by decide) ?_
    exact lo_no hF
theorem vlaw_886 (G : GP) (b N : Nat) (xs : Nat → Int32) (l3 : Int32) (m : Mem) (hF : vp_in (l3 + 1) N ∧ (((xs (l3 + 1).toNatClampNeg) = 0) → Evi G 12 mX11_readings [.ref (ga G 0), .int 0] m (fun r97 m98 => vp_in (l3 + 1) N ∧ (((xs (l3 + 1).toNatClampNeg) = 0) → Evi G 12 mX12_readings [.ref (ga G 273), .int 0] m98 (fun r99 m100 => ((r97 = r99) → Lw G b N xs 1569 [.ref b, .ref (ga G 0), .ref (ga G 273), .int l3] [] m100) ∧ ((¬ r97 = r99) → False))) ∧ ((¬ (xs (l3 + 1).toNatClampNeg) = 0) → Evi G 12 mX12_readings [.ref (ga G 273), .int 1] m98 (fun r101 m102 => ((r97 = r101) → Lw G b N xs 1569 [.ref b, .ref (ga G 0), .ref (ga G 273), .int l3] [] m102) ∧ ((¬ r97 = r101) → False))))) ∧ ((¬ (xs (l3 + 1).toNatClampNeg) = 0) → Evi G 12 mX11_readings [.ref (ga G 0), .int 1] m (fun r103 m104 => vp_in (l3 + 1) N ∧ (((xs (l3 + 1).toNatClampNeg) = 0) → Evi G 12 mX12_readings [.ref (ga G 273), .int 0] m104 (fun r105 m106 => ((r103 = r105) → Lw G b N xs 1569 [.ref b, .ref (ga G 0), .ref (ga G 273), .int l3] [] m106) ∧ ((¬ r103 = r105) → False))) ∧ ((¬ (xs (l3 + 1).toNatClampNeg) = 0) → Evi G 12 mX12_readings [.ref (ga G 273), .int 1] m104 (fun r107 m108 => ((r103 = r107) → Lw G b N xs 1569 [.ref b, .ref (ga G 0), .ref (ga G 273), .int l3] [] m108) ∧ ((¬ r103 = r107) → False)))))) : Lw G b N xs 886 [.ref b, .ref (ga G 0), .ref (ga G 273), .int l3] [] m := by
  refine lo_aload_n dL_law_886 rfl ?_
  refine lo_aload_n dL_law_887 rfl ?_
  refine lo_iload_n dL_law_888 rfl ?_
  refine lo_iconst (v := 1) dL_law_889 (by decide) ?_
  refine lo_iadd dL_law_890 ?_
  obtain ⟨hi, hF⟩ := hF
  refine lo_sld dL_law_891 hi ?_
  refine lo_if_eq 899 dL_law_892 rfl ⟨fun hc => ?_, fun hc => ?_⟩
  · have hF := hF.1 hc
    refine lo_iconst (v := 0) dL_law_899 (by decide) ?_
    refine lo_callV mX11_readings dL_law_900 ll_109 okX11_readings isX11_readings sh_0 rfl (As := [.int 0]) (S := []) rfl rfl (Nat.le_of_ble_eq_true rfl) hF (lk_i (fun r97 m98 hF => ?_))
    refine lo_aload_n dL_law_903 rfl ?_
    refine lo_aload_n dL_law_904 rfl ?_
    refine lo_iload_n dL_law_905 rfl ?_
    refine lo_iconst (v := 1) dL_law_906 (by decide) ?_
    refine lo_iadd dL_law_907 ?_
    obtain ⟨hi, hF⟩ := hF
    refine lo_sld dL_law_908 hi ?_
    refine lo_if_eq 916 dL_law_909 rfl ⟨fun hc => ?_, fun hc => ?_⟩
    · have hF := hF.1 hc
      refine lo_iconst (v := 0) dL_law_916 (by decide) ?_
      refine lo_callV mX12_readings dL_law_917 ll_113 okX12_readings isX12_readings sh_273 rfl (As := [.int 0]) (S := [.int r97]) rfl rfl (Nat.le_of_ble_eq_true rfl) hF (lk_i (fun r99 m100 hF => ?_))
      refine lo_icmp_eq 1569 dL_law_920 rfl ⟨fun hc => ?_, fun hc => ?_⟩
      · have hF := hF.1 hc
        exact hF
      · have hF := hF.2 hc
        refine lo_iconst (v := 0) dL_law_923 (by decide) ?_
        exact lo_no hF
    · have hF := hF.2 hc
      refine lo_iconst (v := 1) dL_law_912 (by decide) ?_
      refine lo_goto 917 dL_law_913 rfl ?_
      refine lo_callV mX12_readings dL_law_917 ll_113 okX12_readings isX12_readings sh_273 rfl (As := [.int 1]) (S := [.int r97]) rfl rfl (Nat.le_of_ble_eq_true rfl) hF (lk_i (fun r101 m102 hF => ?_))
      refine lo_icmp_eq 1569 dL_law_920 rfl ⟨fun hc => ?_, fun hc => ?_⟩
      · have hF := hF.1 hc
        exact hF
      · have hF := hF.2 hc
        refine lo_iconst (v := 0) dL_law_923 (by decide) ?_
        exact lo_no hF
  · have hF := hF.2 hc
    refine lo_iconst (v := 1) dL_law_895 (by decide) ?_
    refine lo_goto 900 dL_law_896 rfl ?_
    refine lo_callV mX11_readings dL_law_900 ll_109 okX11_readings isX11_readings sh_0 rfl (As := [.int 1]) (S := []) rfl rfl (Nat.le_of_ble_eq_true rfl) hF (lk_i (fun r103 m104 hF => ?_))
    refine lo_aload_n dL_law_903 rfl ?_
    refine lo_aload_n dL_law_904 rfl ?_
    refine lo_iload_n dL_law_905 rfl ?_
    refine lo_iconst (v := 1) dL_law_906 (by decide) ?_
    refine lo_iadd dL_law_907 ?_
    obtain ⟨hi, hF⟩ := hF
    refine lo_sld dL_law_908 hi ?_
    refine lo_if_eq 916 dL_law_909 rfl ⟨fun hc => ?_, fun hc => ?_⟩
    · have hF := hF.1 hc
      refine lo_iconst (v := 0) dL_law_916 (by decide) ?_
      refine lo_callV mX12_readings dL_law_917 ll_113 okX12_readings isX12_readings sh_273 rfl (As := [.int 0]) (S := [.int r103]) rfl rfl (Nat.le_of_ble_eq_true rfl) hF (lk_i (fun r105 m106 hF => ?_))
      refine lo_icmp_eq 1569 dL_law_920 rfl ⟨fun hc => ?_, fun hc => ?_⟩
      · have hF := hF.1 hc
        exact hF
      · have hF := hF.2 hc
        refine lo_iconst (v := 0) dL_law_923 (by decide) ?_
        exact lo_no hF
    · have hF := hF.2 hc
      refine lo_iconst (v := 1) dL_law_912 (by decide) ?_
      refine lo_goto 917 dL_law_913 rfl ?_
      refine lo_callV mX12_readings dL_law_917 ll_113 okX12_readings isX12_readings sh_273 rfl (As := [.int 1]) (S := [.int r103]) rfl rfl (Nat.le_of_ble_eq_true rfl) hF (lk_i (fun r107 m108 hF => ?_))
      refine lo_icmp_eq 1569 dL_law_920 rfl ⟨fun hc => ?_, fun hc => ?_⟩
      · have hF := hF.1 hc
        exact hF
      · have hF := hF.2 hc
        refine lo_iconst (v := 0) dL_law_923 (by decide) ?_
        exact lo_no hF
theorem vlaw_925 (G : GP) (b N : Nat) (xs : Nat → Int32) (l3 : Int32) (m : Mem) (hF : vp_in (l3 + 1) N ∧ (((xs (l3 + 1).toNatClampNeg) = 0) → vp_in (l3 + 2) N ∧ Evi G 12 mX11_reading [.ref (ga G 0), .int 0, .int (xs (l3 + 2).toNatClampNeg)] m (fun r109 m110 => vp_in (l3 + 1) N ∧ (((xs (l3 + 1).toNatClampNeg) = 0) → vp_in (l3 + 2) N ∧ Evi G 12 mX12_reading [.ref (ga G 273), .int 0, .int (xs (l3 + 2).toNatClampNeg)] m110 (fun r111 m112 => ((r109 = r111) → Lw G b N xs 1569 [.ref b, .ref (ga G 0), .ref (ga G 273), .int l3] [] m112) ∧ ((¬ r109 = r111) → False))) ∧ ((¬ (xs (l3 + 1).toNatClampNeg) = 0) → vp_in (l3 + 2) N ∧ Evi G 12 mX12_reading [.ref (ga G 273), .int 1, .int (xs (l3 + 2).toNatClampNeg)] m110 (fun r113 m114 => ((r109 = r113) → Lw G b N xs 1569 [.ref b, .ref (ga G 0), .ref (ga G 273), .int l3] [] m114) ∧ ((¬ r109 = r113) → False))))) ∧ ((¬ (xs (l3 + 1).toNatClampNeg) = 0) → vp_in (l3 + 2) N ∧ Evi G 12 mX11_reading [.ref (ga G 0), .int 1, .int (xs (l3 + 2).toNatClampNeg)] m (fun r115 m116 => vp_in (l3 + 1) N ∧ (((xs (l3 + 1).toNatClampNeg) = 0) → vp_in (l3 + 2) N ∧ Evi G 12 mX12_reading [.ref (ga G 273), .int 0, .int (xs (l3 + 2).toNatClampNeg)] m116 (fun r117 m118 => ((r115 = r117) → Lw G b N xs 1569 [.ref b, .ref (ga G 0), .ref (ga G 273), .int l3] [] m118) ∧ ((¬ r115 = r117) → False))) ∧ ((¬ (xs (l3 + 1).toNatClampNeg) = 0) → vp_in (l3 + 2) N ∧ Evi G 12 mX12_reading [.ref (ga G 273), .int 1, .int (xs (l3 + 2).toNatClampNeg)] m116 (fun r119 m120 => ((r115 = r119) → Lw G b N xs 1569 [.ref b, .ref (ga G 0), .ref (ga G 273), .int l3] [] m120) ∧ ((¬ r115 = r119) → False)))))) : Lw G b N xs 925 [.ref b, .ref (ga G 0), .ref (ga G 273), .int l3] [] m := by
  refine lo_aload_n dL_law_925 rfl ?_
  refine lo_aload_n dL_law_926 rfl ?_
  refine lo_iload_n dL_law_927 rfl ?_
  refine lo_iconst (v := 1) dL_law_928 (by decide) ?_
  refine lo_iadd dL_law_929 ?_
  obtain ⟨hi, hF⟩ := hF
  refine lo_sld dL_law_930 hi ?_
  refine lo_if_eq 938 dL_law_931 rfl ⟨fun hc => ?_, fun hc => ?_⟩
  · have hF := hF.1 hc
    refine lo_iconst (v := 0) dL_law_938 (by decide) ?_
    refine lo_aload_n dL_law_939 rfl ?_
    refine lo_iload_n dL_law_940 rfl ?_
    refine lo_iconst (v := 2) dL_law_941 (by decide) ?_
    refine lo_iadd dL_law_942 ?_
    obtain ⟨hi, hF⟩ := hF
    refine lo_sld dL_law_943 hi ?_
    refine lo_callV mX11_reading dL_law_944 ll_114 okX11_reading isX11_reading sh_0 rfl (As := [.int 0, .int (xs (l3 + 2).toNatClampNeg)]) (S := []) rfl rfl (Nat.le_of_ble_eq_true rfl) hF (lk_i (fun r109 m110 hF => ?_))
    refine lo_aload_n dL_law_947 rfl ?_
    refine lo_aload_n dL_law_948 rfl ?_
    refine lo_iload_n dL_law_949 rfl ?_
    refine lo_iconst (v := 1) dL_law_950 (by decide) ?_
    refine lo_iadd dL_law_951 ?_
    obtain ⟨hi, hF⟩ := hF
    refine lo_sld dL_law_952 hi ?_
    refine lo_if_eq 960 dL_law_953 rfl ⟨fun hc => ?_, fun hc => ?_⟩
    · have hF := hF.1 hc
      refine lo_iconst (v := 0) dL_law_960 (by decide) ?_
      refine lo_aload_n dL_law_961 rfl ?_
      refine lo_iload_n dL_law_962 rfl ?_
      refine lo_iconst (v := 2) dL_law_963 (by decide) ?_
      refine lo_iadd dL_law_964 ?_
      obtain ⟨hi, hF⟩ := hF
      refine lo_sld dL_law_965 hi ?_
      refine lo_callV mX12_reading dL_law_966 ll_118 okX12_reading isX12_reading sh_273 rfl (As := [.int 0, .int (xs (l3 + 2).toNatClampNeg)]) (S := [.int r109]) rfl rfl (Nat.le_of_ble_eq_true rfl) hF (lk_i (fun r111 m112 hF => ?_))
      refine lo_icmp_eq 1569 dL_law_969 rfl ⟨fun hc => ?_, fun hc => ?_⟩
      · have hF := hF.1 hc
        exact hF
      · have hF := hF.2 hc
        refine lo_iconst (v := 0) dL_law_972 (by decide) ?_
        exact lo_no hF
    · have hF := hF.2 hc
      refine lo_iconst (v := 1) dL_law_956 (by decide) ?_
      refine lo_goto 961 dL_law_957 rfl ?_
      refine lo_aload_n dL_law_961 rfl ?_
      refine lo_iload_n dL_law_962 rfl ?_
      refine lo_iconst (v := 2) dL_law_963 (by decide) ?_
      refine lo_iadd dL_law_964 ?_
      obtain ⟨hi, hF⟩ := hF
      refine lo_sld dL_law_965 hi ?_
      refine lo_callV mX12_reading dL_law_966 ll_118 okX12_reading isX12_reading sh_273 rfl (As := [.int 1, .int (xs (l3 + 2).toNatClampNeg)]) (S := [.int r109]) rfl rfl (Nat.le_of_ble_eq_true rfl) hF (lk_i (fun r113 m114 hF => ?_))
      refine lo_icmp_eq 1569 dL_law_969 rfl ⟨fun hc => ?_, fun hc => ?_⟩
      · have hF := hF.1 hc
        exact hF
      · have hF := hF.2 hc
        refine lo_iconst (v := 0) dL_law_972 (by decide) ?_
        exact lo_no hF
  · have hF := hF.2 hc
    refine lo_iconst (v := 1) dL_law_934 (by decide) ?_
    refine lo_goto 939 dL_law_935 rfl ?_
    refine lo_aload_n dL_law_939 rfl ?_
    refine lo_iload_n dL_law_940 rfl ?_
    refine lo_iconst (v := 2) dL_law_941 (by decide) ?_
    refine lo_iadd dL_law_942 ?_
    obtain ⟨hi, hF⟩ := hF
    refine lo_sld dL_law_943 hi ?_
    refine lo_callV mX11_reading dL_law_944 ll_114 okX11_reading isX11_reading sh_0 rfl (As := [.int 1, .int (xs (l3 + 2).toNatClampNeg)]) (S := []) rfl rfl (Nat.le_of_ble_eq_true rfl) hF (lk_i (fun r115 m116 hF => ?_))
    refine lo_aload_n dL_law_947 rfl ?_
    refine lo_aload_n dL_law_948 rfl ?_
    refine lo_iload_n dL_law_949 rfl ?_
    refine lo_iconst (v := 1) dL_law_950 (by decide) ?_
    refine lo_iadd dL_law_951 ?_
    obtain ⟨hi, hF⟩ := hF
    refine lo_sld dL_law_952 hi ?_
    refine lo_if_eq 960 dL_law_953 rfl ⟨fun hc => ?_, fun hc => ?_⟩
    · have hF := hF.1 hc
      refine lo_iconst (v := 0) dL_law_960 (by decide) ?_
      refine lo_aload_n dL_law_961 rfl ?_
      refine lo_iload_n dL_law_962 rfl ?_
      refine lo_iconst (v := 2) dL_law_963 (by decide) ?_
      refine lo_iadd dL_law_964 ?_
      obtain ⟨hi, hF⟩ := hF
      refine lo_sld dL_law_965 hi ?_
      refine lo_callV mX12_reading dL_law_966 ll_118 okX12_reading isX12_reading sh_273 rfl (As := [.int 0, .int (xs (l3 + 2).toNatClampNeg)]) (S := [.int r115]) rfl rfl (Nat.le_of_ble_eq_true rfl) hF (lk_i (fun r117 m118 hF => ?_))
      refine lo_icmp_eq 1569 dL_law_969 rfl ⟨fun hc => ?_, fun hc => ?_⟩
      · have hF := hF.1 hc
        exact hF
      · have hF := hF.2 hc
        refine lo_iconst (v := 0) dL_law_972 (by decide) ?_
        exact lo_no hF
    · have hF := hF.2 hc
      refine lo_iconst (v := 1) dL_law_956 (by decide) ?_
      refine lo_goto 961 dL_law_957 rfl ?_
      refine lo_aload_n dL_law_961 rfl ?_
      refine lo_iload_n dL_law_962 rfl ?_
      refine lo_iconst (v := 2) dL_law_963 (by decide) ?_
      refine lo_iadd dL_law_964 ?_
      obtain ⟨hi, hF⟩ := hF
      refine lo_sld dL_law_965 hi ?_
      refine lo_callV mX12_reading dL_law_966 ll_118 okX12_reading isX12_reading sh_273 rfl (As := [.int 1, .int (xs (l3 + 2).toNatClampNeg)]) (S := [.int r115]) rfl rfl (Nat.le_of_ble_eq_true rfl) hF (lk_i (fun r119 m120 hF => ?_))
      refine lo_icmp_eq 1569 dL_law_969 rfl ⟨fun hc => ?_, fun hc => ?_⟩
      · have hF := hF.1 hc
        exact hF
      · have hF := hF.2 hc
        refine lo_iconst (v := 0) dL_law_972 (by decide) ?_
        exact lo_no hF
theorem vlaw_974 (G : GP) (b N : Nat) (xs : Nat → Int32) (l3 : Int32) (m : Mem) (hF : vp_in (l3 + 1) N ∧ vp_in (l3 + 2) N ∧ Evi G 12 mX11_weight [.ref (ga G 0), .int (xs (l3 + 1).toNatClampNeg), .int (xs (l3 + 2).toNatClampNeg)] m (fun r121 m122 => vp_in (l3 + 1) N ∧ vp_in (l3 + 2) N ∧ Evi G 12 mX12_weight [.ref (ga G 273), .int (xs (l3 + 1).toNatClampNeg), .int (xs (l3 + 2).toNatClampNeg)] m122 (fun r123 m124 => ((r121 = r123) → Lw G b N xs 1569 [.ref b, .ref (ga G 0), .ref (ga G 273), .int l3] [] m124) ∧ ((¬ r121 = r123) → False)))) : Lw G b N xs 974 [.ref b, .ref (ga G 0), .ref (ga G 273), .int l3] [] m := by
  refine lo_aload_n dL_law_974 rfl ?_
  refine lo_aload_n dL_law_975 rfl ?_
  refine lo_iload_n dL_law_976 rfl ?_
  refine lo_iconst (v := 1) dL_law_977 (by decide) ?_
  refine lo_iadd dL_law_978 ?_
  obtain ⟨hi, hF⟩ := hF
  refine lo_sld dL_law_979 hi ?_
  refine lo_aload_n dL_law_980 rfl ?_
  refine lo_iload_n dL_law_981 rfl ?_
  refine lo_iconst (v := 2) dL_law_982 (by decide) ?_
  refine lo_iadd dL_law_983 ?_
  obtain ⟨hi, hF⟩ := hF
  refine lo_sld dL_law_984 hi ?_
  refine lo_callV mX11_weight dL_law_985 ll_119 okX11_weight isX11_weight sh_0 rfl (As := [.int (xs (l3 + 1).toNatClampNeg), .int (xs (l3 + 2).toNatClampNeg)]) (S := []) rfl rfl (Nat.le_of_ble_eq_true rfl) hF (lk_i (fun r121 m122 hF => ?_))
  refine lo_aload_n dL_law_988 rfl ?_
  refine lo_aload_n dL_law_989 rfl ?_
  refine lo_iload_n dL_law_990 rfl ?_
  refine lo_iconst (v := 1) dL_law_991 (by decide) ?_
  refine lo_iadd dL_law_992 ?_
  obtain ⟨hi, hF⟩ := hF
  refine lo_sld dL_law_993 hi ?_
  refine lo_aload_n dL_law_994 rfl ?_
  refine lo_iload_n dL_law_995 rfl ?_
  refine lo_iconst (v := 2) dL_law_996 (by decide) ?_
  refine lo_iadd dL_law_997 ?_
  obtain ⟨hi, hF⟩ := hF
  refine lo_sld dL_law_998 hi ?_
  refine lo_callV mX12_weight dL_law_999 ll_123 okX12_weight isX12_weight sh_273 rfl (As := [.int (xs (l3 + 1).toNatClampNeg), .int (xs (l3 + 2).toNatClampNeg)]) (S := [.int r121]) rfl rfl (Nat.le_of_ble_eq_true rfl) hF (lk_i (fun r123 m124 hF => ?_))
  refine lo_icmp_eq 1569 dL_law_1002 rfl ⟨fun hc => ?_, fun hc => ?_⟩
  · have hF := hF.1 hc
    exact hF
  · have hF := hF.2 hc
    refine lo_iconst (v := 0) dL_law_1005 (by decide) ?_
    exact lo_no hF
theorem vlaw_1007 (G : GP) (b N : Nat) (xs : Nat → Int32) (l3 : Int32) (m : Mem) (hF : vp_in (l3 + 1) N ∧ vp_in (l3 + 2) N ∧ vp_in (l3 + 3) N ∧ (((xs (l3 + 3).toNatClampNeg) = 0) → Evl G 12 mX11_meant [.ref (ga G 0), .int (xs (l3 + 1).toNatClampNeg), .int (xs (l3 + 2).toNatClampNeg), .int 0] m (fun r125 m126 => vp_in (l3 + 1) N ∧ vp_in (l3 + 2) N ∧ vp_in (l3 + 3) N ∧ (((xs (l3 + 3).toNatClampNeg) = 0) → Evl G 12 mX12_meant [.ref (ga G 273), .int (xs (l3 + 1).toNatClampNeg), .int (xs (l3 + 2).toNatClampNeg), .int 0] m126 (fun r127 m128 => (((lg_cmp r125 r127) = 0) → Lw G b N xs 1569 [.ref b, .ref (ga G 0), .ref (ga G 273), .int l3] [] m128) ∧ ((¬ (lg_cmp r125 r127) = 0) → False))) ∧ ((¬ (xs (l3 + 3).toNatClampNeg) = 0) → Evl G 12 mX12_meant [.ref (ga G 273), .int (xs (l3 + 1).toNatClampNeg), .int (xs (l3 + 2).toNatClampNeg), .int 1] m126 (fun r129 m130 => (((lg_cmp r125 r129) = 0) → Lw G b N xs 1569 [.ref b, .ref (ga G 0), .ref (ga G 273), .int l3] [] m130) ∧ ((¬ (lg_cmp r125 r129) = 0) → False))))) ∧ ((¬ (xs (l3 + 3).toNatClampNeg) = 0) → Evl G 12 mX11_meant [.ref (ga G 0), .int (xs (l3 + 1).toNatClampNeg), .int (xs (l3 + 2).toNatClampNeg), .int 1] m (fun r131 m132 => vp_in (l3 + 1) N ∧ vp_in (l3 + 2) N ∧ vp_in (l3 + 3) N ∧ (((xs (l3 + 3).toNatClampNeg) = 0) → Evl G 12 mX12_meant [.ref (ga G 273), .int (xs (l3 + 1).toNatClampNeg), .int (xs (l3 + 2).toNatClampNeg), .int 0] m132 (fun r133 m134 => (((lg_cmp r131 r133) = 0) → Lw G b N xs 1569 [.ref b, .ref (ga G 0), .ref (ga G 273), .int l3] [] m134) ∧ ((¬ (lg_cmp r131 r133) = 0) → False))) ∧ ((¬ (xs (l3 + 3).toNatClampNeg) = 0) → Evl G 12 mX12_meant [.ref (ga G 273), .int (xs (l3 + 1).toNatClampNeg), .int (xs (l3 + 2).toNatClampNeg), .int 1] m132 (fun r135 m136 => (((lg_cmp r131 r135) = 0) → Lw G b N xs 1569 [.ref b, .ref (ga G 0), .ref (ga G 273), .int l3] [] m136) ∧ ((¬ (lg_cmp r131 r135) = 0) → False)))))) : Lw G b N xs 1007 [.ref b, .ref (ga G 0), .ref (ga G 273), .int l3] [] m := by
  refine lo_aload_n dL_law_1007 rfl ?_
  refine lo_aload_n dL_law_1008 rfl ?_
  refine lo_iload_n dL_law_1009 rfl ?_
  refine lo_iconst (v := 1) dL_law_1010 (by decide) ?_
  refine lo_iadd dL_law_1011 ?_
  obtain ⟨hi, hF⟩ := hF
  refine lo_sld dL_law_1012 hi ?_
  refine lo_aload_n dL_law_1013 rfl ?_
  refine lo_iload_n dL_law_1014 rfl ?_
  refine lo_iconst (v := 2) dL_law_1015 (by decide) ?_
  refine lo_iadd dL_law_1016 ?_
  obtain ⟨hi, hF⟩ := hF
  refine lo_sld dL_law_1017 hi ?_
  refine lo_aload_n dL_law_1018 rfl ?_
  refine lo_iload_n dL_law_1019 rfl ?_
  refine lo_iconst (v := 3) dL_law_1020 (by decide) ?_
  refine lo_iadd dL_law_1021 ?_
  obtain ⟨hi, hF⟩ := hF
  refine lo_sld dL_law_1022 hi ?_
  refine lo_if_eq 1030 dL_law_1023 rfl ⟨fun hc => ?_, fun hc => ?_⟩
  · have hF := hF.1 hc
    refine lo_iconst (v := 0) dL_law_1030 (by decide) ?_
    refine lo_callV mX11_meant dL_law_1031 ll_124 okX11_meant isX11_meant sh_0 rfl (As := [.int (xs (l3 + 1).toNatClampNeg), .int (xs (l3 + 2).toNatClampNeg), .int 0]) (S := []) rfl rfl (Nat.le_of_ble_eq_true rfl) hF (lk_l (fun r125 m126 hF => ?_))
    refine lo_aload_n dL_law_1034 rfl ?_
    refine lo_aload_n dL_law_1035 rfl ?_
    refine lo_iload_n dL_law_1036 rfl ?_
    refine lo_iconst (v := 1) dL_law_1037 (by decide) ?_
    refine lo_iadd dL_law_1038 ?_
    obtain ⟨hi, hF⟩ := hF
    refine lo_sld dL_law_1039 hi ?_
    refine lo_aload_n dL_law_1040 rfl ?_
    refine lo_iload_n dL_law_1041 rfl ?_
    refine lo_iconst (v := 2) dL_law_1042 (by decide) ?_
    refine lo_iadd dL_law_1043 ?_
    obtain ⟨hi, hF⟩ := hF
    refine lo_sld dL_law_1044 hi ?_
    refine lo_aload_n dL_law_1045 rfl ?_
    refine lo_iload_n dL_law_1046 rfl ?_
    refine lo_iconst (v := 3) dL_law_1047 (by decide) ?_
    refine lo_iadd dL_law_1048 ?_
    obtain ⟨hi, hF⟩ := hF
    refine lo_sld dL_law_1049 hi ?_
    refine lo_if_eq 1057 dL_law_1050 rfl ⟨fun hc => ?_, fun hc => ?_⟩
    · have hF := hF.1 hc
      refine lo_iconst (v := 0) dL_law_1057 (by decide) ?_
      refine lo_callV mX12_meant dL_law_1058 ll_128 okX12_meant isX12_meant sh_273 rfl (As := [.int (xs (l3 + 1).toNatClampNeg), .int (xs (l3 + 2).toNatClampNeg), .int 0]) (S := [.long r125]) rfl rfl (Nat.le_of_ble_eq_true rfl) hF (lk_l (fun r127 m128 hF => ?_))
      refine lo_lcmp dL_law_1061 ?_
      refine lo_if_eq 1569 dL_law_1062 rfl ⟨fun hc => ?_, fun hc => ?_⟩
      · have hF := hF.1 hc
        exact hF
      · have hF := hF.2 hc
        refine lo_iconst (v := 0) dL_law_1065 (by decide) ?_
        exact lo_no hF
    · have hF := hF.2 hc
      refine lo_iconst (v := 1) dL_law_1053 (by decide) ?_
      refine lo_goto 1058 dL_law_1054 rfl ?_
      refine lo_callV mX12_meant dL_law_1058 ll_128 okX12_meant isX12_meant sh_273 rfl (As := [.int (xs (l3 + 1).toNatClampNeg), .int (xs (l3 + 2).toNatClampNeg), .int 1]) (S := [.long r125]) rfl rfl (Nat.le_of_ble_eq_true rfl) hF (lk_l (fun r129 m130 hF => ?_))
      refine lo_lcmp dL_law_1061 ?_
      refine lo_if_eq 1569 dL_law_1062 rfl ⟨fun hc => ?_, fun hc => ?_⟩
      · have hF := hF.1 hc
        exact hF
      · have hF := hF.2 hc
        refine lo_iconst (v := 0) dL_law_1065 (by decide) ?_
        exact lo_no hF
  · have hF := hF.2 hc
    refine lo_iconst (v := 1) dL_law_1026 (by decide) ?_
    refine lo_goto 1031 dL_law_1027 rfl ?_
    refine lo_callV mX11_meant dL_law_1031 ll_124 okX11_meant isX11_meant sh_0 rfl (As := [.int (xs (l3 + 1).toNatClampNeg), .int (xs (l3 + 2).toNatClampNeg), .int 1]) (S := []) rfl rfl (Nat.le_of_ble_eq_true rfl) hF (lk_l (fun r131 m132 hF => ?_))
    refine lo_aload_n dL_law_1034 rfl ?_
    refine lo_aload_n dL_law_1035 rfl ?_
    refine lo_iload_n dL_law_1036 rfl ?_
    refine lo_iconst (v := 1) dL_law_1037 (by decide) ?_
    refine lo_iadd dL_law_1038 ?_
    obtain ⟨hi, hF⟩ := hF
    refine lo_sld dL_law_1039 hi ?_
    refine lo_aload_n dL_law_1040 rfl ?_
    refine lo_iload_n dL_law_1041 rfl ?_
    refine lo_iconst (v := 2) dL_law_1042 (by decide) ?_
    refine lo_iadd dL_law_1043 ?_
    obtain ⟨hi, hF⟩ := hF
    refine lo_sld dL_law_1044 hi ?_
    refine lo_aload_n dL_law_1045 rfl ?_
    refine lo_iload_n dL_law_1046 rfl ?_
    refine lo_iconst (v := 3) dL_law_1047 (by decide) ?_
    refine lo_iadd dL_law_1048 ?_
    obtain ⟨hi, hF⟩ := hF
    refine lo_sld dL_law_1049 hi ?_
    refine lo_if_eq 1057 dL_law_1050 rfl ⟨fun hc => ?_, fun hc => ?_⟩
    · have hF := hF.1 hc
      refine lo_iconst (v := 0) dL_law_1057 (by decide) ?_
      refine lo_callV mX12_meant dL_law_1058 ll_128 okX12_meant isX12_meant sh_273 rfl (As := [.int (xs (l3 + 1).toNatClampNeg), .int (xs (l3 + 2).toNatClampNeg), .int 0]) (S := [.long r131]) rfl rfl (Nat.le_of_ble_eq_true rfl) hF (lk_l (fun r133 m134 hF => ?_))
      refine lo_lcmp dL_law_1061 ?_
      refine lo_if_eq 1569 dL_law_1062 rfl ⟨fun hc => ?_, fun hc => ?_⟩
      · have hF := hF.1 hc
        exact hF
      · have hF := hF.2 hc
        refine lo_iconst (v := 0) dL_law_1065 (by decide) ?_
        exact lo_no hF
    · have hF := hF.2 hc
      refine lo_iconst (v := 1) dL_law_1053 (by decide) ?_
      refine lo_goto 1058 dL_law_1054 rfl ?_
      refine lo_callV mX12_meant dL_law_1058 ll_128 okX12_meant isX12_meant sh_273 rfl (As := [.int (xs (l3 + 1).toNatClampNeg), .int (xs (l3 + 2).toNatClampNeg), .int 1]) (S := [.long r131]) rfl rfl (Nat.le_of_ble_eq_true rfl) hF (lk_l (fun r135 m136 hF => ?_))
      refine lo_lcmp dL_law_1061 ?_
      refine lo_if_eq 1569 dL_law_1062 rfl ⟨fun hc => ?_, fun hc => ?_⟩
      · have hF := hF.1 hc
        exact hF
      · have hF := hF.2 hc
        refine lo_iconst (v := 0) dL_law_1065 (by decide) ?_
        exact lo_no hF
theorem vlaw_1067 (G : GP) (b N : Nat) (xs : Nat → Int32) (l3 : Int32) (m : Mem) (hF : vp_in (l3 + 1) N ∧ Evi G 12 mX11_shortest [.ref (ga G 0), .int (xs (l3 + 1).toNatClampNeg)] m (fun r137 m138 => vp_in (l3 + 1) N ∧ Evi G 12 mX12_shortest [.ref (ga G 273), .int (xs (l3 + 1).toNatClampNeg)] m138 (fun r139 m140 => ((r137 = r139) → Lw G b N xs 1569 [.ref b, .ref (ga G 0), .ref (ga G 273), .int l3] [] m140) ∧ ((¬ r137 = r139) → False)))) : Lw G b N xs 1067 [.ref b, .ref (ga G 0), .ref (ga G 273), .int l3] [] m := by
  refine lo_aload_n dL_law_1067 rfl ?_
  refine lo_aload_n dL_law_1068 rfl ?_
  refine lo_iload_n dL_law_1069 rfl ?_
  refine lo_iconst (v := 1) dL_law_1070 (by decide) ?_
  refine lo_iadd dL_law_1071 ?_
  obtain ⟨hi, hF⟩ := hF
  refine lo_sld dL_law_1072 hi ?_
  refine lo_callV mX11_shortest dL_law_1073 ll_129 okX11_shortest isX11_shortest sh_0 rfl (As := [.int (xs (l3 + 1).toNatClampNeg)]) (S := []) rfl rfl (Nat.le_of_ble_eq_true rfl) hF (lk_i (fun r137 m138 hF => ?_))
  refine lo_aload_n dL_law_1076 rfl ?_
  refine lo_aload_n dL_law_1077 rfl ?_
  refine lo_iload_n dL_law_1078 rfl ?_
  refine lo_iconst (v := 1) dL_law_1079 (by decide) ?_
  refine lo_iadd dL_law_1080 ?_
  obtain ⟨hi, hF⟩ := hF
  refine lo_sld dL_law_1081 hi ?_
  refine lo_callV mX12_shortest dL_law_1082 ll_132 okX12_shortest isX12_shortest sh_273 rfl (As := [.int (xs (l3 + 1).toNatClampNeg)]) (S := [.int r137]) rfl rfl (Nat.le_of_ble_eq_true rfl) hF (lk_i (fun r139 m140 hF => ?_))
  refine lo_icmp_eq 1569 dL_law_1085 rfl ⟨fun hc => ?_, fun hc => ?_⟩
  · have hF := hF.1 hc
    exact hF
  · have hF := hF.2 hc
    refine lo_iconst (v := 0) dL_law_1088 (by decide) ?_
    exact lo_no hF
theorem vlaw_1090 (G : GP) (b N : Nat) (xs : Nat → Int32) (l3 : Int32) (m : Mem) (hF : vp_in (l3 + 1) N ∧ Evi G 12 mX11_atWorst [.ref (ga G 0), .int (xs (l3 + 1).toNatClampNeg)] m (fun r141 m142 => vp_in (l3 + 1) N ∧ Evi G 12 mX12_atWorst [.ref (ga G 273), .int (xs (l3 + 1).toNatClampNeg)] m142 (fun r143 m144 => ((r141 = r143) → Lw G b N xs 1569 [.ref b, .ref (ga G 0), .ref (ga G 273), .int l3] [] m144) ∧ ((¬ r141 = r143) → False)))) : Lw G b N xs 1090 [.ref b, .ref (ga G 0), .ref (ga G 273), .int l3] [] m := by
  refine lo_aload_n dL_law_1090 rfl ?_
  refine lo_aload_n dL_law_1091 rfl ?_
  refine lo_iload_n dL_law_1092 rfl ?_
  refine lo_iconst (v := 1) dL_law_1093 (by decide) ?_
  refine lo_iadd dL_law_1094 ?_
  obtain ⟨hi, hF⟩ := hF
  refine lo_sld dL_law_1095 hi ?_
  refine lo_callV mX11_atWorst dL_law_1096 ll_133 okX11_atWorst isX11_atWorst sh_0 rfl (As := [.int (xs (l3 + 1).toNatClampNeg)]) (S := []) rfl rfl (Nat.le_of_ble_eq_true rfl) hF (lk_i (fun r141 m142 hF => ?_))
  refine lo_aload_n dL_law_1099 rfl ?_
  refine lo_aload_n dL_law_1100 rfl ?_
  refine lo_iload_n dL_law_1101 rfl ?_
  refine lo_iconst (v := 1) dL_law_1102 (by decide) ?_
  refine lo_iadd dL_law_1103 ?_
  obtain ⟨hi, hF⟩ := hF
  refine lo_sld dL_law_1104 hi ?_
  refine lo_callV mX12_atWorst dL_law_1105 ll_136 okX12_atWorst isX12_atWorst sh_273 rfl (As := [.int (xs (l3 + 1).toNatClampNeg)]) (S := [.int r141]) rfl rfl (Nat.le_of_ble_eq_true rfl) hF (lk_i (fun r143 m144 hF => ?_))
  refine lo_icmp_eq 1569 dL_law_1108 rfl ⟨fun hc => ?_, fun hc => ?_⟩
  · have hF := hF.1 hc
    exact hF
  · have hF := hF.2 hc
    refine lo_iconst (v := 0) dL_law_1111 (by decide) ?_
    exact lo_no hF
theorem vlaw_1113 (G : GP) (b N : Nat) (xs : Nat → Int32) (l3 : Int32) (m : Mem) (hF : vp_in (l3 + 1) N ∧ vp_in (l3 + 2) N ∧ Evi G 12 mX11_away [.ref (ga G 0), .int (xs (l3 + 1).toNatClampNeg), .int (xs (l3 + 2).toNatClampNeg)] m (fun r145 m146 => vp_in (l3 + 1) N ∧ vp_in (l3 + 2) N ∧ Evi G 12 mX12_away [.ref (ga G 273), .int (xs (l3 + 1).toNatClampNeg), .int (xs (l3 + 2).toNatClampNeg)] m146 (fun r147 m148 => ((r145 = r147) → Lw G b N xs 1569 [.ref b, .ref (ga G 0), .ref (ga G 273), .int l3] [] m148) ∧ ((¬ r145 = r147) → False)))) : Lw G b N xs 1113 [.ref b, .ref (ga G 0), .ref (ga G 273), .int l3] [] m := by
  refine lo_aload_n dL_law_1113 rfl ?_
  refine lo_aload_n dL_law_1114 rfl ?_
  refine lo_iload_n dL_law_1115 rfl ?_
  refine lo_iconst (v := 1) dL_law_1116 (by decide) ?_
  refine lo_iadd dL_law_1117 ?_
  obtain ⟨hi, hF⟩ := hF
  refine lo_sld dL_law_1118 hi ?_
  refine lo_aload_n dL_law_1119 rfl ?_
  refine lo_iload_n dL_law_1120 rfl ?_
  refine lo_iconst (v := 2) dL_law_1121 (by decide) ?_
  refine lo_iadd dL_law_1122 ?_
  obtain ⟨hi, hF⟩ := hF
  refine lo_sld dL_law_1123 hi ?_
  refine lo_callV mX11_away dL_law_1124 ll_137 okX11_away isX11_away sh_0 rfl (As := [.int (xs (l3 + 1).toNatClampNeg), .int (xs (l3 + 2).toNatClampNeg)]) (S := []) rfl rfl (Nat.le_of_ble_eq_true rfl) hF (lk_i (fun r145 m146 hF => ?_))
  refine lo_aload_n dL_law_1127 rfl ?_
  refine lo_aload_n dL_law_1128 rfl ?_
  refine lo_iload_n dL_law_1129 rfl ?_
  refine lo_iconst (v := 1) dL_law_1130 (by decide) ?_
  refine lo_iadd dL_law_1131 ?_
  obtain ⟨hi, hF⟩ := hF
  refine lo_sld dL_law_1132 hi ?_
  refine lo_aload_n dL_law_1133 rfl ?_
  refine lo_iload_n dL_law_1134 rfl ?_
  refine lo_iconst (v := 2) dL_law_1135 (by decide) ?_
  refine lo_iadd dL_law_1136 ?_
  obtain ⟨hi, hF⟩ := hF
  refine lo_sld dL_law_1137 hi ?_
  refine lo_callV mX12_away dL_law_1138 ll_140 okX12_away isX12_away sh_273 rfl (As := [.int (xs (l3 + 1).toNatClampNeg), .int (xs (l3 + 2).toNatClampNeg)]) (S := [.int r145]) rfl rfl (Nat.le_of_ble_eq_true rfl) hF (lk_i (fun r147 m148 hF => ?_))
  refine lo_icmp_eq 1569 dL_law_1141 rfl ⟨fun hc => ?_, fun hc => ?_⟩
  · have hF := hF.1 hc
    exact hF
  · have hF := hF.2 hc
    refine lo_iconst (v := 0) dL_law_1144 (by decide) ?_
    exact lo_no hF
theorem vlaw_1146 (G : GP) (b N : Nat) (xs : Nat → Int32) (l3 : Int32) (m : Mem) (hF : vp_in (l3 + 1) N ∧ Evi G 12 mX11_apart [.ref (ga G 0), .int (xs (l3 + 1).toNatClampNeg)] m (fun r149 m150 => vp_in (l3 + 1) N ∧ Evi G 12 mX12_apart [.ref (ga G 273), .int (xs (l3 + 1).toNatClampNeg)] m150 (fun r151 m152 => ((r149 = r151) → Lw G b N xs 1569 [.ref b, .ref (ga G 0), .ref (ga G 273), .int l3] [] m152) ∧ ((¬ r149 = r151) → False)))) : Lw G b N xs 1146 [.ref b, .ref (ga G 0), .ref (ga G 273), .int l3] [] m := by
  refine lo_aload_n dL_law_1146 rfl ?_
  refine lo_aload_n dL_law_1147 rfl ?_
  refine lo_iload_n dL_law_1148 rfl ?_
  refine lo_iconst (v := 1) dL_law_1149 (by decide) ?_
  refine lo_iadd dL_law_1150 ?_
  obtain ⟨hi, hF⟩ := hF
  refine lo_sld dL_law_1151 hi ?_
  refine lo_callV mX11_apart dL_law_1152 ll_141 okX11_apart isX11_apart sh_0 rfl (As := [.int (xs (l3 + 1).toNatClampNeg)]) (S := []) rfl rfl (Nat.le_of_ble_eq_true rfl) hF (lk_i (fun r149 m150 hF => ?_))
  refine lo_aload_n dL_law_1155 rfl ?_
  refine lo_aload_n dL_law_1156 rfl ?_
  refine lo_iload_n dL_law_1157 rfl ?_
  refine lo_iconst (v := 1) dL_law_1158 (by decide) ?_
  refine lo_iadd dL_law_1159 ?_
  obtain ⟨hi, hF⟩ := hF
  refine lo_sld dL_law_1160 hi ?_
  refine lo_callV mX12_apart dL_law_1161 ll_144 okX12_apart isX12_apart sh_273 rfl (As := [.int (xs (l3 + 1).toNatClampNeg)]) (S := [.int r149]) rfl rfl (Nat.le_of_ble_eq_true rfl) hF (lk_i (fun r151 m152 hF => ?_))
  refine lo_icmp_eq 1569 dL_law_1164 rfl ⟨fun hc => ?_, fun hc => ?_⟩
  · have hF := hF.1 hc
    exact hF
  · have hF := hF.2 hc
    refine lo_iconst (v := 0) dL_law_1167 (by decide) ?_
    exact lo_no hF
theorem vlaw_1169 (G : GP) (b N : Nat) (xs : Nat → Int32) (l3 : Int32) (m : Mem) (hF : Evi G 12 mX11_nearest [.ref (ga G 0)] m (fun r153 m154 => Evi G 12 mX12_nearest [.ref (ga G 273)] m154 (fun r155 m156 => ((r153 = r155) → Lw G b N xs 1569 [.ref b, .ref (ga G 0), .ref (ga G 273), .int l3] [] m156) ∧ ((¬ r153 = r155) → False)))) : Lw G b N xs 1169 [.ref b, .ref (ga G 0), .ref (ga G 273), .int l3] [] m := by
  refine lo_aload_n dL_law_1169 rfl ?_
  refine lo_callV mX11_nearest dL_law_1170 ll_145 okX11_nearest isX11_nearest sh_0 rfl (As := []) (S := []) rfl rfl (Nat.le_of_ble_eq_true rfl) hF (lk_i (fun r153 m154 hF => ?_))
  refine lo_aload_n dL_law_1173 rfl ?_
  refine lo_callV mX12_nearest dL_law_1174 ll_148 okX12_nearest isX12_nearest sh_273 rfl (As := []) (S := [.int r153]) rfl rfl (Nat.le_of_ble_eq_true rfl) hF (lk_i (fun r155 m156 hF => ?_))
  refine lo_icmp_eq 1569 dL_law_1177 rfl ⟨fun hc => ?_, fun hc => ?_⟩
  · have hF := hF.1 hc
    exact hF
  · have hF := hF.2 hc
    refine lo_iconst (v := 0) dL_law_1180 (by decide) ?_
    exact lo_no hF
theorem vlaw_1182 (G : GP) (b N : Nat) (xs : Nat → Int32) (l3 : Int32) (m : Mem) (hF : vp_in (l3 + 1) N ∧ vp_in (l3 + 2) N ∧ Evi G 12 mX11_hears [.ref (ga G 0), .int (xs (l3 + 1).toNatClampNeg), .int (xs (l3 + 2).toNatClampNeg)] m (fun r157 m158 => vp_in (l3 + 1) N ∧ vp_in (l3 + 2) N ∧ Evi G 12 mX12_hears [.ref (ga G 273), .int (xs (l3 + 1).toNatClampNeg), .int (xs (l3 + 2).toNatClampNeg)] m158 (fun r159 m160 => ((r157 = r159) → Lw G b N xs 1569 [.ref b, .ref (ga G 0), .ref (ga G 273), .int l3] [] m160) ∧ ((¬ r157 = r159) → False)))) : Lw G b N xs 1182 [.ref b, .ref (ga G 0), .ref (ga G 273), .int l3] [] m := by
  refine lo_aload_n dL_law_1182 rfl ?_
  refine lo_aload_n dL_law_1183 rfl ?_
  refine lo_iload_n dL_law_1184 rfl ?_
  refine lo_iconst (v := 1) dL_law_1185 (by decide) ?_
  refine lo_iadd dL_law_1186 ?_
  obtain ⟨hi, hF⟩ := hF
  refine lo_sld dL_law_1187 hi ?_
  refine lo_aload_n dL_law_1188 rfl ?_
  refine lo_iload_n dL_law_1189 rfl ?_
  refine lo_iconst (v := 2) dL_law_1190 (by decide) ?_
  refine lo_iadd dL_law_1191 ?_
  obtain ⟨hi, hF⟩ := hF
  refine lo_sld dL_law_1192 hi ?_
  refine lo_callV mX11_hears dL_law_1193 ll_149 okX11_hears isX11_hears sh_0 rfl (As := [.int (xs (l3 + 1).toNatClampNeg), .int (xs (l3 + 2).toNatClampNeg)]) (S := []) rfl rfl (Nat.le_of_ble_eq_true rfl) hF (lk_i (fun r157 m158 hF => ?_))
  refine lo_aload_n dL_law_1196 rfl ?_
  refine lo_aload_n dL_law_1197 rfl ?_
  refine lo_iload_n dL_law_1198 rfl ?_
  refine lo_iconst (v := 1) dL_law_1199 (by decide) ?_
  refine lo_iadd dL_law_1200 ?_
  obtain ⟨hi, hF⟩ := hF
  refine lo_sld dL_law_1201 hi ?_
  refine lo_aload_n dL_law_1202 rfl ?_
  refine lo_iload_n dL_law_1203 rfl ?_
  refine lo_iconst (v := 2) dL_law_1204 (by decide) ?_
  refine lo_iadd dL_law_1205 ?_
  obtain ⟨hi, hF⟩ := hF
  refine lo_sld dL_law_1206 hi ?_
  refine lo_callV mX12_hears dL_law_1207 ll_152 okX12_hears isX12_hears sh_273 rfl (As := [.int (xs (l3 + 1).toNatClampNeg), .int (xs (l3 + 2).toNatClampNeg)]) (S := [.int r157]) rfl rfl (Nat.le_of_ble_eq_true rfl) hF (lk_i (fun r159 m160 hF => ?_))
  refine lo_icmp_eq 1569 dL_law_1210 rfl ⟨fun hc => ?_, fun hc => ?_⟩
  · have hF := hF.1 hc
    exact hF
  · have hF := hF.2 hc
    refine lo_iconst (v := 0) dL_law_1213 (by decide) ?_
    exact lo_no hF
theorem vlaw_1215 (G : GP) (b N : Nat) (xs : Nat → Int32) (l3 : Int32) (m : Mem) (hF : vp_in (l3 + 1) N ∧ vp_in (l3 + 2) N ∧ Evi G 12 mX11_settles [.ref (ga G 0), .int (xs (l3 + 1).toNatClampNeg), .int (xs (l3 + 2).toNatClampNeg)] m (fun r161 m162 => vp_in (l3 + 1) N ∧ vp_in (l3 + 2) N ∧ Evi G 12 mX12_settles [.ref (ga G 273), .int (xs (l3 + 1).toNatClampNeg), .int (xs (l3 + 2).toNatClampNeg)] m162 (fun r163 m164 => ((r161 = r163) → Lw G b N xs 1569 [.ref b, .ref (ga G 0), .ref (ga G 273), .int l3] [] m164) ∧ ((¬ r161 = r163) → False)))) : Lw G b N xs 1215 [.ref b, .ref (ga G 0), .ref (ga G 273), .int l3] [] m := by
  refine lo_aload_n dL_law_1215 rfl ?_
  refine lo_aload_n dL_law_1216 rfl ?_
  refine lo_iload_n dL_law_1217 rfl ?_
  refine lo_iconst (v := 1) dL_law_1218 (by decide) ?_
  refine lo_iadd dL_law_1219 ?_
  obtain ⟨hi, hF⟩ := hF
  refine lo_sld dL_law_1220 hi ?_
  refine lo_aload_n dL_law_1221 rfl ?_
  refine lo_iload_n dL_law_1222 rfl ?_
  refine lo_iconst (v := 2) dL_law_1223 (by decide) ?_
  refine lo_iadd dL_law_1224 ?_
  obtain ⟨hi, hF⟩ := hF
  refine lo_sld dL_law_1225 hi ?_
  refine lo_callV mX11_settles dL_law_1226 ll_153 okX11_settles isX11_settles sh_0 rfl (As := [.int (xs (l3 + 1).toNatClampNeg), .int (xs (l3 + 2).toNatClampNeg)]) (S := []) rfl rfl (Nat.le_of_ble_eq_true rfl) hF (lk_i (fun r161 m162 hF => ?_))
  refine lo_aload_n dL_law_1229 rfl ?_
  refine lo_aload_n dL_law_1230 rfl ?_
  refine lo_iload_n dL_law_1231 rfl ?_
  refine lo_iconst (v := 1) dL_law_1232 (by decide) ?_
  refine lo_iadd dL_law_1233 ?_
  obtain ⟨hi, hF⟩ := hF
  refine lo_sld dL_law_1234 hi ?_
  refine lo_aload_n dL_law_1235 rfl ?_
  refine lo_iload_n dL_law_1236 rfl ?_
  refine lo_iconst (v := 2) dL_law_1237 (by decide) ?_
  refine lo_iadd dL_law_1238 ?_
  obtain ⟨hi, hF⟩ := hF
  refine lo_sld dL_law_1239 hi ?_
  refine lo_callV mX12_settles dL_law_1240 ll_156 okX12_settles isX12_settles sh_273 rfl (As := [.int (xs (l3 + 1).toNatClampNeg), .int (xs (l3 + 2).toNatClampNeg)]) (S := [.int r161]) rfl rfl (Nat.le_of_ble_eq_true rfl) hF (lk_i (fun r163 m164 hF => ?_))
  refine lo_icmp_eq 1569 dL_law_1243 rfl ⟨fun hc => ?_, fun hc => ?_⟩
  · have hF := hF.1 hc
    exact hF
  · have hF := hF.2 hc
    refine lo_iconst (v := 0) dL_law_1246 (by decide) ?_
    exact lo_no hF
theorem vlaw_1248 (G : GP) (b N : Nat) (xs : Nat → Int32) (l3 : Int32) (m : Mem) (hF : vp_in (l3 + 1) N ∧ vp_in (l3 + 2) N ∧ Evi G 12 mX11_line [.ref (ga G 0), .int (xs (l3 + 1).toNatClampNeg), .int (xs (l3 + 2).toNatClampNeg)] m (fun r165 m166 => vp_in (l3 + 1) N ∧ vp_in (l3 + 2) N ∧ Evi G 12 mX12_line [.ref (ga G 273), .int (xs (l3 + 1).toNatClampNeg), .int (xs (l3 + 2).toNatClampNeg)] m166 (fun r167 m168 => ((r165 = r167) → Lw G b N xs 1569 [.ref b, .ref (ga G 0), .ref (ga G 273), .int l3] [] m168) ∧ ((¬ r165 = r167) → False)))) : Lw G b N xs 1248 [.ref b, .ref (ga G 0), .ref (ga G 273), .int l3] [] m := by
  refine lo_aload_n dL_law_1248 rfl ?_
  refine lo_aload_n dL_law_1249 rfl ?_
  refine lo_iload_n dL_law_1250 rfl ?_
  refine lo_iconst (v := 1) dL_law_1251 (by decide) ?_
  refine lo_iadd dL_law_1252 ?_
  obtain ⟨hi, hF⟩ := hF
  refine lo_sld dL_law_1253 hi ?_
  refine lo_aload_n dL_law_1254 rfl ?_
  refine lo_iload_n dL_law_1255 rfl ?_
  refine lo_iconst (v := 2) dL_law_1256 (by decide) ?_
  refine lo_iadd dL_law_1257 ?_
  obtain ⟨hi, hF⟩ := hF
  refine lo_sld dL_law_1258 hi ?_
  refine lo_callV mX11_line dL_law_1259 ll_157 okX11_line isX11_line sh_0 rfl (As := [.int (xs (l3 + 1).toNatClampNeg), .int (xs (l3 + 2).toNatClampNeg)]) (S := []) rfl rfl (Nat.le_of_ble_eq_true rfl) hF (lk_i (fun r165 m166 hF => ?_))
  refine lo_aload_n dL_law_1262 rfl ?_
  refine lo_aload_n dL_law_1263 rfl ?_
  refine lo_iload_n dL_law_1264 rfl ?_
  refine lo_iconst (v := 1) dL_law_1265 (by decide) ?_
  refine lo_iadd dL_law_1266 ?_
  obtain ⟨hi, hF⟩ := hF
  refine lo_sld dL_law_1267 hi ?_
  refine lo_aload_n dL_law_1268 rfl ?_
  refine lo_iload_n dL_law_1269 rfl ?_
  refine lo_iconst (v := 2) dL_law_1270 (by decide) ?_
  refine lo_iadd dL_law_1271 ?_
  obtain ⟨hi, hF⟩ := hF
  refine lo_sld dL_law_1272 hi ?_
  refine lo_callV mX12_line dL_law_1273 ll_160 okX12_line isX12_line sh_273 rfl (As := [.int (xs (l3 + 1).toNatClampNeg), .int (xs (l3 + 2).toNatClampNeg)]) (S := [.int r165]) rfl rfl (Nat.le_of_ble_eq_true rfl) hF (lk_i (fun r167 m168 hF => ?_))
  refine lo_icmp_eq 1569 dL_law_1276 rfl ⟨fun hc => ?_, fun hc => ?_⟩
  · have hF := hF.1 hc
    exact hF
  · have hF := hF.2 hc
    refine lo_iconst (v := 0) dL_law_1279 (by decide) ?_
    exact lo_no hF
theorem vlaw_1281 (G : GP) (b N : Nat) (xs : Nat → Int32) (l3 : Int32) (m : Mem) (hF : Evi G 12 mX11_whose [.ref (ga G 0)] m (fun r169 m170 => Evi G 12 mX12_whose [.ref (ga G 273)] m170 (fun r171 m172 => ((r169 = r171) → Lw G b N xs 1569 [.ref b, .ref (ga G 0), .ref (ga G 273), .int l3] [] m172) ∧ ((¬ r169 = r171) → False)))) : Lw G b N xs 1281 [.ref b, .ref (ga G 0), .ref (ga G 273), .int l3] [] m := by
  refine lo_aload_n dL_law_1281 rfl ?_
  refine lo_callV mX11_whose dL_law_1282 ll_161 okX11_whose isX11_whose sh_0 rfl (As := []) (S := []) rfl rfl (Nat.le_of_ble_eq_true rfl) hF (lk_i (fun r169 m170 hF => ?_))
  refine lo_aload_n dL_law_1285 rfl ?_
  refine lo_callV mX12_whose dL_law_1286 ll_164 okX12_whose isX12_whose sh_273 rfl (As := []) (S := [.int r169]) rfl rfl (Nat.le_of_ble_eq_true rfl) hF (lk_i (fun r171 m172 hF => ?_))
  refine lo_icmp_eq 1569 dL_law_1289 rfl ⟨fun hc => ?_, fun hc => ?_⟩
  · have hF := hF.1 hc
    exact hF
  · have hF := hF.2 hc
    refine lo_iconst (v := 0) dL_law_1292 (by decide) ?_
    exact lo_no hF
theorem vlaw_1294 (G : GP) (b N : Nat) (xs : Nat → Int32) (l3 : Int32) (m : Mem) (hF : Evi G 12 mX11_pairs [.ref (ga G 0)] m (fun r173 m174 => Evi G 12 mX12_pairs [.ref (ga G 273)] m174 (fun r175 m176 => ((r173 = r175) → Lw G b N xs 1569 [.ref b, .ref (ga G 0), .ref (ga G 273), .int l3] [] m176) ∧ ((¬ r173 = r175) → False)))) : Lw G b N xs 1294 [.ref b, .ref (ga G 0), .ref (ga G 273), .int l3] [] m := by
  refine lo_aload_n dL_law_1294 rfl ?_
  refine lo_callV mX11_pairs dL_law_1295 ll_165 okX11_pairs isX11_pairs sh_0 rfl (As := []) (S := []) rfl rfl (Nat.le_of_ble_eq_true rfl) hF (lk_i (fun r173 m174 hF => ?_))
  refine lo_aload_n dL_law_1298 rfl ?_
  refine lo_callV mX12_pairs dL_law_1299 ll_168 okX12_pairs isX12_pairs sh_273 rfl (As := []) (S := [.int r173]) rfl rfl (Nat.le_of_ble_eq_true rfl) hF (lk_i (fun r175 m176 hF => ?_))
  refine lo_icmp_eq 1569 dL_law_1302 rfl ⟨fun hc => ?_, fun hc => ?_⟩
  · have hF := hF.1 hc
    exact hF
  · have hF := hF.2 hc
    refine lo_iconst (v := 0) dL_law_1305 (by decide) ?_
    exact lo_no hF
theorem vlaw_1307 (G : GP) (b N : Nat) (xs : Nat → Int32) (l3 : Int32) (m : Mem) (hF : vp_in (l3 + 1) N ∧ vp_in (l3 + 2) N ∧ Evi G 12 mX11_tower [.ref (ga G 0), .int (xs (l3 + 1).toNatClampNeg), .int (xs (l3 + 2).toNatClampNeg)] m (fun r177 m178 => vp_in (l3 + 1) N ∧ vp_in (l3 + 2) N ∧ Evi G 12 mX12_tower [.ref (ga G 273), .int (xs (l3 + 1).toNatClampNeg), .int (xs (l3 + 2).toNatClampNeg)] m178 (fun r179 m180 => ((r177 = r179) → Lw G b N xs 1569 [.ref b, .ref (ga G 0), .ref (ga G 273), .int l3] [] m180) ∧ ((¬ r177 = r179) → False)))) : Lw G b N xs 1307 [.ref b, .ref (ga G 0), .ref (ga G 273), .int l3] [] m := by
  refine lo_aload_n dL_law_1307 rfl ?_
  refine lo_aload_n dL_law_1308 rfl ?_
  refine lo_iload_n dL_law_1309 rfl ?_
  refine lo_iconst (v := 1) dL_law_1310 (by decide) ?_
  refine lo_iadd dL_law_1311 ?_
  obtain ⟨hi, hF⟩ := hF
  refine lo_sld dL_law_1312 hi ?_
  refine lo_aload_n dL_law_1313 rfl ?_
  refine lo_iload_n dL_law_1314 rfl ?_
  refine lo_iconst (v := 2) dL_law_1315 (by decide) ?_
  refine lo_iadd dL_law_1316 ?_
  obtain ⟨hi, hF⟩ := hF
  refine lo_sld dL_law_1317 hi ?_
  refine lo_callV mX11_tower dL_law_1318 ll_169 okX11_tower isX11_tower sh_0 rfl (As := [.int (xs (l3 + 1).toNatClampNeg), .int (xs (l3 + 2).toNatClampNeg)]) (S := []) rfl rfl (Nat.le_of_ble_eq_true rfl) hF (lk_i (fun r177 m178 hF => ?_))
  refine lo_aload_n dL_law_1321 rfl ?_
  refine lo_aload_n dL_law_1322 rfl ?_
  refine lo_iload_n dL_law_1323 rfl ?_
  refine lo_iconst (v := 1) dL_law_1324 (by decide) ?_
  refine lo_iadd dL_law_1325 ?_
  obtain ⟨hi, hF⟩ := hF
  refine lo_sld dL_law_1326 hi ?_
  refine lo_aload_n dL_law_1327 rfl ?_
  refine lo_iload_n dL_law_1328 rfl ?_
  refine lo_iconst (v := 2) dL_law_1329 (by decide) ?_
  refine lo_iadd dL_law_1330 ?_
  obtain ⟨hi, hF⟩ := hF
  refine lo_sld dL_law_1331 hi ?_
  refine lo_callV mX12_tower dL_law_1332 ll_172 okX12_tower isX12_tower sh_273 rfl (As := [.int (xs (l3 + 1).toNatClampNeg), .int (xs (l3 + 2).toNatClampNeg)]) (S := [.int r177]) rfl rfl (Nat.le_of_ble_eq_true rfl) hF (lk_i (fun r179 m180 hF => ?_))
  refine lo_icmp_eq 1569 dL_law_1335 rfl ⟨fun hc => ?_, fun hc => ?_⟩
  · have hF := hF.1 hc
    exact hF
  · have hF := hF.2 hc
    refine lo_iconst (v := 0) dL_law_1338 (by decide) ?_
    exact lo_no hF
theorem vlaw_1340 (G : GP) (b N : Nat) (xs : Nat → Int32) (l3 : Int32) (m : Mem) (hF : vp_in (l3 + 1) N ∧ (((xs (l3 + 1).toNatClampNeg) = 0) → Evi G 12 mX11_lies [.ref (ga G 0), .int 0] m (fun r181 m182 => vp_in (l3 + 1) N ∧ (((xs (l3 + 1).toNatClampNeg) = 0) → Evi G 12 mX12_lies [.ref (ga G 273), .int 0] m182 (fun r183 m184 => ((r181 = r183) → Lw G b N xs 1569 [.ref b, .ref (ga G 0), .ref (ga G 273), .int l3] [] m184) ∧ ((¬ r181 = r183) → False))) ∧ ((¬ (xs (l3 + 1).toNatClampNeg) = 0) → Evi G 12 mX12_lies [.ref (ga G 273), .int 1] m182 (fun r185 m186 => ((r181 = r185) → Lw G b N xs 1569 [.ref b, .ref (ga G 0), .ref (ga G 273), .int l3] [] m186) ∧ ((¬ r181 = r185) → False))))) ∧ ((¬ (xs (l3 + 1).toNatClampNeg) = 0) → Evi G 12 mX11_lies [.ref (ga G 0), .int 1] m (fun r187 m188 => vp_in (l3 + 1) N ∧ (((xs (l3 + 1).toNatClampNeg) = 0) → Evi G 12 mX12_lies [.ref (ga G 273), .int 0] m188 (fun r189 m190 => ((r187 = r189) → Lw G b N xs 1569 [.ref b, .ref (ga G 0), .ref (ga G 273), .int l3] [] m190) ∧ ((¬ r187 = r189) → False))) ∧ ((¬ (xs (l3 + 1).toNatClampNeg) = 0) → Evi G 12 mX12_lies [.ref (ga G 273), .int 1] m188 (fun r191 m192 => ((r187 = r191) → Lw G b N xs 1569 [.ref b, .ref (ga G 0), .ref (ga G 273), .int l3] [] m192) ∧ ((¬ r187 = r191) → False)))))) : Lw G b N xs 1340 [.ref b, .ref (ga G 0), .ref (ga G 273), .int l3] [] m := by
  refine lo_aload_n dL_law_1340 rfl ?_
  refine lo_aload_n dL_law_1341 rfl ?_
  refine lo_iload_n dL_law_1342 rfl ?_
  refine lo_iconst (v := 1) dL_law_1343 (by decide) ?_
  refine lo_iadd dL_law_1344 ?_
  obtain ⟨hi, hF⟩ := hF
  refine lo_sld dL_law_1345 hi ?_
  refine lo_if_eq 1353 dL_law_1346 rfl ⟨fun hc => ?_, fun hc => ?_⟩
  · have hF := hF.1 hc
    refine lo_iconst (v := 0) dL_law_1353 (by decide) ?_
    refine lo_callV mX11_lies dL_law_1354 ll_173 okX11_lies isX11_lies sh_0 rfl (As := [.int 0]) (S := []) rfl rfl (Nat.le_of_ble_eq_true rfl) hF (lk_i (fun r181 m182 hF => ?_))
    refine lo_aload_n dL_law_1357 rfl ?_
    refine lo_aload_n dL_law_1358 rfl ?_
    refine lo_iload_n dL_law_1359 rfl ?_
    refine lo_iconst (v := 1) dL_law_1360 (by decide) ?_
    refine lo_iadd dL_law_1361 ?_
    obtain ⟨hi, hF⟩ := hF
    refine lo_sld dL_law_1362 hi ?_
    refine lo_if_eq 1370 dL_law_1363 rfl ⟨fun hc => ?_, fun hc => ?_⟩
    · have hF := hF.1 hc
      refine lo_iconst (v := 0) dL_law_1370 (by decide) ?_
      refine lo_callV mX12_lies dL_law_1371 ll_176 okX12_lies isX12_lies sh_273 rfl (As := [.int 0]) (S := [.int r181]) rfl rfl (Nat.le_of_ble_eq_true rfl) hF (lk_i (fun r183 m184 hF => ?_))
      refine lo_icmp_eq 1569 dL_law_1374 rfl ⟨fun hc => ?_, fun hc => ?_⟩
      · have hF := hF.1 hc
        exact hF
      · have hF := hF.2 hc
        refine lo_iconst (v := 0) dL_law_1377 (by decide) ?_
        exact lo_no hF
    · have hF := hF.2 hc
      refine lo_iconst (v := 1) dL_law_1366 (by decide) ?_
      refine lo_goto 1371 dL_law_1367 rfl ?_
      refine lo_callV mX12_lies dL_law_1371 ll_176 okX12_lies isX12_lies sh_273 rfl (As := [.int 1]) (S := [.int r181]) rfl rfl (Nat.le_of_ble_eq_true rfl) hF (lk_i (fun r185 m186 hF => ?_))
      refine lo_icmp_eq 1569 dL_law_1374 rfl ⟨fun hc => ?_, fun hc => ?_⟩
      · have hF := hF.1 hc
        exact hF
      · have hF := hF.2 hc
        refine lo_iconst (v := 0) dL_law_1377 (by decide) ?_
        exact lo_no hF
  · have hF := hF.2 hc
    refine lo_iconst (v := 1) dL_law_1349 (by decide) ?_
    refine lo_goto 1354 dL_law_1350 rfl ?_
    refine lo_callV mX11_lies dL_law_1354 ll_173 okX11_lies isX11_lies sh_0 rfl (As := [.int 1]) (S := []) rfl rfl (Nat.le_of_ble_eq_true rfl) hF (lk_i (fun r187 m188 hF => ?_))
    refine lo_aload_n dL_law_1357 rfl ?_
    refine lo_aload_n dL_law_1358 rfl ?_
    refine lo_iload_n dL_law_1359 rfl ?_
    refine lo_iconst (v := 1) dL_law_1360 (by decide) ?_
    refine lo_iadd dL_law_1361 ?_
    obtain ⟨hi, hF⟩ := hF
    refine lo_sld dL_law_1362 hi ?_
    refine lo_if_eq 1370 dL_law_1363 rfl ⟨fun hc => ?_, fun hc => ?_⟩
    · have hF := hF.1 hc
      refine lo_iconst (v := 0) dL_law_1370 (by decide) ?_
      refine lo_callV mX12_lies dL_law_1371 ll_176 okX12_lies isX12_lies sh_273 rfl (As := [.int 0]) (S := [.int r187]) rfl rfl (Nat.le_of_ble_eq_true rfl) hF (lk_i (fun r189 m190 hF => ?_))
      refine lo_icmp_eq 1569 dL_law_1374 rfl ⟨fun hc => ?_, fun hc => ?_⟩
      · have hF := hF.1 hc
        exact hF
      · have hF := hF.2 hc
        refine lo_iconst (v := 0) dL_law_1377 (by decide) ?_
        exact lo_no hF
    · have hF := hF.2 hc
      refine lo_iconst (v := 1) dL_law_1366 (by decide) ?_
      refine lo_goto 1371 dL_law_1367 rfl ?_
      refine lo_callV mX12_lies dL_law_1371 ll_176 okX12_lies isX12_lies sh_273 rfl (As := [.int 1]) (S := [.int r187]) rfl rfl (Nat.le_of_ble_eq_true rfl) hF (lk_i (fun r191 m192 hF => ?_))
      refine lo_icmp_eq 1569 dL_law_1374 rfl ⟨fun hc => ?_, fun hc => ?_⟩
      · have hF := hF.1 hc
        exact hF
      · have hF := hF.2 hc
        refine lo_iconst (v := 0) dL_law_1377 (by decide) ?_
        exact lo_no hF
theorem vlaw_1379 (G : GP) (b N : Nat) (xs : Nat → Int32) (l3 : Int32) (m : Mem) (hF : vp_in (l3 + 1) N ∧ Evi G 12 mX11_newBell [.ref (ga G 0), .int (xs (l3 + 1).toNatClampNeg)] m (fun r193 m194 => vp_in (l3 + 1) N ∧ Evi G 12 mX12_newBell [.ref (ga G 273), .int (xs (l3 + 1).toNatClampNeg)] m194 (fun r195 m196 => ((r193 = r195) → Lw G b N xs 1569 [.ref b, .ref (ga G 0), .ref (ga G 273), .int l3] [] m196) ∧ ((¬ r193 = r195) → False)))) : Lw G b N xs 1379 [.ref b, .ref (ga G 0), .ref (ga G 273), .int l3] [] m := by
  refine lo_aload_n dL_law_1379 rfl ?_
  refine lo_aload_n dL_law_1380 rfl ?_
  refine lo_iload_n dL_law_1381 rfl ?_
  refine lo_iconst (v := 1) dL_law_1382 (by decide) ?_
  refine lo_iadd dL_law_1383 ?_
  obtain ⟨hi, hF⟩ := hF
  refine lo_sld dL_law_1384 hi ?_
  refine lo_callV mX11_newBell dL_law_1385 ll_177 okX11_newBell isX11_newBell sh_0 rfl (As := [.int (xs (l3 + 1).toNatClampNeg)]) (S := []) rfl rfl (Nat.le_of_ble_eq_true rfl) hF (lk_i (fun r193 m194 hF => ?_))
  refine lo_aload_n dL_law_1388 rfl ?_
  refine lo_aload_n dL_law_1389 rfl ?_
  refine lo_iload_n dL_law_1390 rfl ?_
  refine lo_iconst (v := 1) dL_law_1391 (by decide) ?_
  refine lo_iadd dL_law_1392 ?_
  obtain ⟨hi, hF⟩ := hF
  refine lo_sld dL_law_1393 hi ?_
  refine lo_callV mX12_newBell dL_law_1394 ll_180 okX12_newBell isX12_newBell sh_273 rfl (As := [.int (xs (l3 + 1).toNatClampNeg)]) (S := [.int r193]) rfl rfl (Nat.le_of_ble_eq_true rfl) hF (lk_i (fun r195 m196 hF => ?_))
  refine lo_icmp_eq 1569 dL_law_1397 rfl ⟨fun hc => ?_, fun hc => ?_⟩
  · have hF := hF.1 hc
    exact hF
  · have hF := hF.2 hc
    refine lo_iconst (v := 0) dL_law_1400 (by decide) ?_
    exact lo_no hF
theorem vlaw_1402 (G : GP) (b N : Nat) (xs : Nat → Int32) (l3 : Int32) (m : Mem) (hF : Evi G 12 mX11_farthest [.ref (ga G 0)] m (fun r197 m198 => Evi G 12 mX12_farthest [.ref (ga G 273)] m198 (fun r199 m200 => ((r197 = r199) → Lw G b N xs 1569 [.ref b, .ref (ga G 0), .ref (ga G 273), .int l3] [] m200) ∧ ((¬ r197 = r199) → False)))) : Lw G b N xs 1402 [.ref b, .ref (ga G 0), .ref (ga G 273), .int l3] [] m := by
  refine lo_aload_n dL_law_1402 rfl ?_
  refine lo_callV mX11_farthest dL_law_1403 ll_181 okX11_farthest isX11_farthest sh_0 rfl (As := []) (S := []) rfl rfl (Nat.le_of_ble_eq_true rfl) hF (lk_i (fun r197 m198 hF => ?_))
  refine lo_aload_n dL_law_1406 rfl ?_
  refine lo_callV mX12_farthest dL_law_1407 ll_184 okX12_farthest isX12_farthest sh_273 rfl (As := []) (S := [.int r197]) rfl rfl (Nat.le_of_ble_eq_true rfl) hF (lk_i (fun r199 m200 hF => ?_))
  refine lo_icmp_eq 1569 dL_law_1410 rfl ⟨fun hc => ?_, fun hc => ?_⟩
  · have hF := hF.1 hc
    exact hF
  · have hF := hF.2 hc
    refine lo_iconst (v := 0) dL_law_1413 (by decide) ?_
    exact lo_no hF
theorem vlaw_1415 (G : GP) (b N : Nat) (xs : Nat → Int32) (l3 : Int32) (m : Mem) (hF : Evi G 12 mX11_ropes [.ref (ga G 0)] m (fun r201 m202 => Evi G 12 mX12_ropes [.ref (ga G 273)] m202 (fun r203 m204 => ((r201 = r203) → Lw G b N xs 1569 [.ref b, .ref (ga G 0), .ref (ga G 273), .int l3] [] m204) ∧ ((¬ r201 = r203) → False)))) : Lw G b N xs 1415 [.ref b, .ref (ga G 0), .ref (ga G 273), .int l3] [] m := by
  refine lo_aload_n dL_law_1415 rfl ?_
  refine lo_callV mX11_ropes dL_law_1416 ll_185 okX11_ropes isX11_ropes sh_0 rfl (As := []) (S := []) rfl rfl (Nat.le_of_ble_eq_true rfl) hF (lk_i (fun r201 m202 hF => ?_))
  refine lo_aload_n dL_law_1419 rfl ?_
  refine lo_callV mX12_ropes dL_law_1420 ll_188 okX12_ropes isX12_ropes sh_273 rfl (As := []) (S := [.int r201]) rfl rfl (Nat.le_of_ble_eq_true rfl) hF (lk_i (fun r203 m204 hF => ?_))
  refine lo_icmp_eq 1569 dL_law_1423 rfl ⟨fun hc => ?_, fun hc => ?_⟩
  · have hF := hF.1 hc
    exact hF
  · have hF := hF.2 hc
    refine lo_iconst (v := 0) dL_law_1426 (by decide) ?_
    exact lo_no hF
theorem vlaw_1428 (G : GP) (b N : Nat) (xs : Nat → Int32) (l3 : Int32) (m : Mem) (hF : vp_in (l3 + 1) N ∧ vp_in (l3 + 2) N ∧ vp_in (l3 + 3) N ∧ vp_in (l3 + 4) N ∧ (((xs (l3 + 4).toNatClampNeg) = 0) → Evi G 12 mX11_changes [.ref (ga G 0), .int (xs (l3 + 1).toNatClampNeg), .int (xs (l3 + 2).toNatClampNeg), .int (xs (l3 + 3).toNatClampNeg), .int 0] m (fun r205 m206 => vp_in (l3 + 1) N ∧ vp_in (l3 + 2) N ∧ vp_in (l3 + 3) N ∧ vp_in (l3 + 4) N ∧ (((xs (l3 + 4).toNatClampNeg) = 0) → Evi G 12 mX12_changes [.ref (ga G 273), .int (xs (l3 + 1).toNatClampNeg), .int (xs (l3 + 2).toNatClampNeg), .int (xs (l3 + 3).toNatClampNeg), .int 0] m206 (fun r207 m208 => ((r205 = r207) → Lw G b N xs 1569 [.ref b, .ref (ga G 0), .ref (ga G 273), .int l3] [] m208) ∧ ((¬ r205 = r207) → False))) ∧ ((¬ (xs (l3 + 4).toNatClampNeg) = 0) → Evi G 12 mX12_changes [.ref (ga G 273), .int (xs (l3 + 1).toNatClampNeg), .int (xs (l3 + 2).toNatClampNeg), .int (xs (l3 + 3).toNatClampNeg), .int 1] m206 (fun r209 m210 => ((r205 = r209) → Lw G b N xs 1569 [.ref b, .ref (ga G 0), .ref (ga G 273), .int l3] [] m210) ∧ ((¬ r205 = r209) → False))))) ∧ ((¬ (xs (l3 + 4).toNatClampNeg) = 0) → Evi G 12 mX11_changes [.ref (ga G 0), .int (xs (l3 + 1).toNatClampNeg), .int (xs (l3 + 2).toNatClampNeg), .int (xs (l3 + 3).toNatClampNeg), .int 1] m (fun r211 m212 => vp_in (l3 + 1) N ∧ vp_in (l3 + 2) N ∧ vp_in (l3 + 3) N ∧ vp_in (l3 + 4) N ∧ (((xs (l3 + 4).toNatClampNeg) = 0) → Evi G 12 mX12_changes [.ref (ga G 273), .int (xs (l3 + 1).toNatClampNeg), .int (xs (l3 + 2).toNatClampNeg), .int (xs (l3 + 3).toNatClampNeg), .int 0] m212 (fun r213 m214 => ((r211 = r213) → Lw G b N xs 1569 [.ref b, .ref (ga G 0), .ref (ga G 273), .int l3] [] m214) ∧ ((¬ r211 = r213) → False))) ∧ ((¬ (xs (l3 + 4).toNatClampNeg) = 0) → Evi G 12 mX12_changes [.ref (ga G 273), .int (xs (l3 + 1).toNatClampNeg), .int (xs (l3 + 2).toNatClampNeg), .int (xs (l3 + 3).toNatClampNeg), .int 1] m212 (fun r215 m216 => ((r211 = r215) → Lw G b N xs 1569 [.ref b, .ref (ga G 0), .ref (ga G 273), .int l3] [] m216) ∧ ((¬ r211 = r215) → False)))))) : Lw G b N xs 1428 [.ref b, .ref (ga G 0), .ref (ga G 273), .int l3] [] m := by
  refine lo_aload_n dL_law_1428 rfl ?_
  refine lo_aload_n dL_law_1429 rfl ?_
  refine lo_iload_n dL_law_1430 rfl ?_
  refine lo_iconst (v := 1) dL_law_1431 (by decide) ?_
  refine lo_iadd dL_law_1432 ?_
  obtain ⟨hi, hF⟩ := hF
  refine lo_sld dL_law_1433 hi ?_
  refine lo_aload_n dL_law_1434 rfl ?_
  refine lo_iload_n dL_law_1435 rfl ?_
  refine lo_iconst (v := 2) dL_law_1436 (by decide) ?_
  refine lo_iadd dL_law_1437 ?_
  obtain ⟨hi, hF⟩ := hF
  refine lo_sld dL_law_1438 hi ?_
  refine lo_aload_n dL_law_1439 rfl ?_
  refine lo_iload_n dL_law_1440 rfl ?_
  refine lo_iconst (v := 3) dL_law_1441 (by decide) ?_
  refine lo_iadd dL_law_1442 ?_
  obtain ⟨hi, hF⟩ := hF
  refine lo_sld dL_law_1443 hi ?_
  refine lo_aload_n dL_law_1444 rfl ?_
  refine lo_iload_n dL_law_1445 rfl ?_
  refine lo_iconst (v := 4) dL_law_1446 (by decide) ?_
  refine lo_iadd dL_law_1447 ?_
  obtain ⟨hi, hF⟩ := hF
  refine lo_sld dL_law_1448 hi ?_
  refine lo_if_eq 1456 dL_law_1449 rfl ⟨fun hc => ?_, fun hc => ?_⟩
  · have hF := hF.1 hc
    refine lo_iconst (v := 0) dL_law_1456 (by decide) ?_
    refine lo_callV mX11_changes dL_law_1457 ll_189 okX11_changes isX11_changes sh_0 rfl (As := [.int (xs (l3 + 1).toNatClampNeg), .int (xs (l3 + 2).toNatClampNeg), .int (xs (l3 + 3).toNatClampNeg), .int 0]) (S := []) rfl rfl (Nat.le_of_ble_eq_true rfl) hF (lk_i (fun r205 m206 hF => ?_))
    refine lo_aload_n dL_law_1460 rfl ?_
    refine lo_aload_n dL_law_1461 rfl ?_
    refine lo_iload_n dL_law_1462 rfl ?_
    refine lo_iconst (v := 1) dL_law_1463 (by decide) ?_
    refine lo_iadd dL_law_1464 ?_
    obtain ⟨hi, hF⟩ := hF
    refine lo_sld dL_law_1465 hi ?_
    refine lo_aload_n dL_law_1466 rfl ?_
    refine lo_iload_n dL_law_1467 rfl ?_
    refine lo_iconst (v := 2) dL_law_1468 (by decide) ?_
    refine lo_iadd dL_law_1469 ?_
    obtain ⟨hi, hF⟩ := hF
    refine lo_sld dL_law_1470 hi ?_
    refine lo_aload_n dL_law_1471 rfl ?_
    refine lo_iload_n dL_law_1472 rfl ?_
    refine lo_iconst (v := 3) dL_law_1473 (by decide) ?_
    refine lo_iadd dL_law_1474 ?_
    obtain ⟨hi, hF⟩ := hF
    refine lo_sld dL_law_1475 hi ?_
    refine lo_aload_n dL_law_1476 rfl ?_
    refine lo_iload_n dL_law_1477 rfl ?_
    refine lo_iconst (v := 4) dL_law_1478 (by decide) ?_
    refine lo_iadd dL_law_1479 ?_
    obtain ⟨hi, hF⟩ := hF
    refine lo_sld dL_law_1480 hi ?_
    refine lo_if_eq 1488 dL_law_1481 rfl ⟨fun hc => ?_, fun hc => ?_⟩
    · have hF := hF.1 hc
      refine lo_iconst (v := 0) dL_law_1488 (by decide) ?_
      refine lo_callV mX12_changes dL_law_1489 ll_193 okX12_changes isX12_changes sh_273 rfl (As := [.int (xs (l3 + 1).toNatClampNeg), .int (xs (l3 + 2).toNatClampNeg), .int (xs (l3 + 3).toNatClampNeg), .int 0]) (S := [.int r205]) rfl rfl (Nat.le_of_ble_eq_true rfl) hF (lk_i (fun r207 m208 hF => ?_))
      refine lo_icmp_eq 1569 dL_law_1492 rfl ⟨fun hc => ?_, fun hc => ?_⟩
      · have hF := hF.1 hc
        exact hF
      · have hF := hF.2 hc
        refine lo_iconst (v := 0) dL_law_1495 (by decide) ?_
        exact lo_no hF
    · have hF := hF.2 hc
      refine lo_iconst (v := 1) dL_law_1484 (by decide) ?_
      refine lo_goto 1489 dL_law_1485 rfl ?_
      refine lo_callV mX12_changes dL_law_1489 ll_193 okX12_changes isX12_changes sh_273 rfl (As := [.int (xs (l3 + 1).toNatClampNeg), .int (xs (l3 + 2).toNatClampNeg), .int (xs (l3 + 3).toNatClampNeg), .int 1]) (S := [.int r205]) rfl rfl (Nat.le_of_ble_eq_true rfl) hF (lk_i (fun r209 m210 hF => ?_))
      refine lo_icmp_eq 1569 dL_law_1492 rfl ⟨fun hc => ?_, fun hc => ?_⟩
      · have hF := hF.1 hc
        exact hF
      · have hF := hF.2 hc
        refine lo_iconst (v := 0) dL_law_1495 (by decide) ?_
        exact lo_no hF
  · have hF := hF.2 hc
    refine lo_iconst (v := 1) dL_law_1452 (by decide) ?_
    refine lo_goto 1457 dL_law_1453 rfl ?_
    refine lo_callV mX11_changes dL_law_1457 ll_189 okX11_changes isX11_changes sh_0 rfl (As := [.int (xs (l3 + 1).toNatClampNeg), .int (xs (l3 + 2).toNatClampNeg), .int (xs (l3 + 3).toNatClampNeg), .int 1]) (S := []) rfl rfl (Nat.le_of_ble_eq_true rfl) hF (lk_i (fun r211 m212 hF => ?_))
    refine lo_aload_n dL_law_1460 rfl ?_
    refine lo_aload_n dL_law_1461 rfl ?_
    refine lo_iload_n dL_law_1462 rfl ?_
    refine lo_iconst (v := 1) dL_law_1463 (by decide) ?_
    refine lo_iadd dL_law_1464 ?_
    obtain ⟨hi, hF⟩ := hF
    refine lo_sld dL_law_1465 hi ?_
    refine lo_aload_n dL_law_1466 rfl ?_
    refine lo_iload_n dL_law_1467 rfl ?_
    refine lo_iconst (v := 2) dL_law_1468 (by decide) ?_
    refine lo_iadd dL_law_1469 ?_
    obtain ⟨hi, hF⟩ := hF
    refine lo_sld dL_law_1470 hi ?_
    refine lo_aload_n dL_law_1471 rfl ?_
    refine lo_iload_n dL_law_1472 rfl ?_
    refine lo_iconst (v := 3) dL_law_1473 (by decide) ?_
    refine lo_iadd dL_law_1474 ?_
    obtain ⟨hi, hF⟩ := hF
    refine lo_sld dL_law_1475 hi ?_
    refine lo_aload_n dL_law_1476 rfl ?_
    refine lo_iload_n dL_law_1477 rfl ?_
    refine lo_iconst (v := 4) dL_law_1478 (by decide) ?_
    refine lo_iadd dL_law_1479 ?_
    obtain ⟨hi, hF⟩ := hF
    refine lo_sld dL_law_1480 hi ?_
    refine lo_if_eq 1488 dL_law_1481 rfl ⟨fun hc => ?_, fun hc => ?_⟩
    · have hF := hF.1 hc
      refine lo_iconst (v := 0) dL_law_1488 (by decide) ?_
      refine lo_callV mX12_changes dL_law_1489 ll_193 okX12_changes isX12_changes sh_273 rfl (As := [.int (xs (l3 + 1).toNatClampNeg), .int (xs (l3 + 2).toNatClampNeg), .int (xs (l3 + 3).toNatClampNeg), .int 0]) (S := [.int r211]) rfl rfl (Nat.le_of_ble_eq_true rfl) hF (lk_i (fun r213 m214 hF => ?_))
      refine lo_icmp_eq 1569 dL_law_1492 rfl ⟨fun hc => ?_, fun hc => ?_⟩
      · have hF := hF.1 hc
        exact hF
      · have hF := hF.2 hc
        refine lo_iconst (v := 0) dL_law_1495 (by decide) ?_
        exact lo_no hF
    · have hF := hF.2 hc
      refine lo_iconst (v := 1) dL_law_1484 (by decide) ?_
      refine lo_goto 1489 dL_law_1485 rfl ?_
      refine lo_callV mX12_changes dL_law_1489 ll_193 okX12_changes isX12_changes sh_273 rfl (As := [.int (xs (l3 + 1).toNatClampNeg), .int (xs (l3 + 2).toNatClampNeg), .int (xs (l3 + 3).toNatClampNeg), .int 1]) (S := [.int r211]) rfl rfl (Nat.le_of_ble_eq_true rfl) hF (lk_i (fun r215 m216 hF => ?_))
      refine lo_icmp_eq 1569 dL_law_1492 rfl ⟨fun hc => ?_, fun hc => ?_⟩
      · have hF := hF.1 hc
        exact hF
      · have hF := hF.2 hc
        refine lo_iconst (v := 0) dL_law_1495 (by decide) ?_
        exact lo_no hF
theorem vlaw_1497 (G : GP) (b N : Nat) (xs : Nat → Int32) (l3 : Int32) (m : Mem) (hF : vp_in (l3 + 1) N ∧ Evi G 12 mX11_takes [.ref (ga G 0), .int (xs (l3 + 1).toNatClampNeg)] m (fun r217 m218 => vp_in (l3 + 1) N ∧ Evi G 12 mX12_takes [.ref (ga G 273), .int (xs (l3 + 1).toNatClampNeg)] m218 (fun r219 m220 => ((r217 = r219) → Lw G b N xs 1569 [.ref b, .ref (ga G 0), .ref (ga G 273), .int l3] [] m220) ∧ ((¬ r217 = r219) → False)))) : Lw G b N xs 1497 [.ref b, .ref (ga G 0), .ref (ga G 273), .int l3] [] m := by
  refine lo_aload_n dL_law_1497 rfl ?_
  refine lo_aload_n dL_law_1498 rfl ?_
  refine lo_iload_n dL_law_1499 rfl ?_
  refine lo_iconst (v := 1) dL_law_1500 (by decide) ?_
  refine lo_iadd dL_law_1501 ?_
  obtain ⟨hi, hF⟩ := hF
  refine lo_sld dL_law_1502 hi ?_
  refine lo_callV mX11_takes dL_law_1503 ll_194 okX11_takes isX11_takes sh_0 rfl (As := [.int (xs (l3 + 1).toNatClampNeg)]) (S := []) rfl rfl (Nat.le_of_ble_eq_true rfl) hF (lk_i (fun r217 m218 hF => ?_))
  refine lo_aload_n dL_law_1506 rfl ?_
  refine lo_aload_n dL_law_1507 rfl ?_
  refine lo_iload_n dL_law_1508 rfl ?_
  refine lo_iconst (v := 1) dL_law_1509 (by decide) ?_
  refine lo_iadd dL_law_1510 ?_
  obtain ⟨hi, hF⟩ := hF
  refine lo_sld dL_law_1511 hi ?_
  refine lo_callV mX12_takes dL_law_1512 ll_197 okX12_takes isX12_takes sh_273 rfl (As := [.int (xs (l3 + 1).toNatClampNeg)]) (S := [.int r217]) rfl rfl (Nat.le_of_ble_eq_true rfl) hF (lk_i (fun r219 m220 hF => ?_))
  refine lo_icmp_eq 1569 dL_law_1515 rfl ⟨fun hc => ?_, fun hc => ?_⟩
  · have hF := hF.1 hc
    exact hF
  · have hF := hF.2 hc
    refine lo_iconst (v := 0) dL_law_1518 (by decide) ?_
    exact lo_no hF
theorem vlaw_1520 (G : GP) (b N : Nat) (xs : Nat → Int32) (l3 : Int32) (m : Mem) (hF : Evi G 12 mX11_image [.ref (ga G 0)] m (fun r221 m222 => Evi G 12 mX12_image [.ref (ga G 273)] m222 (fun r223 m224 => ((r221 = r223) → Lw G b N xs 1569 [.ref b, .ref (ga G 0), .ref (ga G 273), .int l3] [] m224) ∧ ((¬ r221 = r223) → False)))) : Lw G b N xs 1520 [.ref b, .ref (ga G 0), .ref (ga G 273), .int l3] [] m := by
  refine lo_aload_n dL_law_1520 rfl ?_
  refine lo_callV mX11_image dL_law_1521 ll_198 okX11_image isX11_image sh_0 rfl (As := []) (S := []) rfl rfl (Nat.le_of_ble_eq_true rfl) hF (lk_i (fun r221 m222 hF => ?_))
  refine lo_aload_n dL_law_1524 rfl ?_
  refine lo_callV mX12_image dL_law_1525 ll_201 okX12_image isX12_image sh_273 rfl (As := []) (S := [.int r221]) rfl rfl (Nat.le_of_ble_eq_true rfl) hF (lk_i (fun r223 m224 hF => ?_))
  refine lo_icmp_eq 1569 dL_law_1528 rfl ⟨fun hc => ?_, fun hc => ?_⟩
  · have hF := hF.1 hc
    exact hF
  · have hF := hF.2 hc
    refine lo_iconst (v := 0) dL_law_1531 (by decide) ?_
    exact lo_no hF
theorem vlaw_1533 (G : GP) (b N : Nat) (xs : Nat → Int32) (l3 : Int32) (m : Mem) (hF : Evi G 12 mX11_back [.ref (ga G 0)] m (fun r225 m226 => Evi G 12 mX12_back [.ref (ga G 273)] m226 (fun r227 m228 => ((r225 = r227) → Lw G b N xs 1569 [.ref b, .ref (ga G 0), .ref (ga G 273), .int l3] [] m228) ∧ ((¬ r225 = r227) → False)))) : Lw G b N xs 1533 [.ref b, .ref (ga G 0), .ref (ga G 273), .int l3] [] m := by
  refine lo_aload_n dL_law_1533 rfl ?_
  refine lo_callV mX11_back dL_law_1534 ll_202 okX11_back isX11_back sh_0 rfl (As := []) (S := []) rfl rfl (Nat.le_of_ble_eq_true rfl) hF (lk_i (fun r225 m226 hF => ?_))
  refine lo_aload_n dL_law_1537 rfl ?_
  refine lo_callV mX12_back dL_law_1538 ll_205 okX12_back isX12_back sh_273 rfl (As := []) (S := [.int r225]) rfl rfl (Nat.le_of_ble_eq_true rfl) hF (lk_i (fun r227 m228 hF => ?_))
  refine lo_icmp_eq 1569 dL_law_1541 rfl ⟨fun hc => ?_, fun hc => ?_⟩
  · have hF := hF.1 hc
    exact hF
  · have hF := hF.2 hc
    refine lo_iconst (v := 0) dL_law_1544 (by decide) ?_
    exact lo_no hF
theorem vlaw_1546 (G : GP) (b N : Nat) (xs : Nat → Int32) (l3 : Int32) (m : Mem) (hF : vp_in (l3 + 1) N ∧ Evi G 12 mX11_about [.ref (ga G 0), .int (xs (l3 + 1).toNatClampNeg)] m (fun r229 m230 => vp_in (l3 + 1) N ∧ Evi G 12 mX12_about [.ref (ga G 273), .int (xs (l3 + 1).toNatClampNeg)] m230 (fun r231 m232 => ((r229 = r231) → Lw G b N xs 1569 [.ref b, .ref (ga G 0), .ref (ga G 273), .int l3] [] m232) ∧ ((¬ r229 = r231) → False)))) : Lw G b N xs 1546 [.ref b, .ref (ga G 0), .ref (ga G 273), .int l3] [] m := by
  refine lo_aload_n dL_law_1546 rfl ?_
  refine lo_aload_n dL_law_1547 rfl ?_
  refine lo_iload_n dL_law_1548 rfl ?_
  refine lo_iconst (v := 1) dL_law_1549 (by decide) ?_
  refine lo_iadd dL_law_1550 ?_
  obtain ⟨hi, hF⟩ := hF
  refine lo_sld dL_law_1551 hi ?_
  refine lo_callV mX11_about dL_law_1552 ll_206 okX11_about isX11_about sh_0 rfl (As := [.int (xs (l3 + 1).toNatClampNeg)]) (S := []) rfl rfl (Nat.le_of_ble_eq_true rfl) hF (lk_i (fun r229 m230 hF => ?_))
  refine lo_aload_n dL_law_1555 rfl ?_
  refine lo_aload_n dL_law_1556 rfl ?_
  refine lo_iload_n dL_law_1557 rfl ?_
  refine lo_iconst (v := 1) dL_law_1558 (by decide) ?_
  refine lo_iadd dL_law_1559 ?_
  obtain ⟨hi, hF⟩ := hF
  refine lo_sld dL_law_1560 hi ?_
  refine lo_callV mX12_about dL_law_1561 ll_209 okX12_about isX12_about sh_273 rfl (As := [.int (xs (l3 + 1).toNatClampNeg)]) (S := [.int r229]) rfl rfl (Nat.le_of_ble_eq_true rfl) hF (lk_i (fun r231 m232 hF => ?_))
  refine lo_icmp_eq 1569 dL_law_1564 rfl ⟨fun hc => ?_, fun hc => ?_⟩
  · have hF := hF.1 hc
    exact hF
  · have hF := hF.2 hc
    refine lo_iconst (v := 0) dL_law_1567 (by decide) ?_
    exact lo_no hF
theorem vlaw_1569 (G : GP) (b N : Nat) (xs : Nat → Int32) (l3 : Int32) (m : Mem) (hF : ∀ x233 : Int32, x233 = l3 + 7 → Lw G b N xs 18 [.ref b, .ref (ga G 0), .ref (ga G 273), .int x233] [] m) : Lw G b N xs 1569 [.ref b, .ref (ga G 0), .ref (ga G 273), .int l3] [] m := by
  obtain ⟨x233, ex233⟩ : ∃ z : Int32, z = l3 + 7 := ⟨_, rfl⟩
  have hF := hF x233 ex233
  refine lo_iinc (v := x233) (L' := [.ref b, .ref (ga G 0), .ref (ga G 273), .int x233]) dL_law_1569 rfl (by rw [ex233]; rfl) (Nat.le_of_ble_eq_true rfl) rfl ?_
  refine lo_goto 18 dL_law_1572 rfl ?_
  exact hF
