theorem vX12_isFollows (G : GP) (d : Nat)  (m : Mem) (K : Int32 → Mem → Prop) (hF : Evi G (d + 3) mX12_isLong [.ref (ga G 273), .int 7, .long (w4V 102 111 108 108), .long (w3V 111 119 115)] m (fun r2 m1 => (r2 = 0 ∨ r2 = 1) ∧ K r2 m1)) : Evi G (d + 4) mX12_isFollows [.ref (ga G 273)] m K := by
  refine Ev.go [.ref (ga G 273)] (by decide) (Nat.le_of_ble_eq_true rfl) rfl ?_
  refine go_aload_n dX12_isFollows_0 rfl ?_
  refine go_bipush (v := 7) dX12_isFollows_1 (by decide) ?_
  refine go_bipush (v := 102) dX12_isFollows_3 (by decide) ?_
  refine go_bipush (v := 111) dX12_isFollows_5 (by decide) ?_
  refine go_bipush (v := 108) dX12_isFollows_7 (by decide) ?_
  refine go_bipush (v := 108) dX12_isFollows_9 (by decide) ?_
  refine go_callS mX12_w4 dX12_isFollows_11 lm_X12_143 okX12_w4 isX12_w4 (As := [.int 102, .int 111, .int 108, .int 108]) (S := [.int 7, .ref (ga G 273)]) rfl rfl (Nat.le_of_ble_eq_true rfl) (eX12_w4 G _ 102 111 108 108 m (fun r m' => r = w4V 102 111 108 108 ∧ m = m') ⟨rfl, rfl⟩) (k_l (fun r m' hr => ?_))
  obtain ⟨hr1, hr2⟩ := hr
  subst hr1
  subst hr2
  refine go_bipush (v := 111) dX12_isFollows_14 (by decide) ?_
  refine go_bipush (v := 119) dX12_isFollows_16 (by decide) ?_
  refine go_bipush (v := 115) dX12_isFollows_18 (by decide) ?_
  refine go_callS mX12_w3 dX12_isFollows_20 lm_X12_139 okX12_w3 isX12_w3 (As := [.int 111, .int 119, .int 115]) (S := [.long (w4V 102 111 108 108), .int 7, .ref (ga G 273)]) rfl rfl (Nat.le_of_ble_eq_true rfl) (eX12_w3 G _ 111 119 115 m (fun r m' => r = w3V 111 119 115 ∧ m = m') ⟨rfl, rfl⟩) (k_l (fun r m' hr => ?_))
  obtain ⟨hr1, hr2⟩ := hr
  subst hr1
  subst hr2
  refine go_callV mX12_isLong dX12_isFollows_23 lm_X12_157 okX12_isLong isX12_isLong sh_273 rfl (As := [.int 7, .long (w4V 102 111 108 108), .long (w3V 111 119 115)]) (S := []) rfl rfl (Nat.le_of_ble_eq_true rfl) hF (k_i (fun r2 m1 hF => ?_))
  exact go_zret (S := []) dX12_isFollows_26 rfl hF.1 ⟨_, rfl, hF.2⟩
theorem vX12_isMeaning (G : GP) (d : Nat)  (m : Mem) (K : Int32 → Mem → Prop) (hF : Evi G (d + 3) mX12_isLong [.ref (ga G 273), .int 7, .long (w4V 109 101 97 110), .long (w3V 105 110 103)] m (fun r2 m1 => (r2 = 0 ∨ r2 = 1) ∧ K r2 m1)) : Evi G (d + 4) mX12_isMeaning [.ref (ga G 273)] m K := by
  refine Ev.go [.ref (ga G 273)] (by decide) (Nat.le_of_ble_eq_true rfl) rfl ?_
  refine go_aload_n dX12_isMeaning_0 rfl ?_
  refine go_bipush (v := 7) dX12_isMeaning_1 (by decide) ?_
  refine go_bipush (v := 109) dX12_isMeaning_3 (by decide) ?_
  refine go_bipush (v := 101) dX12_isMeaning_5 (by decide) ?_
  refine go_bipush (v := 97) dX12_isMeaning_7 (by decide) ?_
  refine go_bipush (v := 110) dX12_isMeaning_9 (by decide) ?_
  refine go_callS mX12_w4 dX12_isMeaning_11 lm_X12_143 okX12_w4 isX12_w4 (As := [.int 109, .int 101, .int 97, .int 110]) (S := [.int 7, .ref (ga G 273)]) rfl rfl (Nat.le_of_ble_eq_true rfl) (eX12_w4 G _ 109 101 97 110 m (fun r m' => r = w4V 109 101 97 110 ∧ m = m') ⟨rfl, rfl⟩) (k_l (fun r m' hr => ?_))
  obtain ⟨hr1, hr2⟩ := hr
  subst hr1
  subst hr2
  refine go_bipush (v := 105) dX12_isMeaning_14 (by decide) ?_
  refine go_bipush (v := 110) dX12_isMeaning_16 (by decide) ?_
  refine go_bipush (v := 103) dX12_isMeaning_18 (by decide) ?_
  refine go_callS mX12_w3 dX12_isMeaning_20 lm_X12_139 okX12_w3 isX12_w3 (As := [.int 105, .int 110, .int 103]) (S := [.long (w4V 109 101 97 110), .int 7, .ref (ga G 273)]) rfl rfl (Nat.le_of_ble_eq_true rfl) (eX12_w3 G _ 105 110 103 m (fun r m' => r = w3V 105 110 103 ∧ m = m') ⟨rfl, rfl⟩) (k_l (fun r m' hr => ?_))
  obtain ⟨hr1, hr2⟩ := hr
  subst hr1
  subst hr2
  refine go_callV mX12_isLong dX12_isMeaning_23 lm_X12_157 okX12_isLong isX12_isLong sh_273 rfl (As := [.int 7, .long (w4V 109 101 97 110), .long (w3V 105 110 103)]) (S := []) rfl rfl (Nat.le_of_ble_eq_true rfl) hF (k_i (fun r2 m1 hF => ?_))
  exact go_zret (S := []) dX12_isMeaning_26 rfl hF.1 ⟨_, rfl, hF.2⟩
theorem vX12_nameOf (G : GP) (d : Nat)  (m : Mem) (K : Int32 → Mem → Prop) (hF : (((m.1 273 10) = 2) → ((¬ (lg_cmp (m.2.1 273 12) (w4V 108 111 117 100)) = 0) → ((¬ (lg_cmp (m.2.1 273 12) (w5V 112 105 116 99 104)) = 0) → ((¬ (lg_cmp (m.2.1 273 12) (w3V 109 101 110)) = 0) → ((¬ (lg_cmp (m.2.1 273 12) (w4V 119 105 110 100)) = 0) → ((¬ (lg_cmp (m.2.1 273 12) (w5V 102 114 111 115 116)) = 0) → ((¬ (lg_cmp (m.2.1 273 12) (w4V 104 111 117 114)) = 0) → Evi G (d + 4) mX12_isStrokes [.ref (ga G 273)] m (fun r2 m1 => ((r2 = 0) → ((¬ (lg_cmp (m1.2.1 273 12) (w4V 98 101 108 108)) = 0) → ((¬ (lg_cmp (m1.2.1 273 12) (w4V 107 105 110 100)) = 0) → ((¬ (lg_cmp (m1.2.1 273 12) (w5V 109 101 97 110 115)) = 0) → ((¬ (lg_cmp (m1.2.1 273 12) (w4V 110 101 120 116)) = 0) → Evi G (d + 4) mX12_isMeaning [.ref (ga G 273)] m1 (fun r4 m3 => ((r4 = 0) → ((¬ (lg_cmp (m3.2.1 273 12) (w5V 112 108 97 99 101)) = 0) → K (-1) m3) ∧ (((lg_cmp (m3.2.1 273 12) (w5V 112 108 97 99 101)) = 0) → K 12 m3)) ∧ ((¬ r4 = 0) → K 11 m3))) ∧ (((lg_cmp (m1.2.1 273 12) (w4V 110 101 120 116)) = 0) → K 10 m1)) ∧ (((lg_cmp (m1.2.1 273 12) (w5V 109 101 97 110 115)) = 0) → K 9 m1)) ∧ (((lg_cmp (m1.2.1 273 12) (w4V 107 105 110 100)) = 0) → K 8 m1)) ∧ (((lg_cmp (m1.2.1 273 12) (w4V 98 101 108 108)) = 0) → K 7 m1)) ∧ ((¬ r2 = 0) → K 6 m1))) ∧ (((lg_cmp (m.2.1 273 12) (w4V 104 111 117 114)) = 0) → K 5 m)) ∧ (((lg_cmp (m.2.1 273 12) (w5V 102 114 111 115 116)) = 0) → K 4 m)) ∧ (((lg_cmp (m.2.1 273 12) (w4V 119 105 110 100)) = 0) → K 3 m)) ∧ (((lg_cmp (m.2.1 273 12) (w3V 109 101 110)) = 0) → K 2 m)) ∧ (((lg_cmp (m.2.1 273 12) (w5V 112 105 116 99 104)) = 0) → K 1 m)) ∧ (((lg_cmp (m.2.1 273 12) (w4V 108 111 117 100)) = 0) → K 0 m)) ∧ ((¬ (m.1 273 10) = 2) → K (-1) m)) : Evi G (d + 5) mX12_nameOf [.ref (ga G 273)] m K := by
  refine Ev.go [.ref (ga G 273)] (by decide) (Nat.le_of_ble_eq_true rfl) rfl ?_
  refine go_aload_n dX12_nameOf_0 rfl ?_
  refine go_getI (k := 10) dX12_nameOf_1 sh_273 rfl inX12 (Nat.le_of_ble_eq_true rfl) lf_X12_113 rfl ?_
  refine go_iconst (v := 2) dX12_nameOf_4 (by decide) ?_
  refine go_icmp_eq 10 dX12_nameOf_5 rfl ⟨fun hc => ?_, fun hc => ?_⟩
  · have hF := hF.1 hc
    refine go_aload_n dX12_nameOf_10 rfl ?_
    refine go_getL (k := 12) dX12_nameOf_11 sh_273 rfl inX12 (Nat.le_of_ble_eq_true rfl) lf_X12_126 rfl ?_
    refine go_bipush (v := 108) dX12_nameOf_14 (by decide) ?_
    refine go_bipush (v := 111) dX12_nameOf_16 (by decide) ?_
    refine go_bipush (v := 117) dX12_nameOf_18 (by decide) ?_
    refine go_bipush (v := 100) dX12_nameOf_20 (by decide) ?_
    refine go_callS mX12_w4 dX12_nameOf_22 lm_X12_143 okX12_w4 isX12_w4 (As := [.int 108, .int 111, .int 117, .int 100]) (S := [.long (m.2.1 273 12)]) rfl rfl (Nat.le_of_ble_eq_true rfl) (eX12_w4 G _ 108 111 117 100 m (fun r m' => r = w4V 108 111 117 100 ∧ m = m') ⟨rfl, rfl⟩) (k_l (fun r m' hr => ?_))
    obtain ⟨hr1, hr2⟩ := hr
    subst hr1
    subst hr2
    refine go_lcmp dX12_nameOf_25 ?_
    refine go_if_ne 31 dX12_nameOf_26 rfl ⟨fun hc => ?_, fun hc => ?_⟩
    · have hF := hF.1 hc
      refine go_aload_n dX12_nameOf_31 rfl ?_
      refine go_getL (k := 12) dX12_nameOf_32 sh_273 rfl inX12 (Nat.le_of_ble_eq_true rfl) lf_X12_126 rfl ?_
      refine go_bipush (v := 112) dX12_nameOf_35 (by decide) ?_
      refine go_bipush (v := 105) dX12_nameOf_37 (by decide) ?_
      refine go_bipush (v := 116) dX12_nameOf_39 (by decide) ?_
      refine go_bipush (v := 99) dX12_nameOf_41 (by decide) ?_
      refine go_bipush (v := 104) dX12_nameOf_43 (by decide) ?_
      refine go_callS mX12_w5 dX12_nameOf_45 lm_X12_147 okX12_w5 isX12_w5 (As := [.int 112, .int 105, .int 116, .int 99, .int 104]) (S := [.long (m.2.1 273 12)]) rfl rfl (Nat.le_of_ble_eq_true rfl) (eX12_w5 G _ 112 105 116 99 104 m (fun r m' => r = w5V 112 105 116 99 104 ∧ m = m') ⟨rfl, rfl⟩) (k_l (fun r m' hr => ?_))
      obtain ⟨hr1, hr2⟩ := hr
      subst hr1
      subst hr2
      refine go_lcmp dX12_nameOf_48 ?_
      refine go_if_ne 54 dX12_nameOf_49 rfl ⟨fun hc => ?_, fun hc => ?_⟩
      · have hF := hF.1 hc
        refine go_aload_n dX12_nameOf_54 rfl ?_
        refine go_getL (k := 12) dX12_nameOf_55 sh_273 rfl inX12 (Nat.le_of_ble_eq_true rfl) lf_X12_126 rfl ?_
        refine go_bipush (v := 109) dX12_nameOf_58 (by decide) ?_
        refine go_bipush (v := 101) dX12_nameOf_60 (by decide) ?_
        refine go_bipush (v := 110) dX12_nameOf_62 (by decide) ?_
        refine go_callS mX12_w3 dX12_nameOf_64 lm_X12_139 okX12_w3 isX12_w3 (As := [.int 109, .int 101, .int 110]) (S := [.long (m.2.1 273 12)]) rfl rfl (Nat.le_of_ble_eq_true rfl) (eX12_w3 G _ 109 101 110 m (fun r m' => r = w3V 109 101 110 ∧ m = m') ⟨rfl, rfl⟩) (k_l (fun r m' hr => ?_))
        obtain ⟨hr1, hr2⟩ := hr
        subst hr1
        subst hr2
        refine go_lcmp dX12_nameOf_67 ?_
        refine go_if_ne 73 dX12_nameOf_68 rfl ⟨fun hc => ?_, fun hc => ?_⟩
        · have hF := hF.1 hc
          refine go_aload_n dX12_nameOf_73 rfl ?_
          refine go_getL (k := 12) dX12_nameOf_74 sh_273 rfl inX12 (Nat.le_of_ble_eq_true rfl) lf_X12_126 rfl ?_
          refine go_bipush (v := 119) dX12_nameOf_77 (by decide) ?_
          refine go_bipush (v := 105) dX12_nameOf_79 (by decide) ?_
          refine go_bipush (v := 110) dX12_nameOf_81 (by decide) ?_
          refine go_bipush (v := 100) dX12_nameOf_83 (by decide) ?_
          refine go_callS mX12_w4 dX12_nameOf_85 lm_X12_143 okX12_w4 isX12_w4 (As := [.int 119, .int 105, .int 110, .int 100]) (S := [.long (m.2.1 273 12)]) rfl rfl (Nat.le_of_ble_eq_true rfl) (eX12_w4 G _ 119 105 110 100 m (fun r m' => r = w4V 119 105 110 100 ∧ m = m') ⟨rfl, rfl⟩) (k_l (fun r m' hr => ?_))
          obtain ⟨hr1, hr2⟩ := hr
          subst hr1
          subst hr2
          refine go_lcmp dX12_nameOf_88 ?_
          refine go_if_ne 94 dX12_nameOf_89 rfl ⟨fun hc => ?_, fun hc => ?_⟩
          · have hF := hF.1 hc
            refine go_aload_n dX12_nameOf_94 rfl ?_
            refine go_getL (k := 12) dX12_nameOf_95 sh_273 rfl inX12 (Nat.le_of_ble_eq_true rfl) lf_X12_126 rfl ?_
            refine go_bipush (v := 102) dX12_nameOf_98 (by decide) ?_
            refine go_bipush (v := 114) dX12_nameOf_100 (by decide) ?_
            refine go_bipush (v := 111) dX12_nameOf_102 (by decide) ?_
            refine go_bipush (v := 115) dX12_nameOf_104 (by decide) ?_
            refine go_bipush (v := 116) dX12_nameOf_106 (by decide) ?_
            refine go_callS mX12_w5 dX12_nameOf_108 lm_X12_147 okX12_w5 isX12_w5 (As := [.int 102, .int 114, .int 111, .int 115, .int 116]) (S := [.long (m.2.1 273 12)]) rfl rfl (Nat.le_of_ble_eq_true rfl) (eX12_w5 G _ 102 114 111 115 116 m (fun r m' => r = w5V 102 114 111 115 116 ∧ m = m') ⟨rfl, rfl⟩) (k_l (fun r m' hr => ?_))
            obtain ⟨hr1, hr2⟩ := hr
            subst hr1
            subst hr2
            refine go_lcmp dX12_nameOf_111 ?_
            refine go_if_ne 117 dX12_nameOf_112 rfl ⟨fun hc => ?_, fun hc => ?_⟩
            · have hF := hF.1 hc
              refine go_aload_n dX12_nameOf_117 rfl ?_
              refine go_getL (k := 12) dX12_nameOf_118 sh_273 rfl inX12 (Nat.le_of_ble_eq_true rfl) lf_X12_126 rfl ?_
              refine go_bipush (v := 104) dX12_nameOf_121 (by decide) ?_
              refine go_bipush (v := 111) dX12_nameOf_123 (by decide) ?_
              refine go_bipush (v := 117) dX12_nameOf_125 (by decide) ?_
              refine go_bipush (v := 114) dX12_nameOf_127 (by decide) ?_
              refine go_callS mX12_w4 dX12_nameOf_129 lm_X12_143 okX12_w4 isX12_w4 (As := [.int 104, .int 111, .int 117, .int 114]) (S := [.long (m.2.1 273 12)]) rfl rfl (Nat.le_of_ble_eq_true rfl) (eX12_w4 G _ 104 111 117 114 m (fun r m' => r = w4V 104 111 117 114 ∧ m = m') ⟨rfl, rfl⟩) (k_l (fun r m' hr => ?_))
              obtain ⟨hr1, hr2⟩ := hr
              subst hr1
              subst hr2
              refine go_lcmp dX12_nameOf_132 ?_
              refine go_if_ne 138 dX12_nameOf_133 rfl ⟨fun hc => ?_, fun hc => ?_⟩
              · have hF := hF.1 hc
                refine go_aload_n dX12_nameOf_138 rfl ?_
                refine go_callV mX12_isStrokes dX12_nameOf_139 lm_X12_161 okX12_isStrokes isX12_isStrokes sh_273 rfl (As := []) (S := []) rfl rfl (Nat.le_of_ble_eq_true rfl) hF (k_i (fun r2 m1 hF => ?_))
                refine go_if_eq 148 dX12_nameOf_142 rfl ⟨fun hc => ?_, fun hc => ?_⟩
                · have hF := hF.1 hc
                  refine go_aload_n dX12_nameOf_148 rfl ?_
                  refine go_getL (k := 12) dX12_nameOf_149 sh_273 rfl inX12 (Nat.le_of_ble_eq_true rfl) lf_X12_126 rfl ?_
                  refine go_bipush (v := 98) dX12_nameOf_152 (by decide) ?_
                  refine go_bipush (v := 101) dX12_nameOf_154 (by decide) ?_
                  refine go_bipush (v := 108) dX12_nameOf_156 (by decide) ?_
                  refine go_bipush (v := 108) dX12_nameOf_158 (by decide) ?_
                  refine go_callS mX12_w4 dX12_nameOf_160 lm_X12_143 okX12_w4 isX12_w4 (As := [.int 98, .int 101, .int 108, .int 108]) (S := [.long (m1.2.1 273 12)]) rfl rfl (Nat.le_of_ble_eq_true rfl) (eX12_w4 G _ 98 101 108 108 m1 (fun r m' => r = w4V 98 101 108 108 ∧ m1 = m') ⟨rfl, rfl⟩) (k_l (fun r m' hr => ?_))
                  obtain ⟨hr1, hr2⟩ := hr
                  subst hr1
                  subst hr2
                  refine go_lcmp dX12_nameOf_163 ?_
                  refine go_if_ne 170 dX12_nameOf_164 rfl ⟨fun hc => ?_, fun hc => ?_⟩
                  · have hF := hF.1 hc
                    refine go_aload_n dX12_nameOf_170 rfl ?_
                    refine go_getL (k := 12) dX12_nameOf_171 sh_273 rfl inX12 (Nat.le_of_ble_eq_true rfl) lf_X12_126 rfl ?_
                    refine go_bipush (v := 107) dX12_nameOf_174 (by decide) ?_
                    refine go_bipush (v := 105) dX12_nameOf_176 (by decide) ?_
                    refine go_bipush (v := 110) dX12_nameOf_178 (by decide) ?_
                    refine go_bipush (v := 100) dX12_nameOf_180 (by decide) ?_
                    refine go_callS mX12_w4 dX12_nameOf_182 lm_X12_143 okX12_w4 isX12_w4 (As := [.int 107, .int 105, .int 110, .int 100]) (S := [.long (m1.2.1 273 12)]) rfl rfl (Nat.le_of_ble_eq_true rfl) (eX12_w4 G _ 107 105 110 100 m1 (fun r m' => r = w4V 107 105 110 100 ∧ m1 = m') ⟨rfl, rfl⟩) (k_l (fun r m' hr => ?_))
                    obtain ⟨hr1, hr2⟩ := hr
                    subst hr1
                    subst hr2
                    refine go_lcmp dX12_nameOf_185 ?_
                    refine go_if_ne 192 dX12_nameOf_186 rfl ⟨fun hc => ?_, fun hc => ?_⟩
                    · have hF := hF.1 hc
                      refine go_aload_n dX12_nameOf_192 rfl ?_
                      refine go_getL (k := 12) dX12_nameOf_193 sh_273 rfl inX12 (Nat.le_of_ble_eq_true rfl) lf_X12_126 rfl ?_
                      refine go_bipush (v := 109) dX12_nameOf_196 (by decide) ?_
                      refine go_bipush (v := 101) dX12_nameOf_198 (by decide) ?_
                      refine go_bipush (v := 97) dX12_nameOf_200 (by decide) ?_
                      refine go_bipush (v := 110) dX12_nameOf_202 (by decide) ?_
                      refine go_bipush (v := 115) dX12_nameOf_204 (by decide) ?_
                      refine go_callS mX12_w5 dX12_nameOf_206 lm_X12_147 okX12_w5 isX12_w5 (As := [.int 109, .int 101, .int 97, .int 110, .int 115]) (S := [.long (m1.2.1 273 12)]) rfl rfl (Nat.le_of_ble_eq_true rfl) (eX12_w5 G _ 109 101 97 110 115 m1 (fun r m' => r = w5V 109 101 97 110 115 ∧ m1 = m') ⟨rfl, rfl⟩) (k_l (fun r m' hr => ?_))
                      obtain ⟨hr1, hr2⟩ := hr
                      subst hr1
                      subst hr2
                      refine go_lcmp dX12_nameOf_209 ?_
                      refine go_if_ne 216 dX12_nameOf_210 rfl ⟨fun hc => ?_, fun hc => ?_⟩
                      · have hF := hF.1 hc
                        refine go_aload_n dX12_nameOf_216 rfl ?_
                        refine go_getL (k := 12) dX12_nameOf_217 sh_273 rfl inX12 (Nat.le_of_ble_eq_true rfl) lf_X12_126 rfl ?_
                        refine go_bipush (v := 110) dX12_nameOf_220 (by decide) ?_
                        refine go_bipush (v := 101) dX12_nameOf_222 (by decide) ?_
                        refine go_bipush (v := 120) dX12_nameOf_224 (by decide) ?_
                        refine go_bipush (v := 116) dX12_nameOf_226 (by decide) ?_
                        refine go_callS mX12_w4 dX12_nameOf_228 lm_X12_143 okX12_w4 isX12_w4 (As := [.int 110, .int 101, .int 120, .int 116]) (S := [.long (m1.2.1 273 12)]) rfl rfl (Nat.le_of_ble_eq_true rfl) (eX12_w4 G _ 110 101 120 116 m1 (fun r m' => r = w4V 110 101 120 116 ∧ m1 = m') ⟨rfl, rfl⟩) (k_l (fun r m' hr => ?_))
                        obtain ⟨hr1, hr2⟩ := hr
                        subst hr1
                        subst hr2
                        refine go_lcmp dX12_nameOf_231 ?_
                        refine go_if_ne 238 dX12_nameOf_232 rfl ⟨fun hc => ?_, fun hc => ?_⟩
                        · have hF := hF.1 hc
                          refine go_aload_n dX12_nameOf_238 rfl ?_
                          refine go_callV mX12_isMeaning dX12_nameOf_239 lm_X12_165 okX12_isMeaning isX12_isMeaning sh_273 rfl (As := []) (S := []) rfl rfl (Nat.le_of_ble_eq_true rfl) hF (k_i (fun r4 m3 hF => ?_))
                          refine go_if_eq 250 dX12_nameOf_242 rfl ⟨fun hc => ?_, fun hc => ?_⟩
                          · have hF := hF.1 hc
                            refine go_aload_n dX12_nameOf_250 rfl ?_
                            refine go_getL (k := 12) dX12_nameOf_251 sh_273 rfl inX12 (Nat.le_of_ble_eq_true rfl) lf_X12_126 rfl ?_
                            refine go_bipush (v := 112) dX12_nameOf_254 (by decide) ?_
                            refine go_bipush (v := 108) dX12_nameOf_256 (by decide) ?_
                            refine go_bipush (v := 97) dX12_nameOf_258 (by decide) ?_
                            refine go_bipush (v := 99) dX12_nameOf_260 (by decide) ?_
                            refine go_bipush (v := 101) dX12_nameOf_262 (by decide) ?_
                            refine go_callS mX12_w5 dX12_nameOf_264 lm_X12_147 okX12_w5 isX12_w5 (As := [.int 112, .int 108, .int 97, .int 99, .int 101]) (S := [.long (m3.2.1 273 12)]) rfl rfl (Nat.le_of_ble_eq_true rfl) (eX12_w5 G _ 112 108 97 99 101 m3 (fun r m' => r = w5V 112 108 97 99 101 ∧ m3 = m') ⟨rfl, rfl⟩) (k_l (fun r m' hr => ?_))
                            obtain ⟨hr1, hr2⟩ := hr
                            subst hr1
                            subst hr2
                            refine go_lcmp dX12_nameOf_267 ?_
                            refine go_if_ne 276 dX12_nameOf_268 rfl ⟨fun hc => ?_, fun hc => ?_⟩
                            · have hF := hF.1 hc
                              refine go_iconst (v := -1) dX12_nameOf_276 (by decide) ?_
                              exact go_iret (S := []) dX12_nameOf_277 rfl ⟨_, rfl, hF⟩
                            · have hF := hF.2 hc
                              refine go_bipush (v := 12) dX12_nameOf_271 (by decide) ?_
                              refine go_goto 277 dX12_nameOf_273 rfl ?_
                              exact go_iret (S := []) dX12_nameOf_277 rfl ⟨_, rfl, hF⟩
                          · have hF := hF.2 hc
                            refine go_bipush (v := 11) dX12_nameOf_245 (by decide) ?_
                            refine go_goto 277 dX12_nameOf_247 rfl ?_
                            exact go_iret (S := []) dX12_nameOf_277 rfl ⟨_, rfl, hF⟩
                        · have hF := hF.2 hc
                          refine go_bipush (v := 10) dX12_nameOf_235 (by decide) ?_
                          exact go_iret (S := []) dX12_nameOf_237 rfl ⟨_, rfl, hF⟩
                      · have hF := hF.2 hc
                        refine go_bipush (v := 9) dX12_nameOf_213 (by decide) ?_
                        exact go_iret (S := []) dX12_nameOf_215 rfl ⟨_, rfl, hF⟩
                    · have hF := hF.2 hc
                      refine go_bipush (v := 8) dX12_nameOf_189 (by decide) ?_
                      exact go_iret (S := []) dX12_nameOf_191 rfl ⟨_, rfl, hF⟩
                  · have hF := hF.2 hc
                    refine go_bipush (v := 7) dX12_nameOf_167 (by decide) ?_
                    exact go_iret (S := []) dX12_nameOf_169 rfl ⟨_, rfl, hF⟩
                · have hF := hF.2 hc
                  refine go_bipush (v := 6) dX12_nameOf_145 (by decide) ?_
                  exact go_iret (S := []) dX12_nameOf_147 rfl ⟨_, rfl, hF⟩
              · have hF := hF.2 hc
                refine go_iconst (v := 5) dX12_nameOf_136 (by decide) ?_
                exact go_iret (S := []) dX12_nameOf_137 rfl ⟨_, rfl, hF⟩
            · have hF := hF.2 hc
              refine go_iconst (v := 4) dX12_nameOf_115 (by decide) ?_
              exact go_iret (S := []) dX12_nameOf_116 rfl ⟨_, rfl, hF⟩
          · have hF := hF.2 hc
            refine go_iconst (v := 3) dX12_nameOf_92 (by decide) ?_
            exact go_iret (S := []) dX12_nameOf_93 rfl ⟨_, rfl, hF⟩
        · have hF := hF.2 hc
          refine go_iconst (v := 2) dX12_nameOf_71 (by decide) ?_
          exact go_iret (S := []) dX12_nameOf_72 rfl ⟨_, rfl, hF⟩
      · have hF := hF.2 hc
        refine go_iconst (v := 1) dX12_nameOf_52 (by decide) ?_
        exact go_iret (S := []) dX12_nameOf_53 rfl ⟨_, rfl, hF⟩
    · have hF := hF.2 hc
      refine go_iconst (v := 0) dX12_nameOf_29 (by decide) ?_
      exact go_iret (S := []) dX12_nameOf_30 rfl ⟨_, rfl, hF⟩
  · have hF := hF.2 hc
    refine go_iconst (v := -1) dX12_nameOf_8 (by decide) ?_
    exact go_iret (S := []) dX12_nameOf_9 rfl ⟨_, rfl, hF⟩
theorem vX12_isOf (G : GP) (d : Nat) (a0 : Int32) (m : Mem) (K : Int32 → Mem → Prop) (hF : ((8 ≤ a0) → ((10 ≤ a0) → ((¬ (m.1 273 15) = 1) → K 0 m) ∧ (((m.1 273 15) = 1) → K 1 m)) ∧ ((¬ 10 ≤ a0) → (((m.1 273 15) = 0) → K 0 m) ∧ ((¬ (m.1 273 15) = 0) → K 1 m))) ∧ ((¬ 8 ≤ a0) → ((¬ (m.1 273 15) = 0) → K 0 m) ∧ (((m.1 273 15) = 0) → K 1 m))) : Evi G (d) mX12_isOf [.ref (ga G 273), .int a0] m K := by
  refine Ev.go [.ref (ga G 273), .int a0] (by decide) (Nat.le_of_ble_eq_true rfl) rfl ?_
  refine go_iload_n dX12_isOf_0 rfl ?_
  refine go_bipush (v := 8) dX12_isOf_1 (by decide) ?_
  refine go_icmp_ge 21 dX12_isOf_3 rfl ⟨fun hc => ?_, fun hc => ?_⟩
  · have hF := hF.1 hc
    refine go_iload_n dX12_isOf_21 rfl ?_
    refine go_bipush (v := 10) dX12_isOf_22 (by decide) ?_
    refine go_icmp_ge 42 dX12_isOf_24 rfl ⟨fun hc => ?_, fun hc => ?_⟩
    · have hF := hF.1 hc
      refine go_aload_n dX12_isOf_42 rfl ?_
      refine go_getI (k := 15) dX12_isOf_43 sh_273 rfl inX12 (Nat.le_of_ble_eq_true rfl) lf_X12_168 rfl ?_
      refine go_iconst (v := 1) dX12_isOf_46 (by decide) ?_
      refine go_icmp_ne 54 dX12_isOf_47 rfl ⟨fun hc => ?_, fun hc => ?_⟩
      · have hF := hF.1 hc
        refine go_iconst (v := 0) dX12_isOf_54 (by decide) ?_
        exact go_zret (S := []) dX12_isOf_55 rfl (by decide) ⟨_, rfl, hF⟩
      · have hF := hF.2 hc
        refine go_iconst (v := 1) dX12_isOf_50 (by decide) ?_
        refine go_goto 55 dX12_isOf_51 rfl ?_
        exact go_zret (S := []) dX12_isOf_55 rfl (by decide) ⟨_, rfl, hF⟩
    · have hF := hF.2 hc
      refine go_aload_n dX12_isOf_27 rfl ?_
      refine go_getI (k := 15) dX12_isOf_28 sh_273 rfl inX12 (Nat.le_of_ble_eq_true rfl) lf_X12_168 rfl ?_
      refine go_if_eq 38 dX12_isOf_31 rfl ⟨fun hc => ?_, fun hc => ?_⟩
      · have hF := hF.1 hc
        refine go_iconst (v := 0) dX12_isOf_38 (by decide) ?_
        refine go_goto 55 dX12_isOf_39 rfl ?_
        exact go_zret (S := []) dX12_isOf_55 rfl (by decide) ⟨_, rfl, hF⟩
      · have hF := hF.2 hc
        refine go_iconst (v := 1) dX12_isOf_34 (by decide) ?_
        refine go_goto 55 dX12_isOf_35 rfl ?_
        exact go_zret (S := []) dX12_isOf_55 rfl (by decide) ⟨_, rfl, hF⟩
  · have hF := hF.2 hc
    refine go_aload_n dX12_isOf_6 rfl ?_
    refine go_getI (k := 15) dX12_isOf_7 sh_273 rfl inX12 (Nat.le_of_ble_eq_true rfl) lf_X12_168 rfl ?_
    refine go_if_ne 17 dX12_isOf_10 rfl ⟨fun hc => ?_, fun hc => ?_⟩
    · have hF := hF.1 hc
      refine go_iconst (v := 0) dX12_isOf_17 (by decide) ?_
      refine go_goto 55 dX12_isOf_18 rfl ?_
      exact go_zret (S := []) dX12_isOf_55 rfl (by decide) ⟨_, rfl, hF⟩
    · have hF := hF.2 hc
      refine go_iconst (v := 1) dX12_isOf_13 (by decide) ?_
      refine go_goto 55 dX12_isOf_14 rfl ?_
      exact go_zret (S := []) dX12_isOf_55 rfl (by decide) ⟨_, rfl, hF⟩
theorem vX12_settle (G : GP) (d : Nat) (a0 : Int32) (m : Mem) (K : Mem → Prop) (hF : Gw G (d + 1) mX12_settle 0 [.ref (ga G 273), .int a0] [] m (Qv K)) : Evv G (d + 1) mX12_settle [.ref (ga G 273), .int a0] m K := by
  refine Ev.go [.ref (ga G 273), .int a0] (by decide) (Nat.le_of_ble_eq_true rfl) rfl ?_
  exact hF
theorem vX12_settle_0 (G : GP) (d : Nat) (l1 : Int32) (m : Mem) (K : Mem → Prop) (hF : (((m.1 273 17) ≤ 0) → K m) ∧ ((¬ (m.1 273 17) ≤ 0) → vp_in ((m.1 273 17) - 1) 160 ∧ (((rankV (m.1 279 ((m.1 273 17) - 1).toNatClampNeg)) < l1) → K m) ∧ ((¬ (rankV (m.1 279 ((m.1 273 17) - 1).toNatClampNeg)) < l1) → ∀ m1 : Mem, m1 = wI m 273 17 ((m.1 273 17) - 1) → vp_in (m1.1 273 17) 160 ∧ Evv G (d) mX12_emit [.ref (ga G 273), .int (m1.1 279 (m1.1 273 17).toNatClampNeg), .int 0] m1 (fun m2 => vp_in (m2.1 273 17) 160 ∧ (((m2.1 279 (m2.1 273 17).toNatClampNeg) = 2) → ∀ m3 : Mem, m3 = wI m2 273 18 ((m2.1 273 18) - 1) → Gw G (d + 1) mX12_settle 0 [.ref (ga G 273), .int l1] [] m3 (Qv K)) ∧ ((¬ (m2.1 279 (m2.1 273 17).toNatClampNeg) = 2) → vp_in (m2.1 273 17) 160 ∧ (((m2.1 279 (m2.1 273 17).toNatClampNeg) = 20) → ∀ m4 : Mem, m4 = wI m2 273 18 ((m2.1 273 18) - 1) → Gw G (d + 1) mX12_settle 0 [.ref (ga G 273), .int l1] [] m4 (Qv K)) ∧ ((¬ (m2.1 279 (m2.1 273 17).toNatClampNeg) = 20) → vp_in (m2.1 273 17) 160 ∧ ((¬ (m2.1 279 (m2.1 273 17).toNatClampNeg) = 7) → Gw G (d + 1) mX12_settle 0 [.ref (ga G 273), .int l1] [] m2 (Qv K)) ∧ (((m2.1 279 (m2.1 273 17).toNatClampNeg) = 7) → ∀ m5 : Mem, m5 = wI m2 273 18 ((m2.1 273 18) - 1) → Gw G (d + 1) mX12_settle 0 [.ref (ga G 273), .int l1] [] m5 (Qv K)))))))) : Gw G (d + 1) mX12_settle 0 [.ref (ga G 273), .int l1] [] m (Qv K) := by
  refine go_aload_n dX12_settle_0 rfl ?_
  refine go_getI (k := 17) dX12_settle_1 sh_273 rfl inX12 (Nat.le_of_ble_eq_true rfl) lf_X12_171 rfl ?_
  refine go_if_le 103 dX12_settle_4 rfl ⟨fun hc => ?_, fun hc => ?_⟩
  · have hF := hF.1 hc
    exact go_vret (S := []) dX12_settle_103 rfl ⟨rfl, hF⟩
  · have hF := hF.2 hc
    refine go_aload_n dX12_settle_7 rfl ?_
    refine go_getR (k := 16) (r := 279) dX12_settle_8 sh_273 rfl inX12 (Nat.le_of_ble_eq_true rfl) lf_X12_32 rfl rfl ?_
    refine go_aload_n dX12_settle_11 rfl ?_
    refine go_getI (k := 17) dX12_settle_12 sh_273 rfl inX12 (Nat.le_of_ble_eq_true rfl) lf_X12_171 rfl ?_
    refine go_iconst (v := 1) dX12_settle_15 (by decide) ?_
    refine go_isub dX12_settle_16 ?_
    obtain ⟨hi, hF⟩ := hF
    refine go_iald dX12_settle_17 sh_279 hi ?_
    refine go_callS mX12_rank dX12_settle_18 lm_X12_174 okX12_rank isX12_rank (As := [.int (m.1 279 ((m.1 273 17) - 1).toNatClampNeg)]) (S := []) rfl rfl (Nat.le_of_ble_eq_true rfl) (eX12_rank G _ (m.1 279 ((m.1 273 17) - 1).toNatClampNeg) m (fun r m' => r = rankV (m.1 279 ((m.1 273 17) - 1).toNatClampNeg) ∧ m = m') ⟨rfl, rfl⟩) (k_i (fun r m' hr => ?_))
    obtain ⟨hr1, hr2⟩ := hr
    subst hr1
    subst hr2
    refine go_iload_n dX12_settle_21 rfl ?_
    refine go_icmp_lt 103 dX12_settle_22 rfl ⟨fun hc => ?_, fun hc => ?_⟩
    · have hF := hF.1 hc
      exact go_vret (S := []) dX12_settle_103 rfl ⟨rfl, hF⟩
    · have hF := hF.2 hc
      refine go_aload_n dX12_settle_25 rfl ?_
      refine go_dup dX12_settle_26 rfl ?_
      refine go_getI (k := 17) dX12_settle_27 sh_273 rfl inX12 (Nat.le_of_ble_eq_true rfl) lf_X12_171 rfl ?_
      refine go_iconst (v := 1) dX12_settle_30 (by decide) ?_
      refine go_isub dX12_settle_31 ?_
      refine go_putI (k := 17) dX12_settle_32 sh_273 rfl inX12 (Nat.le_of_ble_eq_true rfl) lf_X12_171 tyX12 tyX12_ok nmX12 rfl rfl (by decide +kernel) ?_
      obtain ⟨m1, em1⟩ : ∃ z : Mem, z = wI m 273 17 ((m.1 273 17) - 1) := ⟨_, rfl⟩
      rw [← em1]
      have hF := hF m1 em1
      refine go_aload_n dX12_settle_35 rfl ?_
      refine go_aload_n dX12_settle_36 rfl ?_
      refine go_getR (k := 16) (r := 279) dX12_settle_37 sh_273 rfl inX12 (Nat.le_of_ble_eq_true rfl) lf_X12_32 rfl rfl ?_
      refine go_aload_n dX12_settle_40 rfl ?_
      refine go_getI (k := 17) dX12_settle_41 sh_273 rfl inX12 (Nat.le_of_ble_eq_true rfl) lf_X12_171 rfl ?_
      obtain ⟨hi, hF⟩ := hF
      refine go_iald dX12_settle_44 sh_279 hi ?_
      refine go_iconst (v := 0) dX12_settle_45 (by decide) ?_
      refine go_callV mX12_emit dX12_settle_46 lm_X12_177 okX12_emit isX12_emit sh_273 rfl (As := [.int (m1.1 279 (m1.1 273 17).toNatClampNeg), .int 0]) (S := []) rfl rfl (Nat.le_of_ble_eq_true rfl) hF (k_v (fun m2 hF => ?_))
      refine go_aload_n dX12_settle_49 rfl ?_
      refine go_getR (k := 16) (r := 279) dX12_settle_50 sh_273 rfl inX12 (Nat.le_of_ble_eq_true rfl) lf_X12_32 rfl rfl ?_
      refine go_aload_n dX12_settle_53 rfl ?_
      refine go_getI (k := 17) dX12_settle_54 sh_273 rfl inX12 (Nat.le_of_ble_eq_true rfl) lf_X12_171 rfl ?_
      obtain ⟨hi, hF⟩ := hF
      refine go_iald dX12_settle_57 sh_279 hi ?_
      refine go_iconst (v := 2) dX12_settle_58 (by decide) ?_
      refine go_icmp_eq 90 dX12_settle_59 rfl ⟨fun hc => ?_, fun hc => ?_⟩
      · have hF := hF.1 hc
        refine go_aload_n dX12_settle_90 rfl ?_
        refine go_dup dX12_settle_91 rfl ?_
        refine go_getI (k := 18) dX12_settle_92 sh_273 rfl inX12 (Nat.le_of_ble_eq_true rfl) lf_X12_181 rfl ?_
        refine go_iconst (v := 1) dX12_settle_95 (by decide) ?_
        refine go_isub dX12_settle_96 ?_
        refine go_putI (k := 18) dX12_settle_97 sh_273 rfl inX12 (Nat.le_of_ble_eq_true rfl) lf_X12_181 tyX12 tyX12_ok nmX12 rfl rfl (by decide +kernel) ?_
        obtain ⟨m3, em3⟩ : ∃ z : Mem, z = wI m2 273 18 ((m2.1 273 18) - 1) := ⟨_, rfl⟩
        rw [← em3]
        have hF := hF m3 em3
        refine go_goto 0 dX12_settle_100 rfl ?_
        exact hF
      · have hF := hF.2 hc
        refine go_aload_n dX12_settle_62 rfl ?_
        refine go_getR (k := 16) (r := 279) dX12_settle_63 sh_273 rfl inX12 (Nat.le_of_ble_eq_true rfl) lf_X12_32 rfl rfl ?_
        refine go_aload_n dX12_settle_66 rfl ?_
        refine go_getI (k := 17) dX12_settle_67 sh_273 rfl inX12 (Nat.le_of_ble_eq_true rfl) lf_X12_171 rfl ?_
        obtain ⟨hi, hF⟩ := hF
        refine go_iald dX12_settle_70 sh_279 hi ?_
        refine go_bipush (v := 20) dX12_settle_71 (by decide) ?_
        refine go_icmp_eq 90 dX12_settle_73 rfl ⟨fun hc => ?_, fun hc => ?_⟩
        · have hF := hF.1 hc
          refine go_aload_n dX12_settle_90 rfl ?_
          refine go_dup dX12_settle_91 rfl ?_
          refine go_getI (k := 18) dX12_settle_92 sh_273 rfl inX12 (Nat.le_of_ble_eq_true rfl) lf_X12_181 rfl ?_
          refine go_iconst (v := 1) dX12_settle_95 (by decide) ?_
          refine go_isub dX12_settle_96 ?_
          refine go_putI (k := 18) dX12_settle_97 sh_273 rfl inX12 (Nat.le_of_ble_eq_true rfl) lf_X12_181 tyX12 tyX12_ok nmX12 rfl rfl (by decide +kernel) ?_
          obtain ⟨m4, em4⟩ : ∃ z : Mem, z = wI m2 273 18 ((m2.1 273 18) - 1) := ⟨_, rfl⟩
          rw [← em4]
          have hF := hF m4 em4
          refine go_goto 0 dX12_settle_100 rfl ?_
          exact hF
        · have hF := hF.2 hc
          refine go_aload_n dX12_settle_76 rfl ?_
          refine go_getR (k := 16) (r := 279) dX12_settle_77 sh_273 rfl inX12 (Nat.le_of_ble_eq_true rfl) lf_X12_32 rfl rfl ?_
          refine go_aload_n dX12_settle_80 rfl ?_
          refine go_getI (k := 17) dX12_settle_81 sh_273 rfl inX12 (Nat.le_of_ble_eq_true rfl) lf_X12_171 rfl ?_
          obtain ⟨hi, hF⟩ := hF
          refine go_iald dX12_settle_84 sh_279 hi ?_
          refine go_bipush (v := 7) dX12_settle_85 (by decide) ?_
          refine go_icmp_ne 0 dX12_settle_87 rfl ⟨fun hc => ?_, fun hc => ?_⟩
          · have hF := hF.1 hc
            exact hF
          · have hF := hF.2 hc
            refine go_aload_n dX12_settle_90 rfl ?_
            refine go_dup dX12_settle_91 rfl ?_
            refine go_getI (k := 18) dX12_settle_92 sh_273 rfl inX12 (Nat.le_of_ble_eq_true rfl) lf_X12_181 rfl ?_
            refine go_iconst (v := 1) dX12_settle_95 (by decide) ?_
            refine go_isub dX12_settle_96 ?_
            refine go_putI (k := 18) dX12_settle_97 sh_273 rfl inX12 (Nat.le_of_ble_eq_true rfl) lf_X12_181 tyX12 tyX12_ok nmX12 rfl rfl (by decide +kernel) ?_
            obtain ⟨m5, em5⟩ : ∃ z : Mem, z = wI m2 273 18 ((m2.1 273 18) - 1) := ⟨_, rfl⟩
            rw [← em5]
            have hF := hF m5 em5
            refine go_goto 0 dX12_settle_100 rfl ?_
            exact hF
theorem vX12_isOpen (G : GP) (d : Nat)  (m : Mem) (K : Int32 → Mem → Prop) (hF : ∀ x1 : Int32, x1 = (m.1 273 17) - 1 → Gw G (d) mX12_isOpen 7 [.ref (ga G 273), .int x1] [] m (Qi K)) : Evi G (d) mX12_isOpen [.ref (ga G 273)] m K := by
  refine Ev.go [.ref (ga G 273), uu] (by decide) (Nat.le_of_ble_eq_true rfl) rfl ?_
  refine go_aload_n dX12_isOpen_0 rfl ?_
  refine go_getI (k := 17) dX12_isOpen_1 sh_273 rfl inX12 (Nat.le_of_ble_eq_true rfl) lf_X12_171 rfl ?_
  refine go_iconst (v := 1) dX12_isOpen_4 (by decide) ?_
  refine go_isub dX12_isOpen_5 ?_
  refine Gw.namei (fun x1 ex1 => ?_)
  have hF := hF x1 ex1
  refine go_istore_n (L' := [.ref (ga G 273), .int x1]) dX12_isOpen_6 (Nat.le_of_ble_eq_true rfl) rfl ?_
  exact hF
theorem vX12_isOpen_7 (G : GP) (d : Nat) (l1 : Int32) (m : Mem) (K : Int32 → Mem → Prop) (hF : ((l1 < 0) → ((l1 < 0) → K 0 m) ∧ ((¬ l1 < 0) → K 1 m)) ∧ ((¬ l1 < 0) → vp_in l1 160 ∧ ((40 ≤ (m.1 279 l1.toNatClampNeg)) → ((l1 < 0) → K 0 m) ∧ ((¬ l1 < 0) → K 1 m)) ∧ ((¬ 40 ≤ (m.1 279 l1.toNatClampNeg)) → ∀ x2 : Int32, x2 = l1 + (-1) → Gw G (d) mX12_isOpen 7 [.ref (ga G 273), .int x2] [] m (Qi K)))) : Gw G (d) mX12_isOpen 7 [.ref (ga G 273), .int l1] [] m (Qi K) := by
  refine go_iload_n dX12_isOpen_7 rfl ?_
  refine go_if_lt 28 dX12_isOpen_8 rfl ⟨fun hc => ?_, fun hc => ?_⟩
  · have hF := hF.1 hc
    refine go_iload_n dX12_isOpen_28 rfl ?_
    refine go_if_lt 36 dX12_isOpen_29 rfl ⟨fun hc => ?_, fun hc => ?_⟩
    · have hF := hF.1 hc
      refine go_iconst (v := 0) dX12_isOpen_36 (by decide) ?_
      exact go_zret (S := []) dX12_isOpen_37 rfl (by decide) ⟨_, rfl, hF⟩
    · have hF := hF.2 hc
      refine go_iconst (v := 1) dX12_isOpen_32 (by decide) ?_
      refine go_goto 37 dX12_isOpen_33 rfl ?_
      exact go_zret (S := []) dX12_isOpen_37 rfl (by decide) ⟨_, rfl, hF⟩
  · have hF := hF.2 hc
    refine go_aload_n dX12_isOpen_11 rfl ?_
    refine go_getR (k := 16) (r := 279) dX12_isOpen_12 sh_273 rfl inX12 (Nat.le_of_ble_eq_true rfl) lf_X12_32 rfl rfl ?_
    refine go_iload_n dX12_isOpen_15 rfl ?_
    obtain ⟨hi, hF⟩ := hF
    refine go_iald dX12_isOpen_16 sh_279 hi ?_
    refine go_bipush (v := 40) dX12_isOpen_17 (by decide) ?_
    refine go_icmp_ge 28 dX12_isOpen_19 rfl ⟨fun hc => ?_, fun hc => ?_⟩
    · have hF := hF.1 hc
      refine go_iload_n dX12_isOpen_28 rfl ?_
      refine go_if_lt 36 dX12_isOpen_29 rfl ⟨fun hc => ?_, fun hc => ?_⟩
      · have hF := hF.1 hc
        refine go_iconst (v := 0) dX12_isOpen_36 (by decide) ?_
        exact go_zret (S := []) dX12_isOpen_37 rfl (by decide) ⟨_, rfl, hF⟩
      · have hF := hF.2 hc
        refine go_iconst (v := 1) dX12_isOpen_32 (by decide) ?_
        refine go_goto 37 dX12_isOpen_33 rfl ?_
        exact go_zret (S := []) dX12_isOpen_37 rfl (by decide) ⟨_, rfl, hF⟩
    · have hF := hF.2 hc
      obtain ⟨x2, ex2⟩ : ∃ z : Int32, z = l1 + (-1) := ⟨_, rfl⟩
      have hF := hF x2 ex2
      refine go_iinc (v := x2) (L' := [.ref (ga G 273), .int x2]) dX12_isOpen_22 rfl (by rw [ex2]; rfl) (Nat.le_of_ble_eq_true rfl) rfl ?_
      refine go_goto 7 dX12_isOpen_25 rfl ?_
      exact hF
theorem vX12_isCompared (G : GP) (d : Nat)  (m : Mem) (K : Int32 → Mem → Prop) (hF : ∀ x1 : Int32, x1 = (m.1 273 17) - 1 → Gw G (d + 1) mX12_isCompared 7 [.ref (ga G 273), .int x1] [] m (Qi K)) : Evi G (d + 1) mX12_isCompared [.ref (ga G 273)] m K := by
  refine Ev.go [.ref (ga G 273), uu] (by decide) (Nat.le_of_ble_eq_true rfl) rfl ?_
  refine go_aload_n dX12_isCompared_0 rfl ?_
  refine go_getI (k := 17) dX12_isCompared_1 sh_273 rfl inX12 (Nat.le_of_ble_eq_true rfl) lf_X12_171 rfl ?_
  refine go_iconst (v := 1) dX12_isCompared_4 (by decide) ?_
  refine go_isub dX12_isCompared_5 ?_
  refine Gw.namei (fun x1 ex1 => ?_)
  have hF := hF x1 ex1
  refine go_istore_n (L' := [.ref (ga G 273), .int x1]) dX12_isCompared_6 (Nat.le_of_ble_eq_true rfl) rfl ?_
  exact hF
theorem vX12_isCompared_7 (G : GP) (d : Nat) (l1 : Int32) (m : Mem) (K : Int32 → Mem → Prop) (hF : ((l1 < 0) → ((l1 < 0) → K 0 m) ∧ ((¬ l1 < 0) → vp_in l1 160 ∧ ((¬ (rankV (m.1 279 l1.toNatClampNeg)) = 4) → K 0 m) ∧ (((rankV (m.1 279 l1.toNatClampNeg)) = 4) → K 1 m))) ∧ ((¬ l1 < 0) → vp_in l1 160 ∧ (((rankV (m.1 279 l1.toNatClampNeg)) ≤ 4) → ((l1 < 0) → K 0 m) ∧ ((¬ l1 < 0) → vp_in l1 160 ∧ ((¬ (rankV (m.1 279 l1.toNatClampNeg)) = 4) → K 0 m) ∧ (((rankV (m.1 279 l1.toNatClampNeg)) = 4) → K 1 m))) ∧ ((¬ (rankV (m.1 279 l1.toNatClampNeg)) ≤ 4) → ∀ x2 : Int32, x2 = l1 + (-1) → Gw G (d + 1) mX12_isCompared 7 [.ref (ga G 273), .int x2] [] m (Qi K)))) : Gw G (d + 1) mX12_isCompared 7 [.ref (ga G 273), .int l1] [] m (Qi K) := by
  refine go_iload_n dX12_isCompared_7 rfl ?_
  refine go_if_lt 30 dX12_isCompared_8 rfl ⟨fun hc => ?_, fun hc => ?_⟩
  · have hF := hF.1 hc
    refine go_iload_n dX12_isCompared_30 rfl ?_
    refine go_if_lt 51 dX12_isCompared_31 rfl ⟨fun hc => ?_, fun hc => ?_⟩
    · have hF := hF.1 hc
      refine go_iconst (v := 0) dX12_isCompared_51 (by decide) ?_
      exact go_zret (S := []) dX12_isCompared_52 rfl (by decide) ⟨_, rfl, hF⟩
    · have hF := hF.2 hc
      refine go_aload_n dX12_isCompared_34 rfl ?_
      refine go_getR (k := 16) (r := 279) dX12_isCompared_35 sh_273 rfl inX12 (Nat.le_of_ble_eq_true rfl) lf_X12_32 rfl rfl ?_
      refine go_iload_n dX12_isCompared_38 rfl ?_
      obtain ⟨hi, hF⟩ := hF
      refine go_iald dX12_isCompared_39 sh_279 hi ?_
      refine go_callS mX12_rank dX12_isCompared_40 lm_X12_174 okX12_rank isX12_rank (As := [.int (m.1 279 l1.toNatClampNeg)]) (S := []) rfl rfl (Nat.le_of_ble_eq_true rfl) (eX12_rank G _ (m.1 279 l1.toNatClampNeg) m (fun r m' => r = rankV (m.1 279 l1.toNatClampNeg) ∧ m = m') ⟨rfl, rfl⟩) (k_i (fun r m' hr => ?_))
      obtain ⟨hr1, hr2⟩ := hr
      subst hr1
      subst hr2
      refine go_iconst (v := 4) dX12_isCompared_43 (by decide) ?_
      refine go_icmp_ne 51 dX12_isCompared_44 rfl ⟨fun hc => ?_, fun hc => ?_⟩
      · have hF := hF.1 hc
        refine go_iconst (v := 0) dX12_isCompared_51 (by decide) ?_
        exact go_zret (S := []) dX12_isCompared_52 rfl (by decide) ⟨_, rfl, hF⟩
      · have hF := hF.2 hc
        refine go_iconst (v := 1) dX12_isCompared_47 (by decide) ?_
        refine go_goto 52 dX12_isCompared_48 rfl ?_
        exact go_zret (S := []) dX12_isCompared_52 rfl (by decide) ⟨_, rfl, hF⟩
  · have hF := hF.2 hc
    refine go_aload_n dX12_isCompared_11 rfl ?_
    refine go_getR (k := 16) (r := 279) dX12_isCompared_12 sh_273 rfl inX12 (Nat.le_of_ble_eq_true rfl) lf_X12_32 rfl rfl ?_
    refine go_iload_n dX12_isCompared_15 rfl ?_
    obtain ⟨hi, hF⟩ := hF
    refine go_iald dX12_isCompared_16 sh_279 hi ?_
    refine go_callS mX12_rank dX12_isCompared_17 lm_X12_174 okX12_rank isX12_rank (As := [.int (m.1 279 l1.toNatClampNeg)]) (S := []) rfl rfl (Nat.le_of_ble_eq_true rfl) (eX12_rank G _ (m.1 279 l1.toNatClampNeg) m (fun r m' => r = rankV (m.1 279 l1.toNatClampNeg) ∧ m = m') ⟨rfl, rfl⟩) (k_i (fun r m' hr => ?_))
    obtain ⟨hr1, hr2⟩ := hr
    subst hr1
    subst hr2
    refine go_iconst (v := 4) dX12_isCompared_20 (by decide) ?_
    refine go_icmp_le 30 dX12_isCompared_21 rfl ⟨fun hc => ?_, fun hc => ?_⟩
    · have hF := hF.1 hc
      refine go_iload_n dX12_isCompared_30 rfl ?_
      refine go_if_lt 51 dX12_isCompared_31 rfl ⟨fun hc => ?_, fun hc => ?_⟩
      · have hF := hF.1 hc
        refine go_iconst (v := 0) dX12_isCompared_51 (by decide) ?_
        exact go_zret (S := []) dX12_isCompared_52 rfl (by decide) ⟨_, rfl, hF⟩
      · have hF := hF.2 hc
        refine go_aload_n dX12_isCompared_34 rfl ?_
        refine go_getR (k := 16) (r := 279) dX12_isCompared_35 sh_273 rfl inX12 (Nat.le_of_ble_eq_true rfl) lf_X12_32 rfl rfl ?_
        refine go_iload_n dX12_isCompared_38 rfl ?_
        obtain ⟨hi, hF⟩ := hF
        refine go_iald dX12_isCompared_39 sh_279 hi ?_
        refine go_callS mX12_rank dX12_isCompared_40 lm_X12_174 okX12_rank isX12_rank (As := [.int (m.1 279 l1.toNatClampNeg)]) (S := []) rfl rfl (Nat.le_of_ble_eq_true rfl) (eX12_rank G _ (m.1 279 l1.toNatClampNeg) m (fun r m' => r = rankV (m.1 279 l1.toNatClampNeg) ∧ m = m') ⟨rfl, rfl⟩) (k_i (fun r m' hr => ?_))
        obtain ⟨hr1, hr2⟩ := hr
        subst hr1
        subst hr2
        refine go_iconst (v := 4) dX12_isCompared_43 (by decide) ?_
        refine go_icmp_ne 51 dX12_isCompared_44 rfl ⟨fun hc => ?_, fun hc => ?_⟩
        · have hF := hF.1 hc
          refine go_iconst (v := 0) dX12_isCompared_51 (by decide) ?_
          exact go_zret (S := []) dX12_isCompared_52 rfl (by decide) ⟨_, rfl, hF⟩
        · have hF := hF.2 hc
          refine go_iconst (v := 1) dX12_isCompared_47 (by decide) ?_
          refine go_goto 52 dX12_isCompared_48 rfl ?_
          exact go_zret (S := []) dX12_isCompared_52 rfl (by decide) ⟨_, rfl, hF⟩
    · have hF := hF.2 hc
      obtain ⟨x2, ex2⟩ : ∃ z : Int32, z = l1 + (-1) := ⟨_, rfl⟩
      have hF := hF x2 ex2
      refine go_iinc (v := x2) (L' := [.ref (ga G 273), .int x2]) dX12_isCompared_24 rfl (by rw [ex2]; rfl) (Nat.le_of_ble_eq_true rfl) rfl ?_
      refine go_goto 7 dX12_isCompared_27 rfl ?_
      exact hF
theorem vX12_isAskAhead (G : GP) (d : Nat)  (m : Mem) (K : Int32 → Mem → Prop) (hF : Evi G (d) mX12_isOpen [.ref (ga G 273)] m (fun r2 m1 => ((¬ r2 = 0) → K 0 m1) ∧ ((r2 = 0) → (((m1.1 273 17) = 0) → K 1 m1) ∧ ((¬ (m1.1 273 17) = 0) → vp_in ((m1.1 273 17) - 1) 160 ∧ ((1 ≤ (rankV (m1.1 279 ((m1.1 273 17) - 1).toNatClampNeg)) ∧ (rankV (m1.1 279 ((m1.1 273 17) - 1).toNatClampNeg)) ≤ 3) → K 1 m1) ∧ (¬ (1 ≤ (rankV (m1.1 279 ((m1.1 273 17) - 1).toNatClampNeg)) ∧ (rankV (m1.1 279 ((m1.1 273 17) - 1).toNatClampNeg)) ≤ 3) → K 0 m1))))) : Evi G (d + 1) mX12_isAskAhead [.ref (ga G 273)] m K := by
  refine Ev.go [.ref (ga G 273)] (by decide) (Nat.le_of_ble_eq_true rfl) rfl ?_
  refine go_aload_n dX12_isAskAhead_0 rfl ?_
  refine go_callV mX12_isOpen dX12_isAskAhead_1 lm_X12_184 okX12_isOpen isX12_isOpen sh_273 rfl (As := []) (S := []) rfl rfl (Nat.le_of_ble_eq_true rfl) hF (k_i (fun r2 m1 hF => ?_))
  refine go_if_ne 40 dX12_isAskAhead_4 rfl ⟨fun hc => ?_, fun hc => ?_⟩
  · have hF := hF.1 hc
    refine go_iconst (v := 0) dX12_isAskAhead_40 (by decide) ?_
    exact go_zret (S := []) dX12_isAskAhead_41 rfl (by decide) ⟨_, rfl, hF⟩
  · have hF := hF.2 hc
    refine go_aload_n dX12_isAskAhead_7 rfl ?_
    refine go_getI (k := 17) dX12_isAskAhead_8 sh_273 rfl inX12 (Nat.le_of_ble_eq_true rfl) lf_X12_171 rfl ?_
    refine go_if_eq 36 dX12_isAskAhead_11 rfl ⟨fun hc => ?_, fun hc => ?_⟩
    · have hF := hF.1 hc
      refine go_iconst (v := 1) dX12_isAskAhead_36 (by decide) ?_
      refine go_goto 41 dX12_isAskAhead_37 rfl ?_
      exact go_zret (S := []) dX12_isAskAhead_41 rfl (by decide) ⟨_, rfl, hF⟩
    · have hF := hF.2 hc
      refine go_aload_n dX12_isAskAhead_14 rfl ?_
      refine go_getR (k := 16) (r := 279) dX12_isAskAhead_15 sh_273 rfl inX12 (Nat.le_of_ble_eq_true rfl) lf_X12_32 rfl rfl ?_
      refine go_aload_n dX12_isAskAhead_18 rfl ?_
      refine go_getI (k := 17) dX12_isAskAhead_19 sh_273 rfl inX12 (Nat.le_of_ble_eq_true rfl) lf_X12_171 rfl ?_
      refine go_iconst (v := 1) dX12_isAskAhead_22 (by decide) ?_
      refine go_isub dX12_isAskAhead_23 ?_
      obtain ⟨hi, hF⟩ := hF
      refine go_iald dX12_isAskAhead_24 sh_279 hi ?_
      refine go_callS mX12_rank dX12_isAskAhead_25 lm_X12_174 okX12_rank isX12_rank (As := [.int (m1.1 279 ((m1.1 273 17) - 1).toNatClampNeg)]) (S := []) rfl rfl (Nat.le_of_ble_eq_true rfl) (eX12_rank G _ (m1.1 279 ((m1.1 273 17) - 1).toNatClampNeg) m1 (fun r m' => r = rankV (m1.1 279 ((m1.1 273 17) - 1).toNatClampNeg) ∧ m1 = m') ⟨rfl, rfl⟩) (k_i (fun r m' hr => ?_))
      obtain ⟨hr1, hr2⟩ := hr
      subst hr1
      subst hr2
      refine go_iconst (v := 1) dX12_isAskAhead_28 (by decide) ?_
      refine go_iconst (v := 3) dX12_isAskAhead_29 (by decide) ?_
      rcases Classical.em (1 ≤ (rankV (m1.1 279 ((m1.1 273 17) - 1).toNatClampNeg)) ∧ (rankV (m1.1 279 ((m1.1 273 17) - 1).toNatClampNeg)) ≤ 3) with hp | hp
      · have hF := hF.1 hp
        refine go_callS mX12_isIn dX12_isAskAhead_30 lm_X12_80 okX12_isIn isX12_isIn (As := [.int (rankV (m1.1 279 ((m1.1 273 17) - 1).toNatClampNeg)), .int 1, .int 3]) (S := []) rfl rfl (Nat.le_of_ble_eq_true rfl) (eX12_isIn G _ (rankV (m1.1 279 ((m1.1 273 17) - 1).toNatClampNeg)) 1 3 m1 (fun r m' => r = 1 ∧ m1 = m') ⟨fun _ => ⟨rfl, rfl⟩, fun q => absurd hp q⟩) (k_i (fun r m' hr => ?_))
        obtain ⟨hr1, hr2⟩ := hr
        subst hr1
        subst hr2
        refine go_if_eq 40 dX12_isAskAhead_33 rfl ⟨fun hc => absurd hc (by decide), fun _ => ?_⟩
        refine go_iconst (v := 1) dX12_isAskAhead_36 (by decide) ?_
        refine go_goto 41 dX12_isAskAhead_37 rfl ?_
        exact go_zret (S := []) dX12_isAskAhead_41 rfl (by decide) ⟨_, rfl, hF⟩
      · have hF := hF.2 hp
        refine go_callS mX12_isIn dX12_isAskAhead_30 lm_X12_80 okX12_isIn isX12_isIn (As := [.int (rankV (m1.1 279 ((m1.1 273 17) - 1).toNatClampNeg)), .int 1, .int 3]) (S := []) rfl rfl (Nat.le_of_ble_eq_true rfl) (eX12_isIn G _ (rankV (m1.1 279 ((m1.1 273 17) - 1).toNatClampNeg)) 1 3 m1 (fun r m' => r = 0 ∧ m1 = m') ⟨fun q => absurd q hp, fun _ => ⟨rfl, rfl⟩⟩) (k_i (fun r m' hr => ?_))
        obtain ⟨hr1, hr2⟩ := hr
        subst hr1
        subst hr2
        refine go_if_eq 40 dX12_isAskAhead_33 rfl ⟨fun _ => ?_, fun hc => absurd hc (by decide)⟩
        refine go_iconst (v := 0) dX12_isAskAhead_40 (by decide) ?_
        exact go_zret (S := []) dX12_isAskAhead_41 rfl (by decide) ⟨_, rfl, hF⟩
theorem vX12_opened (G : GP) (d : Nat) (a0 : Int32) (m : Mem) (K : Int32 → Mem → Prop) (hF : ((¬ (m.1 273 18) = 8) → ∀ m1 : Mem, m1 = wI m 273 18 ((m.1 273 18) + 1) → vp_in (m1.1 273 17) 160 ∧ ∀ m2 : Mem, m2 = wI m1 279 (m1.1 273 17).toNatClampNeg a0 → ∀ m3 : Mem, m3 = wI m2 273 17 ((m2.1 273 17) + 1) → Evv G (d + 1) mX12_nextToken [.ref (ga G 273)] m3 (fun m4 => K 0 m4)) ∧ (((m.1 273 18) = 8) → K 3 m)) : Evi G (d + 2) mX12_opened [.ref (ga G 273), .int a0] m K := by
  refine Ev.go [.ref (ga G 273), .int a0] (by decide) (Nat.le_of_ble_eq_true rfl) rfl ?_
  refine go_aload_n dX12_opened_0 rfl ?_
  refine go_getI (k := 18) dX12_opened_1 sh_273 rfl inX12 (Nat.le_of_ble_eq_true rfl) lf_X12_181 rfl ?_
  refine go_bipush (v := 8) dX12_opened_4 (by decide) ?_
  refine go_icmp_ne 11 dX12_opened_6 rfl ⟨fun hc => ?_, fun hc => ?_⟩
  · have hF := hF.1 hc
    refine go_aload_n dX12_opened_11 rfl ?_
    refine go_dup dX12_opened_12 rfl ?_
    refine go_getI (k := 18) dX12_opened_13 sh_273 rfl inX12 (Nat.le_of_ble_eq_true rfl) lf_X12_181 rfl ?_
    refine go_iconst (v := 1) dX12_opened_16 (by decide) ?_
    refine go_iadd dX12_opened_17 ?_
    refine go_putI (k := 18) dX12_opened_18 sh_273 rfl inX12 (Nat.le_of_ble_eq_true rfl) lf_X12_181 tyX12 tyX12_ok nmX12 rfl rfl (by decide +kernel) ?_
    obtain ⟨m1, em1⟩ : ∃ z : Mem, z = wI m 273 18 ((m.1 273 18) + 1) := ⟨_, rfl⟩
    rw [← em1]
    have hF := hF m1 em1
    refine go_aload_n dX12_opened_21 rfl ?_
    refine go_getR (k := 16) (r := 279) dX12_opened_22 sh_273 rfl inX12 (Nat.le_of_ble_eq_true rfl) lf_X12_32 rfl rfl ?_
    refine go_aload_n dX12_opened_25 rfl ?_
    refine go_getI (k := 17) dX12_opened_26 sh_273 rfl inX12 (Nat.le_of_ble_eq_true rfl) lf_X12_171 rfl ?_
    refine go_iload_n dX12_opened_29 rfl ?_
    obtain ⟨hi, hF⟩ := hF
    refine go_iast dX12_opened_30 sh_279 hi ?_
    obtain ⟨m2, em2⟩ : ∃ z : Mem, z = wI m1 279 (m1.1 273 17).toNatClampNeg a0 := ⟨_, rfl⟩
    rw [← em2]
    have hF := hF m2 em2
    refine go_aload_n dX12_opened_31 rfl ?_
    refine go_dup dX12_opened_32 rfl ?_
    refine go_getI (k := 17) dX12_opened_33 sh_273 rfl inX12 (Nat.le_of_ble_eq_true rfl) lf_X12_171 rfl ?_
    refine go_iconst (v := 1) dX12_opened_36 (by decide) ?_
    refine go_iadd dX12_opened_37 ?_
    refine go_putI (k := 17) dX12_opened_38 sh_273 rfl inX12 (Nat.le_of_ble_eq_true rfl) lf_X12_171 tyX12 tyX12_ok nmX12 rfl rfl (by decide +kernel) ?_
    obtain ⟨m3, em3⟩ : ∃ z : Mem, z = wI m2 273 17 ((m2.1 273 17) + 1) := ⟨_, rfl⟩
    rw [← em3]
    have hF := hF m3 em3
    refine go_aload_n dX12_opened_41 rfl ?_
    refine go_callV mX12_nextToken dX12_opened_42 lm_X12_187 okX12_nextToken isX12_nextToken sh_273 rfl (As := []) (S := []) rfl rfl (Nat.le_of_ble_eq_true rfl) hF (k_v (fun m4 hF => ?_))
    refine go_iconst (v := 0) dX12_opened_45 (by decide) ?_
    exact go_iret (S := []) dX12_opened_46 rfl ⟨_, rfl, hF⟩
  · have hF := hF.2 hc
    refine go_iconst (v := 3) dX12_opened_9 (by decide) ?_
    exact go_iret (S := []) dX12_opened_10 rfl ⟨_, rfl, hF⟩
theorem vX12_beginOne (G : GP) (d : Nat)  (m : Mem) (K : Int32 → Mem → Prop) (hF : ((¬ (m.1 273 10) = 1) → Evi G (d + 5) mX12_nameOf [.ref (ga G 273)] m (fun r2 m1 => ((r2 < 0) → (((m1.1 273 10) = 1) → ((¬ (m1.1 273 10) = 1) → ((¬ (m1.1 273 10) = 1) → Evv G (d + 5) mX12_emit [.ref (ga G 273), .int 1, .int r2] m1 (fun m3 => Evv G (d + 5) mX12_nextToken [.ref (ga G 273)] m3 (fun m4 => ∀ m5 : Mem, m5 = wI m4 273 19 1 → Evv G (d + 5) mX12_settle [.ref (ga G 273), .int 8] m5 (fun m6 => K 0 m6)))) ∧ (((m1.1 273 10) = 1) → Evv G (d + 5) mX12_emit [.ref (ga G 273), .int 1, .int (m1.1 273 11)] m1 (fun m7 => Evv G (d + 5) mX12_nextToken [.ref (ga G 273)] m7 (fun m8 => ∀ m9 : Mem, m9 = wI m8 273 19 1 → Evv G (d + 5) mX12_settle [.ref (ga G 273), .int 8] m9 (fun m10 => K 0 m10))))) ∧ (((m1.1 273 10) = 1) → ((¬ (m1.1 273 10) = 1) → Evv G (d + 5) mX12_emit [.ref (ga G 273), .int 0, .int r2] m1 (fun m11 => Evv G (d + 5) mX12_nextToken [.ref (ga G 273)] m11 (fun m12 => ∀ m13 : Mem, m13 = wI m12 273 19 1 → Evv G (d + 5) mX12_settle [.ref (ga G 273), .int 8] m13 (fun m14 => K 0 m14)))) ∧ (((m1.1 273 10) = 1) → Evv G (d + 5) mX12_emit [.ref (ga G 273), .int 0, .int (m1.1 273 11)] m1 (fun m15 => Evv G (d + 5) mX12_nextToken [.ref (ga G 273)] m15 (fun m16 => ∀ m17 : Mem, m17 = wI m16 273 19 1 → Evv G (d + 5) mX12_settle [.ref (ga G 273), .int 8] m17 (fun m18 => K 0 m18)))))) ∧ ((¬ (m1.1 273 10) = 1) → ((r2 < 0) → ((¬ (m1.1 273 10) = 40) → ((¬ (m1.1 273 10) = 45) → ((m1.1 273 10 = 2 ∧ m1.2.1 273 12 = (w3V 110 111 116)) → Evi G (d + 5) mX12_isAskAhead [.ref (ga G 273)] m1 (fun r20 m19 => ((r20 = 0) → K 1 m19) ∧ ((¬ r20 = 0) → Evi G (d + 5) mX12_opened [.ref (ga G 273), .int 20] m19 (fun r22 m21 => K r22 m21)))) ∧ (¬ (m1.1 273 10 = 2 ∧ m1.2.1 273 12 = (w3V 110 111 116)) → K 1 m1)) ∧ (((m1.1 273 10) = 45) → Evi G (d + 5) mX12_opened [.ref (ga G 273), .int 2] m1 (fun r24 m23 => K r24 m23))) ∧ (((m1.1 273 10) = 40) → Evi G (d + 5) mX12_opened [.ref (ga G 273), .int 40] m1 (fun r26 m25 => K r26 m25))) ∧ ((¬ r2 < 0) → ((¬ (m1.1 273 10) = 1) → ((¬ (m1.1 273 10) = 1) → Evv G (d + 5) mX12_emit [.ref (ga G 273), .int 1, .int r2] m1 (fun m27 => Evv G (d + 5) mX12_nextToken [.ref (ga G 273)] m27 (fun m28 => ∀ m29 : Mem, m29 = wI m28 273 19 1 → Evv G (d + 5) mX12_settle [.ref (ga G 273), .int 8] m29 (fun m30 => K 0 m30)))) ∧ (((m1.1 273 10) = 1) → Evv G (d + 5) mX12_emit [.ref (ga G 273), .int 1, .int (m1.1 273 11)] m1 (fun m31 => Evv G (d + 5) mX12_nextToken [.ref (ga G 273)] m31 (fun m32 => ∀ m33 : Mem, m33 = wI m32 273 19 1 → Evv G (d + 5) mX12_settle [.ref (ga G 273), .int 8] m33 (fun m34 => K 0 m34))))) ∧ (((m1.1 273 10) = 1) → ((¬ (m1.1 273 10) = 1) → Evv G (d + 5) mX12_emit [.ref (ga G 273), .int 0, .int r2] m1 (fun m35 => Evv G (d + 5) mX12_nextToken [.ref (ga G 273)] m35 (fun m36 => ∀ m37 : Mem, m37 = wI m36 273 19 1 → Evv G (d + 5) mX12_settle [.ref (ga G 273), .int 8] m37 (fun m38 => K 0 m38)))) ∧ (((m1.1 273 10) = 1) → Evv G (d + 5) mX12_emit [.ref (ga G 273), .int 0, .int (m1.1 273 11)] m1 (fun m39 => Evv G (d + 5) mX12_nextToken [.ref (ga G 273)] m39 (fun m40 => ∀ m41 : Mem, m41 = wI m40 273 19 1 → Evv G (d + 5) mX12_settle [.ref (ga G 273), .int 8] m41 (fun m42 => K 0 m42)))))))) ∧ ((¬ r2 < 0) → Evi G (d + 5) mX12_isOf [.ref (ga G 273), .int r2] m1 (fun r44 m43 => ((¬ r44 = 0) → (((m43.1 273 10) = 1) → ((¬ (m43.1 273 10) = 1) → ((¬ (m43.1 273 10) = 1) → Evv G (d + 5) mX12_emit [.ref (ga G 273), .int 1, .int r2] m43 (fun m45 => Evv G (d + 5) mX12_nextToken [.ref (ga G 273)] m45 (fun m46 => ∀ m47 : Mem, m47 = wI m46 273 19 1 → Evv G (d + 5) mX12_settle [.ref (ga G 273), .int 8] m47 (fun m48 => K 0 m48)))) ∧ (((m43.1 273 10) = 1) → Evv G (d + 5) mX12_emit [.ref (ga G 273), .int 1, .int (m43.1 273 11)] m43 (fun m49 => Evv G (d + 5) mX12_nextToken [.ref (ga G 273)] m49 (fun m50 => ∀ m51 : Mem, m51 = wI m50 273 19 1 → Evv G (d + 5) mX12_settle [.ref (ga G 273), .int 8] m51 (fun m52 => K 0 m52))))) ∧ (((m43.1 273 10) = 1) → ((¬ (m43.1 273 10) = 1) → Evv G (d + 5) mX12_emit [.ref (ga G 273), .int 0, .int r2] m43 (fun m53 => Evv G (d + 5) mX12_nextToken [.ref (ga G 273)] m53 (fun m54 => ∀ m55 : Mem, m55 = wI m54 273 19 1 → Evv G (d + 5) mX12_settle [.ref (ga G 273), .int 8] m55 (fun m56 => K 0 m56)))) ∧ (((m43.1 273 10) = 1) → Evv G (d + 5) mX12_emit [.ref (ga G 273), .int 0, .int (m43.1 273 11)] m43 (fun m57 => Evv G (d + 5) mX12_nextToken [.ref (ga G 273)] m57 (fun m58 => ∀ m59 : Mem, m59 = wI m58 273 19 1 → Evv G (d + 5) mX12_settle [.ref (ga G 273), .int 8] m59 (fun m60 => K 0 m60)))))) ∧ ((¬ (m43.1 273 10) = 1) → ((r2 < 0) → ((¬ (m43.1 273 10) = 40) → ((¬ (m43.1 273 10) = 45) → ((m43.1 273 10 = 2 ∧ m43.2.1 273 12 = (w3V 110 111 116)) → Evi G (d + 5) mX12_isAskAhead [.ref (ga G 273)] m43 (fun r62 m61 => ((r62 = 0) → K 1 m61) ∧ ((¬ r62 = 0) → Evi G (d + 5) mX12_opened [.ref (ga G 273), .int 20] m61 (fun r64 m63 => K r64 m63)))) ∧ (¬ (m43.1 273 10 = 2 ∧ m43.2.1 273 12 = (w3V 110 111 116)) → K 1 m43)) ∧ (((m43.1 273 10) = 45) → Evi G (d + 5) mX12_opened [.ref (ga G 273), .int 2] m43 (fun r66 m65 => K r66 m65))) ∧ (((m43.1 273 10) = 40) → Evi G (d + 5) mX12_opened [.ref (ga G 273), .int 40] m43 (fun r68 m67 => K r68 m67))) ∧ ((¬ r2 < 0) → ((¬ (m43.1 273 10) = 1) → ((¬ (m43.1 273 10) = 1) → Evv G (d + 5) mX12_emit [.ref (ga G 273), .int 1, .int r2] m43 (fun m69 => Evv G (d + 5) mX12_nextToken [.ref (ga G 273)] m69 (fun m70 => ∀ m71 : Mem, m71 = wI m70 273 19 1 → Evv G (d + 5) mX12_settle [.ref (ga G 273), .int 8] m71 (fun m72 => K 0 m72)))) ∧ (((m43.1 273 10) = 1) → Evv G (d + 5) mX12_emit [.ref (ga G 273), .int 1, .int (m43.1 273 11)] m43 (fun m73 => Evv G (d + 5) mX12_nextToken [.ref (ga G 273)] m73 (fun m74 => ∀ m75 : Mem, m75 = wI m74 273 19 1 → Evv G (d + 5) mX12_settle [.ref (ga G 273), .int 8] m75 (fun m76 => K 0 m76))))) ∧ (((m43.1 273 10) = 1) → ((¬ (m43.1 273 10) = 1) → Evv G (d + 5) mX12_emit [.ref (ga G 273), .int 0, .int r2] m43 (fun m77 => Evv G (d + 5) mX12_nextToken [.ref (ga G 273)] m77 (fun m78 => ∀ m79 : Mem, m79 = wI m78 273 19 1 → Evv G (d + 5) mX12_settle [.ref (ga G 273), .int 8] m79 (fun m80 => K 0 m80)))) ∧ (((m43.1 273 10) = 1) → Evv G (d + 5) mX12_emit [.ref (ga G 273), .int 0, .int (m43.1 273 11)] m43 (fun m81 => Evv G (d + 5) mX12_nextToken [.ref (ga G 273)] m81 (fun m82 => ∀ m83 : Mem, m83 = wI m82 273 19 1 → Evv G (d + 5) mX12_settle [.ref (ga G 273), .int 8] m83 (fun m84 => K 0 m84)))))))) ∧ ((r44 = 0) → K 5 m43))))) ∧ (((m.1 273 10) = 1) → (((m.1 273 11) ≤ 9999) → Evi G (d + 5) mX12_nameOf [.ref (ga G 273)] m (fun r86 m85 => ((r86 < 0) → (((m85.1 273 10) = 1) → ((¬ (m85.1 273 10) = 1) → ((¬ (m85.1 273 10) = 1) → Evv G (d + 5) mX12_emit [.ref (ga G 273), .int 1, .int r86] m85 (fun m87 => Evv G (d + 5) mX12_nextToken [.ref (ga G 273)] m87 (fun m88 => ∀ m89 : Mem, m89 = wI m88 273 19 1 → Evv G (d + 5) mX12_settle [.ref (ga G 273), .int 8] m89 (fun m90 => K 0 m90)))) ∧ (((m85.1 273 10) = 1) → Evv G (d + 5) mX12_emit [.ref (ga G 273), .int 1, .int (m85.1 273 11)] m85 (fun m91 => Evv G (d + 5) mX12_nextToken [.ref (ga G 273)] m91 (fun m92 => ∀ m93 : Mem, m93 = wI m92 273 19 1 → Evv G (d + 5) mX12_settle [.ref (ga G 273), .int 8] m93 (fun m94 => K 0 m94))))) ∧ (((m85.1 273 10) = 1) → ((¬ (m85.1 273 10) = 1) → Evv G (d + 5) mX12_emit [.ref (ga G 273), .int 0, .int r86] m85 (fun m95 => Evv G (d + 5) mX12_nextToken [.ref (ga G 273)] m95 (fun m96 => ∀ m97 : Mem, m97 = wI m96 273 19 1 → Evv G (d + 5) mX12_settle [.ref (ga G 273), .int 8] m97 (fun m98 => K 0 m98)))) ∧ (((m85.1 273 10) = 1) → Evv G (d + 5) mX12_emit [.ref (ga G 273), .int 0, .int (m85.1 273 11)] m85 (fun m99 => Evv G (d + 5) mX12_nextToken [.ref (ga G 273)] m99 (fun m100 => ∀ m101 : Mem, m101 = wI m100 273 19 1 → Evv G (d + 5) mX12_settle [.ref (ga G 273), .int 8] m101 (fun m102 => K 0 m102)))))) ∧ ((¬ (m85.1 273 10) = 1) → ((r86 < 0) → ((¬ (m85.1 273 10) = 40) → ((¬ (m85.1 273 10) = 45) → ((m85.1 273 10 = 2 ∧ m85.2.1 273 12 = (w3V 110 111 116)) → Evi G (d + 5) mX12_isAskAhead [.ref (ga G 273)] m85 (fun r104 m103 => ((r104 = 0) → K 1 m103) ∧ ((¬ r104 = 0) → Evi G (d + 5) mX12_opened [.ref (ga G 273), .int 20] m103 (fun r106 m105 => K r106 m105)))) ∧ (¬ (m85.1 273 10 = 2 ∧ m85.2.1 273 12 = (w3V 110 111 116)) → K 1 m85)) ∧ (((m85.1 273 10) = 45) → Evi G (d + 5) mX12_opened [.ref (ga G 273), .int 2] m85 (fun r108 m107 => K r108 m107))) ∧ (((m85.1 273 10) = 40) → Evi G (d + 5) mX12_opened [.ref (ga G 273), .int 40] m85 (fun r110 m109 => K r110 m109))) ∧ ((¬ r86 < 0) → ((¬ (m85.1 273 10) = 1) → ((¬ (m85.1 273 10) = 1) → Evv G (d + 5) mX12_emit [.ref (ga G 273), .int 1, .int r86] m85 (fun m111 => Evv G (d + 5) mX12_nextToken [.ref (ga G 273)] m111 (fun m112 => ∀ m113 : Mem, m113 = wI m112 273 19 1 → Evv G (d + 5) mX12_settle [.ref (ga G 273), .int 8] m113 (fun m114 => K 0 m114)))) ∧ (((m85.1 273 10) = 1) → Evv G (d + 5) mX12_emit [.ref (ga G 273), .int 1, .int (m85.1 273 11)] m85 (fun m115 => Evv G (d + 5) mX12_nextToken [.ref (ga G 273)] m115 (fun m116 => ∀ m117 : Mem, m117 = wI m116 273 19 1 → Evv G (d + 5) mX12_settle [.ref (ga G 273), .int 8] m117 (fun m118 => K 0 m118))))) ∧ (((m85.1 273 10) = 1) → ((¬ (m85.1 273 10) = 1) → Evv G (d + 5) mX12_emit [.ref (ga G 273), .int 0, .int r86] m85 (fun m119 => Evv G (d + 5) mX12_nextToken [.ref (ga G 273)] m119 (fun m120 => ∀ m121 : Mem, m121 = wI m120 273 19 1 → Evv G (d + 5) mX12_settle [.ref (ga G 273), .int 8] m121 (fun m122 => K 0 m122)))) ∧ (((m85.1 273 10) = 1) → Evv G (d + 5) mX12_emit [.ref (ga G 273), .int 0, .int (m85.1 273 11)] m85 (fun m123 => Evv G (d + 5) mX12_nextToken [.ref (ga G 273)] m123 (fun m124 => ∀ m125 : Mem, m125 = wI m124 273 19 1 → Evv G (d + 5) mX12_settle [.ref (ga G 273), .int 8] m125 (fun m126 => K 0 m126)))))))) ∧ ((¬ r86 < 0) → Evi G (d + 5) mX12_isOf [.ref (ga G 273), .int r86] m85 (fun r128 m127 => ((¬ r128 = 0) → (((m127.1 273 10) = 1) → ((¬ (m127.1 273 10) = 1) → ((¬ (m127.1 273 10) = 1) → Evv G (d + 5) mX12_emit [.ref (ga G 273), .int 1, .int r86] m127 (fun m129 => Evv G (d + 5) mX12_nextToken [.ref (ga G 273)] m129 (fun m130 => ∀ m131 : Mem, m131 = wI m130 273 19 1 → Evv G (d + 5) mX12_settle [.ref (ga G 273), .int 8] m131 (fun m132 => K 0 m132)))) ∧ (((m127.1 273 10) = 1) → Evv G (d + 5) mX12_emit [.ref (ga G 273), .int 1, .int (m127.1 273 11)] m127 (fun m133 => Evv G (d + 5) mX12_nextToken [.ref (ga G 273)] m133 (fun m134 => ∀ m135 : Mem, m135 = wI m134 273 19 1 → Evv G (d + 5) mX12_settle [.ref (ga G 273), .int 8] m135 (fun m136 => K 0 m136))))) ∧ (((m127.1 273 10) = 1) → ((¬ (m127.1 273 10) = 1) → Evv G (d + 5) mX12_emit [.ref (ga G 273), .int 0, .int r86] m127 (fun m137 => Evv G (d + 5) mX12_nextToken [.ref (ga G 273)] m137 (fun m138 => ∀ m139 : Mem, m139 = wI m138 273 19 1 → Evv G (d + 5) mX12_settle [.ref (ga G 273), .int 8] m139 (fun m140 => K 0 m140)))) ∧ (((m127.1 273 10) = 1) → Evv G (d + 5) mX12_emit [.ref (ga G 273), .int 0, .int (m127.1 273 11)] m127 (fun m141 => Evv G (d + 5) mX12_nextToken [.ref (ga G 273)] m141 (fun m142 => ∀ m143 : Mem, m143 = wI m142 273 19 1 → Evv G (d + 5) mX12_settle [.ref (ga G 273), .int 8] m143 (fun m144 => K 0 m144)))))) ∧ ((¬ (m127.1 273 10) = 1) → ((r86 < 0) → ((¬ (m127.1 273 10) = 40) → ((¬ (m127.1 273 10) = 45) → ((m127.1 273 10 = 2 ∧ m127.2.1 273 12 = (w3V 110 111 116)) → Evi G (d + 5) mX12_isAskAhead [.ref (ga G 273)] m127 (fun r146 m145 => ((r146 = 0) → K 1 m145) ∧ ((¬ r146 = 0) → Evi G (d + 5) mX12_opened [.ref (ga G 273), .int 20] m145 (fun r148 m147 => K r148 m147)))) ∧ (¬ (m127.1 273 10 = 2 ∧ m127.2.1 273 12 = (w3V 110 111 116)) → K 1 m127)) ∧ (((m127.1 273 10) = 45) → Evi G (d + 5) mX12_opened [.ref (ga G 273), .int 2] m127 (fun r150 m149 => K r150 m149))) ∧ (((m127.1 273 10) = 40) → Evi G (d + 5) mX12_opened [.ref (ga G 273), .int 40] m127 (fun r152 m151 => K r152 m151))) ∧ ((¬ r86 < 0) → ((¬ (m127.1 273 10) = 1) → ((¬ (m127.1 273 10) = 1) → Evv G (d + 5) mX12_emit [.ref (ga G 273), .int 1, .int r86] m127 (fun m153 => Evv G (d + 5) mX12_nextToken [.ref (ga G 273)] m153 (fun m154 => ∀ m155 : Mem, m155 = wI m154 273 19 1 → Evv G (d + 5) mX12_settle [.ref (ga G 273), .int 8] m155 (fun m156 => K 0 m156)))) ∧ (((m127.1 273 10) = 1) → Evv G (d + 5) mX12_emit [.ref (ga G 273), .int 1, .int (m127.1 273 11)] m127 (fun m157 => Evv G (d + 5) mX12_nextToken [.ref (ga G 273)] m157 (fun m158 => ∀ m159 : Mem, m159 = wI m158 273 19 1 → Evv G (d + 5) mX12_settle [.ref (ga G 273), .int 8] m159 (fun m160 => K 0 m160))))) ∧ (((m127.1 273 10) = 1) → ((¬ (m127.1 273 10) = 1) → Evv G (d + 5) mX12_emit [.ref (ga G 273), .int 0, .int r86] m127 (fun m161 => Evv G (d + 5) mX12_nextToken [.ref (ga G 273)] m161 (fun m162 => ∀ m163 : Mem, m163 = wI m162 273 19 1 → Evv G (d + 5) mX12_settle [.ref (ga G 273), .int 8] m163 (fun m164 => K 0 m164)))) ∧ (((m127.1 273 10) = 1) → Evv G (d + 5) mX12_emit [.ref (ga G 273), .int 0, .int (m127.1 273 11)] m127 (fun m165 => Evv G (d + 5) mX12_nextToken [.ref (ga G 273)] m165 (fun m166 => ∀ m167 : Mem, m167 = wI m166 273 19 1 → Evv G (d + 5) mX12_settle [.ref (ga G 273), .int 8] m167 (fun m168 => K 0 m168)))))))) ∧ ((r128 = 0) → K 5 m127))))) ∧ ((¬ (m.1 273 11) ≤ 9999) → K 2 m))) : Evi G (d + 6) mX12_beginOne [.ref (ga G 273)] m K := by
  refine Ev.go [.ref (ga G 273), uu] (by decide) (Nat.le_of_ble_eq_true rfl) rfl ?_
  refine go_aload_n dX12_beginOne_0 rfl ?_
  refine go_getI (k := 10) dX12_beginOne_1 sh_273 rfl inX12 (Nat.le_of_ble_eq_true rfl) lf_X12_113 rfl ?_
  refine go_iconst (v := 1) dX12_beginOne_4 (by decide) ?_
  refine go_icmp_ne 20 dX12_beginOne_5 rfl ⟨fun hc => ?_, fun hc => ?_⟩
  · have hF := hF.1 hc
    refine go_aload_n dX12_beginOne_20 rfl ?_
    refine go_callV mX12_nameOf dX12_beginOne_21 lm_X12_190 okX12_nameOf isX12_nameOf sh_273 rfl (As := []) (S := []) rfl rfl (Nat.le_of_ble_eq_true rfl) hF (k_i (fun r2 m1 hF => ?_))
    refine go_istore_n (L' := [.ref (ga G 273), .int r2]) dX12_beginOne_24 (Nat.le_of_ble_eq_true rfl) rfl ?_
    refine go_iload_n dX12_beginOne_25 rfl ?_
    refine go_if_lt 39 dX12_beginOne_26 rfl ⟨fun hc => ?_, fun hc => ?_⟩
    · have hF := hF.1 hc
      refine go_aload_n dX12_beginOne_39 rfl ?_
      refine go_getI (k := 10) dX12_beginOne_40 sh_273 rfl inX12 (Nat.le_of_ble_eq_true rfl) lf_X12_113 rfl ?_
      refine go_iconst (v := 1) dX12_beginOne_43 (by decide) ?_
      refine go_icmp_eq 51 dX12_beginOne_44 rfl ⟨fun hc => ?_, fun hc => ?_⟩
      · have hF := hF.1 hc
        refine go_aload_n dX12_beginOne_51 rfl ?_
        refine go_aload_n dX12_beginOne_52 rfl ?_
        refine go_getI (k := 10) dX12_beginOne_53 sh_273 rfl inX12 (Nat.le_of_ble_eq_true rfl) lf_X12_113 rfl ?_
        refine go_iconst (v := 1) dX12_beginOne_56 (by decide) ?_
        refine go_icmp_ne 64 dX12_beginOne_57 rfl ⟨fun hc => ?_, fun hc => ?_⟩
        · have hF := hF.1 hc
          refine go_iconst (v := 1) dX12_beginOne_64 (by decide) ?_
          refine go_aload_n dX12_beginOne_65 rfl ?_
          refine go_getI (k := 10) dX12_beginOne_66 sh_273 rfl inX12 (Nat.le_of_ble_eq_true rfl) lf_X12_113 rfl ?_
          refine go_iconst (v := 1) dX12_beginOne_69 (by decide) ?_
          refine go_icmp_ne 80 dX12_beginOne_70 rfl ⟨fun hc => ?_, fun hc => ?_⟩
          · have hF := hF.1 hc
            refine go_iload_n dX12_beginOne_80 rfl ?_
            refine go_callV mX12_emit dX12_beginOne_81 lm_X12_177 okX12_emit isX12_emit sh_273 rfl (As := [.int 1, .int r2]) (S := []) rfl rfl (Nat.le_of_ble_eq_true rfl) hF (k_v (fun m3 hF => ?_))
            refine go_aload_n dX12_beginOne_84 rfl ?_
            refine go_callV mX12_nextToken dX12_beginOne_85 lm_X12_187 okX12_nextToken isX12_nextToken sh_273 rfl (As := []) (S := []) rfl rfl (Nat.le_of_ble_eq_true rfl) hF (k_v (fun m4 hF => ?_))
            refine go_aload_n dX12_beginOne_88 rfl ?_
            refine go_iconst (v := 1) dX12_beginOne_89 (by decide) ?_
            refine go_putZ (k := 19) dX12_beginOne_90 sh_273 rfl inX12 (Nat.le_of_ble_eq_true rfl) lf_X12_196 tyX12 tyX12_ok nmX12 rfl rfl (by decide +kernel) (by decide) ?_
            obtain ⟨m5, em5⟩ : ∃ z : Mem, z = wI m4 273 19 1 := ⟨_, rfl⟩
            rw [← em5]
            have hF := hF m5 em5
            refine go_aload_n dX12_beginOne_93 rfl ?_
            refine go_bipush (v := 8) dX12_beginOne_94 (by decide) ?_
            refine go_callV mX12_settle dX12_beginOne_96 lm_X12_200 okX12_settle isX12_settle sh_273 rfl (As := [.int 8]) (S := []) rfl rfl (Nat.le_of_ble_eq_true rfl) hF (k_v (fun m6 hF => ?_))
            refine go_iconst (v := 0) dX12_beginOne_99 (by decide) ?_
            exact go_iret (S := []) dX12_beginOne_100 rfl ⟨_, rfl, hF⟩
          · have hF := hF.2 hc
            refine go_aload_n dX12_beginOne_73 rfl ?_
            refine go_getI (k := 11) dX12_beginOne_74 sh_273 rfl inX12 (Nat.le_of_ble_eq_true rfl) lf_X12_119 rfl ?_
            refine go_goto 81 dX12_beginOne_77 rfl ?_
            refine go_callV mX12_emit dX12_beginOne_81 lm_X12_177 okX12_emit isX12_emit sh_273 rfl (As := [.int 1, .int (m1.1 273 11)]) (S := []) rfl rfl (Nat.le_of_ble_eq_true rfl) hF (k_v (fun m7 hF => ?_))
            refine go_aload_n dX12_beginOne_84 rfl ?_
            refine go_callV mX12_nextToken dX12_beginOne_85 lm_X12_187 okX12_nextToken isX12_nextToken sh_273 rfl (As := []) (S := []) rfl rfl (Nat.le_of_ble_eq_true rfl) hF (k_v (fun m8 hF => ?_))
            refine go_aload_n dX12_beginOne_88 rfl ?_
            refine go_iconst (v := 1) dX12_beginOne_89 (by decide) ?_
            refine go_putZ (k := 19) dX12_beginOne_90 sh_273 rfl inX12 (Nat.le_of_ble_eq_true rfl) lf_X12_196 tyX12 tyX12_ok nmX12 rfl rfl (by decide +kernel) (by decide) ?_
            obtain ⟨m9, em9⟩ : ∃ z : Mem, z = wI m8 273 19 1 := ⟨_, rfl⟩
            rw [← em9]
            have hF := hF m9 em9
            refine go_aload_n dX12_beginOne_93 rfl ?_
            refine go_bipush (v := 8) dX12_beginOne_94 (by decide) ?_
            refine go_callV mX12_settle dX12_beginOne_96 lm_X12_200 okX12_settle isX12_settle sh_273 rfl (As := [.int 8]) (S := []) rfl rfl (Nat.le_of_ble_eq_true rfl) hF (k_v (fun m10 hF => ?_))
            refine go_iconst (v := 0) dX12_beginOne_99 (by decide) ?_
            exact go_iret (S := []) dX12_beginOne_100 rfl ⟨_, rfl, hF⟩
        · have hF := hF.2 hc
          refine go_iconst (v := 0) dX12_beginOne_60 (by decide) ?_
          refine go_goto 65 dX12_beginOne_61 rfl ?_
          refine go_aload_n dX12_beginOne_65 rfl ?_
          refine go_getI (k := 10) dX12_beginOne_66 sh_273 rfl inX12 (Nat.le_of_ble_eq_true rfl) lf_X12_113 rfl ?_
          refine go_iconst (v := 1) dX12_beginOne_69 (by decide) ?_
          refine go_icmp_ne 80 dX12_beginOne_70 rfl ⟨fun hc => ?_, fun hc => ?_⟩
          · have hF := hF.1 hc
            refine go_iload_n dX12_beginOne_80 rfl ?_
            refine go_callV mX12_emit dX12_beginOne_81 lm_X12_177 okX12_emit isX12_emit sh_273 rfl (As := [.int 0, .int r2]) (S := []) rfl rfl (Nat.le_of_ble_eq_true rfl) hF (k_v (fun m11 hF => ?_))
            refine go_aload_n dX12_beginOne_84 rfl ?_
            refine go_callV mX12_nextToken dX12_beginOne_85 lm_X12_187 okX12_nextToken isX12_nextToken sh_273 rfl (As := []) (S := []) rfl rfl (Nat.le_of_ble_eq_true rfl) hF (k_v (fun m12 hF => ?_))
            refine go_aload_n dX12_beginOne_88 rfl ?_
            refine go_iconst (v := 1) dX12_beginOne_89 (by decide) ?_
            refine go_putZ (k := 19) dX12_beginOne_90 sh_273 rfl inX12 (Nat.le_of_ble_eq_true rfl) lf_X12_196 tyX12 tyX12_ok nmX12 rfl rfl (by decide +kernel) (by decide) ?_
            obtain ⟨m13, em13⟩ : ∃ z : Mem, z = wI m12 273 19 1 := ⟨_, rfl⟩
            rw [← em13]
            have hF := hF m13 em13
            refine go_aload_n dX12_beginOne_93 rfl ?_
            refine go_bipush (v := 8) dX12_beginOne_94 (by decide) ?_
            refine go_callV mX12_settle dX12_beginOne_96 lm_X12_200 okX12_settle isX12_settle sh_273 rfl (As := [.int 8]) (S := []) rfl rfl (Nat.le_of_ble_eq_true rfl) hF (k_v (fun m14 hF => ?_))
            refine go_iconst (v := 0) dX12_beginOne_99 (by decide) ?_
            exact go_iret (S := []) dX12_beginOne_100 rfl ⟨_, rfl, hF⟩
          · have hF := hF.2 hc
            refine go_aload_n dX12_beginOne_73 rfl ?_
            refine go_getI (k := 11) dX12_beginOne_74 sh_273 rfl inX12 (Nat.le_of_ble_eq_true rfl) lf_X12_119 rfl ?_
            refine go_goto 81 dX12_beginOne_77 rfl ?_
            refine go_callV mX12_emit dX12_beginOne_81 lm_X12_177 okX12_emit isX12_emit sh_273 rfl (As := [.int 0, .int (m1.1 273 11)]) (S := []) rfl rfl (Nat.le_of_ble_eq_true rfl) hF (k_v (fun m15 hF => ?_))
            refine go_aload_n dX12_beginOne_84 rfl ?_
            refine go_callV mX12_nextToken dX12_beginOne_85 lm_X12_187 okX12_nextToken isX12_nextToken sh_273 rfl (As := []) (S := []) rfl rfl (Nat.le_of_ble_eq_true rfl) hF (k_v (fun m16 hF => ?_))
            refine go_aload_n dX12_beginOne_88 rfl ?_
            refine go_iconst (v := 1) dX12_beginOne_89 (by decide) ?_
            refine go_putZ (k := 19) dX12_beginOne_90 sh_273 rfl inX12 (Nat.le_of_ble_eq_true rfl) lf_X12_196 tyX12 tyX12_ok nmX12 rfl rfl (by decide +kernel) (by decide) ?_
            obtain ⟨m17, em17⟩ : ∃ z : Mem, z = wI m16 273 19 1 := ⟨_, rfl⟩
            rw [← em17]
            have hF := hF m17 em17
            refine go_aload_n dX12_beginOne_93 rfl ?_
            refine go_bipush (v := 8) dX12_beginOne_94 (by decide) ?_
            refine go_callV mX12_settle dX12_beginOne_96 lm_X12_200 okX12_settle isX12_settle sh_273 rfl (As := [.int 8]) (S := []) rfl rfl (Nat.le_of_ble_eq_true rfl) hF (k_v (fun m18 hF => ?_))
            refine go_iconst (v := 0) dX12_beginOne_99 (by decide) ?_
            exact go_iret (S := []) dX12_beginOne_100 rfl ⟨_, rfl, hF⟩
      · have hF := hF.2 hc
        refine go_iload_n dX12_beginOne_47 rfl ?_
        refine go_if_lt 101 dX12_beginOne_48 rfl ⟨fun hc => ?_, fun hc => ?_⟩
        · have hF := hF.1 hc
          refine go_aload_n dX12_beginOne_101 rfl ?_
          refine go_getI (k := 10) dX12_beginOne_102 sh_273 rfl inX12 (Nat.le_of_ble_eq_true rfl) lf_X12_113 rfl ?_
          refine go_bipush (v := 40) dX12_beginOne_105 (by decide) ?_
          refine go_icmp_ne 117 dX12_beginOne_107 rfl ⟨fun hc => ?_, fun hc => ?_⟩
          · have hF := hF.1 hc
            refine go_aload_n dX12_beginOne_117 rfl ?_
            refine go_getI (k := 10) dX12_beginOne_118 sh_273 rfl inX12 (Nat.le_of_ble_eq_true rfl) lf_X12_113 rfl ?_
            refine go_bipush (v := 45) dX12_beginOne_121 (by decide) ?_
            refine go_icmp_ne 132 dX12_beginOne_123 rfl ⟨fun hc => ?_, fun hc => ?_⟩
            · have hF := hF.1 hc
              refine go_aload_n dX12_beginOne_132 rfl ?_
              refine go_bipush (v := 110) dX12_beginOne_133 (by decide) ?_
              refine go_bipush (v := 111) dX12_beginOne_135 (by decide) ?_
              refine go_bipush (v := 116) dX12_beginOne_137 (by decide) ?_
              refine go_callS mX12_w3 dX12_beginOne_139 lm_X12_139 okX12_w3 isX12_w3 (As := [.int 110, .int 111, .int 116]) (S := [.ref (ga G 273)]) rfl rfl (Nat.le_of_ble_eq_true rfl) (eX12_w3 G _ 110 111 116 m1 (fun r m' => r = w3V 110 111 116 ∧ m1 = m') ⟨rfl, rfl⟩) (k_l (fun r m' hr => ?_))
              obtain ⟨hr1, hr2⟩ := hr
              subst hr1
              subst hr2
              rcases Classical.em (m1.1 273 10 = 2 ∧ m1.2.1 273 12 = (w3V 110 111 116)) with hp | hp
              · have hF := hF.1 hp
                refine go_callV mX12_isWord dX12_beginOne_142 lm_X12_206 okX12_isWord isX12_isWord sh_273 rfl (As := [.long (w3V 110 111 116)]) (S := []) rfl rfl (Nat.le_of_ble_eq_true rfl) (eX12_isWord G _ (w3V 110 111 116) m1 (fun r m' => r = 1 ∧ m1 = m') ⟨fun _ => ⟨rfl, rfl⟩, fun q => absurd hp q⟩) (k_i (fun r m' hr => ?_))
                obtain ⟨hr1, hr2⟩ := hr
                subst hr1
                subst hr2
                refine go_if_eq 164 dX12_beginOne_145 rfl ⟨fun hc => absurd hc (by decide), fun _ => ?_⟩
                refine go_aload_n dX12_beginOne_148 rfl ?_
                refine go_callV mX12_isAskAhead dX12_beginOne_149 lm_X12_210 okX12_isAskAhead isX12_isAskAhead sh_273 rfl (As := []) (S := []) rfl rfl (Nat.le_of_ble_eq_true rfl) hF (k_i (fun r20 m19 hF => ?_))
                refine go_if_eq 164 dX12_beginOne_152 rfl ⟨fun hc => ?_, fun hc => ?_⟩
                · have hF := hF.1 hc
                  refine go_iconst (v := 1) dX12_beginOne_164 (by decide) ?_
                  exact go_iret (S := []) dX12_beginOne_165 rfl ⟨_, rfl, hF⟩
                · have hF := hF.2 hc
                  refine go_aload_n dX12_beginOne_155 rfl ?_
                  refine go_bipush (v := 20) dX12_beginOne_156 (by decide) ?_
                  refine go_callV mX12_opened dX12_beginOne_158 lm_X12_203 okX12_opened isX12_opened sh_273 rfl (As := [.int 20]) (S := []) rfl rfl (Nat.le_of_ble_eq_true rfl) hF (k_i (fun r22 m21 hF => ?_))
                  refine go_goto 165 dX12_beginOne_161 rfl ?_
                  exact go_iret (S := []) dX12_beginOne_165 rfl ⟨_, rfl, hF⟩
              · have hF := hF.2 hp
                refine go_callV mX12_isWord dX12_beginOne_142 lm_X12_206 okX12_isWord isX12_isWord sh_273 rfl (As := [.long (w3V 110 111 116)]) (S := []) rfl rfl (Nat.le_of_ble_eq_true rfl) (eX12_isWord G _ (w3V 110 111 116) m1 (fun r m' => r = 0 ∧ m1 = m') ⟨fun q => absurd q hp, fun _ => ⟨rfl, rfl⟩⟩) (k_i (fun r m' hr => ?_))
                obtain ⟨hr1, hr2⟩ := hr
                subst hr1
                subst hr2
                refine go_if_eq 164 dX12_beginOne_145 rfl ⟨fun _ => ?_, fun hc => absurd hc (by decide)⟩
                refine go_iconst (v := 1) dX12_beginOne_164 (by decide) ?_
                exact go_iret (S := []) dX12_beginOne_165 rfl ⟨_, rfl, hF⟩
            · have hF := hF.2 hc
              refine go_aload_n dX12_beginOne_126 rfl ?_
              refine go_iconst (v := 2) dX12_beginOne_127 (by decide) ?_
              refine go_callV mX12_opened dX12_beginOne_128 lm_X12_203 okX12_opened isX12_opened sh_273 rfl (As := [.int 2]) (S := []) rfl rfl (Nat.le_of_ble_eq_true rfl) hF (k_i (fun r24 m23 hF => ?_))
              exact go_iret (S := []) dX12_beginOne_131 rfl ⟨_, rfl, hF⟩
          · have hF := hF.2 hc
            refine go_aload_n dX12_beginOne_110 rfl ?_
            refine go_bipush (v := 40) dX12_beginOne_111 (by decide) ?_
            refine go_callV mX12_opened dX12_beginOne_113 lm_X12_203 okX12_opened isX12_opened sh_273 rfl (As := [.int 40]) (S := []) rfl rfl (Nat.le_of_ble_eq_true rfl) hF (k_i (fun r26 m25 hF => ?_))
            exact go_iret (S := []) dX12_beginOne_116 rfl ⟨_, rfl, hF⟩
        · have hF := hF.2 hc
          refine go_aload_n dX12_beginOne_51 rfl ?_
          refine go_aload_n dX12_beginOne_52 rfl ?_
          refine go_getI (k := 10) dX12_beginOne_53 sh_273 rfl inX12 (Nat.le_of_ble_eq_true rfl) lf_X12_113 rfl ?_
          refine go_iconst (v := 1) dX12_beginOne_56 (by decide) ?_
          refine go_icmp_ne 64 dX12_beginOne_57 rfl ⟨fun hc => ?_, fun hc => ?_⟩
          · have hF := hF.1 hc
            refine go_iconst (v := 1) dX12_beginOne_64 (by decide) ?_
            refine go_aload_n dX12_beginOne_65 rfl ?_
            refine go_getI (k := 10) dX12_beginOne_66 sh_273 rfl inX12 (Nat.le_of_ble_eq_true rfl) lf_X12_113 rfl ?_
            refine go_iconst (v := 1) dX12_beginOne_69 (by decide) ?_
            refine go_icmp_ne 80 dX12_beginOne_70 rfl ⟨fun hc => ?_, fun hc => ?_⟩
            · have hF := hF.1 hc
              refine go_iload_n dX12_beginOne_80 rfl ?_
              refine go_callV mX12_emit dX12_beginOne_81 lm_X12_177 okX12_emit isX12_emit sh_273 rfl (As := [.int 1, .int r2]) (S := []) rfl rfl (Nat.le_of_ble_eq_true rfl) hF (k_v (fun m27 hF => ?_))
              refine go_aload_n dX12_beginOne_84 rfl ?_
              refine go_callV mX12_nextToken dX12_beginOne_85 lm_X12_187 okX12_nextToken isX12_nextToken sh_273 rfl (As := []) (S := []) rfl rfl (Nat.le_of_ble_eq_true rfl) hF (k_v (fun m28 hF => ?_))
              refine go_aload_n dX12_beginOne_88 rfl ?_
              refine go_iconst (v := 1) dX12_beginOne_89 (by decide) ?_
              refine go_putZ (k := 19) dX12_beginOne_90 sh_273 rfl inX12 (Nat.le_of_ble_eq_true rfl) lf_X12_196 tyX12 tyX12_ok nmX12 rfl rfl (by decide +kernel) (by decide) ?_
              obtain ⟨m29, em29⟩ : ∃ z : Mem, z = wI m28 273 19 1 := ⟨_, rfl⟩
              rw [← em29]
              have hF := hF m29 em29
              refine go_aload_n dX12_beginOne_93 rfl ?_
              refine go_bipush (v := 8) dX12_beginOne_94 (by decide) ?_
              refine go_callV mX12_settle dX12_beginOne_96 lm_X12_200 okX12_settle isX12_settle sh_273 rfl (As := [.int 8]) (S := []) rfl rfl (Nat.le_of_ble_eq_true rfl) hF (k_v (fun m30 hF => ?_))
              refine go_iconst (v := 0) dX12_beginOne_99 (by decide) ?_
              exact go_iret (S := []) dX12_beginOne_100 rfl ⟨_, rfl, hF⟩
            · have hF := hF.2 hc
              refine go_aload_n dX12_beginOne_73 rfl ?_
              refine go_getI (k := 11) dX12_beginOne_74 sh_273 rfl inX12 (Nat.le_of_ble_eq_true rfl) lf_X12_119 rfl ?_
              refine go_goto 81 dX12_beginOne_77 rfl ?_
              refine go_callV mX12_emit dX12_beginOne_81 lm_X12_177 okX12_emit isX12_emit sh_273 rfl (As := [.int 1, .int (m1.1 273 11)]) (S := []) rfl rfl (Nat.le_of_ble_eq_true rfl) hF (k_v (fun m31 hF => ?_))
              refine go_aload_n dX12_beginOne_84 rfl ?_
              refine go_callV mX12_nextToken dX12_beginOne_85 lm_X12_187 okX12_nextToken isX12_nextToken sh_273 rfl (As := []) (S := []) rfl rfl (Nat.le_of_ble_eq_true rfl) hF (k_v (fun m32 hF => ?_))
              refine go_aload_n dX12_beginOne_88 rfl ?_
              refine go_iconst (v := 1) dX12_beginOne_89 (by decide) ?_
              refine go_putZ (k := 19) dX12_beginOne_90 sh_273 rfl inX12 (Nat.le_of_ble_eq_true rfl) lf_X12_196 tyX12 tyX12_ok nmX12 rfl rfl (by decide +kernel) (by decide) ?_
              obtain ⟨m33, em33⟩ : ∃ z : Mem, z = wI m32 273 19 1 := ⟨_, rfl⟩
              rw [← em33]
              have hF := hF m33 em33
              refine go_aload_n dX12_beginOne_93 rfl ?_
              refine go_bipush (v := 8) dX12_beginOne_94 (by decide) ?_
              refine go_callV mX12_settle dX12_beginOne_96 lm_X12_200 okX12_settle isX12_settle sh_273 rfl (As := [.int 8]) (S := []) rfl rfl (Nat.le_of_ble_eq_true rfl) hF (k_v (fun m34 hF => ?_))
              refine go_iconst (v := 0) dX12_beginOne_99 (by decide) ?_
              exact go_iret (S := []) dX12_beginOne_100 rfl ⟨_, rfl, hF⟩
          · have hF := hF.2 hc
            refine go_iconst (v := 0) dX12_beginOne_60 (by decide) ?_
            refine go_goto 65 dX12_beginOne_61 rfl ?_
            refine go_aload_n dX12_beginOne_65 rfl ?_
            refine go_getI (k := 10) dX12_beginOne_66 sh_273 rfl inX12 (Nat.le_of_ble_eq_true rfl) lf_X12_113 rfl ?_
            refine go_iconst (v := 1) dX12_beginOne_69 (by decide) ?_
            refine go_icmp_ne 80 dX12_beginOne_70 rfl ⟨fun hc => ?_, fun hc => ?_⟩
            · have hF := hF.1 hc
              refine go_iload_n dX12_beginOne_80 rfl ?_
              refine go_callV mX12_emit dX12_beginOne_81 lm_X12_177 okX12_emit isX12_emit sh_273 rfl (As := [.int 0, .int r2]) (S := []) rfl rfl (Nat.le_of_ble_eq_true rfl) hF (k_v (fun m35 hF => ?_))
              refine go_aload_n dX12_beginOne_84 rfl ?_
              refine go_callV mX12_nextToken dX12_beginOne_85 lm_X12_187 okX12_nextToken isX12_nextToken sh_273 rfl (As := []) (S := []) rfl rfl (Nat.le_of_ble_eq_true rfl) hF (k_v (fun m36 hF => ?_))
              refine go_aload_n dX12_beginOne_88 rfl ?_
              refine go_iconst (v := 1) dX12_beginOne_89 (by decide) ?_
              refine go_putZ (k := 19) dX12_beginOne_90 sh_273 rfl inX12 (Nat.le_of_ble_eq_true rfl) lf_X12_196 tyX12 tyX12_ok nmX12 rfl rfl (by decide +kernel) (by decide) ?_
              obtain ⟨m37, em37⟩ : ∃ z : Mem, z = wI m36 273 19 1 := ⟨_, rfl⟩
              rw [← em37]
              have hF := hF m37 em37
              refine go_aload_n dX12_beginOne_93 rfl ?_
              refine go_bipush (v := 8) dX12_beginOne_94 (by decide) ?_
              refine go_callV mX12_settle dX12_beginOne_96 lm_X12_200 okX12_settle isX12_settle sh_273 rfl (As := [.int 8]) (S := []) rfl rfl (Nat.le_of_ble_eq_true rfl) hF (k_v (fun m38 hF => ?_))
              refine go_iconst (v := 0) dX12_beginOne_99 (by decide) ?_
              exact go_iret (S := []) dX12_beginOne_100 rfl ⟨_, rfl, hF⟩
            · have hF := hF.2 hc
              refine go_aload_n dX12_beginOne_73 rfl ?_
              refine go_getI (k := 11) dX12_beginOne_74 sh_273 rfl inX12 (Nat.le_of_ble_eq_true rfl) lf_X12_119 rfl ?_
              refine go_goto 81 dX12_beginOne_77 rfl ?_
              refine go_callV mX12_emit dX12_beginOne_81 lm_X12_177 okX12_emit isX12_emit sh_273 rfl (As := [.int 0, .int (m1.1 273 11)]) (S := []) rfl rfl (Nat.le_of_ble_eq_true rfl) hF (k_v (fun m39 hF => ?_))
              refine go_aload_n dX12_beginOne_84 rfl ?_
              refine go_callV mX12_nextToken dX12_beginOne_85 lm_X12_187 okX12_nextToken isX12_nextToken sh_273 rfl (As := []) (S := []) rfl rfl (Nat.le_of_ble_eq_true rfl) hF (k_v (fun m40 hF => ?_))
              refine go_aload_n dX12_beginOne_88 rfl ?_
              refine go_iconst (v := 1) dX12_beginOne_89 (by decide) ?_
              refine go_putZ (k := 19) dX12_beginOne_90 sh_273 rfl inX12 (Nat.le_of_ble_eq_true rfl) lf_X12_196 tyX12 tyX12_ok nmX12 rfl rfl (by decide +kernel) (by decide) ?_
              obtain ⟨m41, em41⟩ : ∃ z : Mem, z = wI m40 273 19 1 := ⟨_, rfl⟩
              rw [← em41]
              have hF := hF m41 em41
              refine go_aload_n dX12_beginOne_93 rfl ?_
              refine go_bipush (v := 8) dX12_beginOne_94 (by decide) ?_
              refine go_callV mX12_settle dX12_beginOne_96 lm_X12_200 okX12_settle isX12_settle sh_273 rfl (As := [.int 8]) (S := []) rfl rfl (Nat.le_of_ble_eq_true rfl) hF (k_v (fun m42 hF => ?_))
              refine go_iconst (v := 0) dX12_beginOne_99 (by decide) ?_
              exact go_iret (S := []) dX12_beginOne_100 rfl ⟨_, rfl, hF⟩
    · have hF := hF.2 hc
      refine go_aload_n dX12_beginOne_29 rfl ?_
      refine go_iload_n dX12_beginOne_30 rfl ?_
      refine go_callV mX12_isOf dX12_beginOne_31 lm_X12_193 okX12_isOf isX12_isOf sh_273 rfl (As := [.int r2]) (S := []) rfl rfl (Nat.le_of_ble_eq_true rfl) hF (k_i (fun r44 m43 hF => ?_))
      refine go_if_ne 39 dX12_beginOne_34 rfl ⟨fun hc => ?_, fun hc => ?_⟩
      · have hF := hF.1 hc
        refine go_aload_n dX12_beginOne_39 rfl ?_
        refine go_getI (k := 10) dX12_beginOne_40 sh_273 rfl inX12 (Nat.le_of_ble_eq_true rfl) lf_X12_113 rfl ?_
        refine go_iconst (v := 1) dX12_beginOne_43 (by decide) ?_
        refine go_icmp_eq 51 dX12_beginOne_44 rfl ⟨fun hc => ?_, fun hc => ?_⟩
        · have hF := hF.1 hc
          refine go_aload_n dX12_beginOne_51 rfl ?_
          refine go_aload_n dX12_beginOne_52 rfl ?_
          refine go_getI (k := 10) dX12_beginOne_53 sh_273 rfl inX12 (Nat.le_of_ble_eq_true rfl) lf_X12_113 rfl ?_
          refine go_iconst (v := 1) dX12_beginOne_56 (by decide) ?_
          refine go_icmp_ne 64 dX12_beginOne_57 rfl ⟨fun hc => ?_, fun hc => ?_⟩
          · have hF := hF.1 hc
            refine go_iconst (v := 1) dX12_beginOne_64 (by decide) ?_
            refine go_aload_n dX12_beginOne_65 rfl ?_
            refine go_getI (k := 10) dX12_beginOne_66 sh_273 rfl inX12 (Nat.le_of_ble_eq_true rfl) lf_X12_113 rfl ?_
            refine go_iconst (v := 1) dX12_beginOne_69 (by decide) ?_
            refine go_icmp_ne 80 dX12_beginOne_70 rfl ⟨fun hc => ?_, fun hc => ?_⟩
            · have hF := hF.1 hc
              refine go_iload_n dX12_beginOne_80 rfl ?_
              refine go_callV mX12_emit dX12_beginOne_81 lm_X12_177 okX12_emit isX12_emit sh_273 rfl (As := [.int 1, .int r2]) (S := []) rfl rfl (Nat.le_of_ble_eq_true rfl) hF (k_v (fun m45 hF => ?_))
              refine go_aload_n dX12_beginOne_84 rfl ?_
              refine go_callV mX12_nextToken dX12_beginOne_85 lm_X12_187 okX12_nextToken isX12_nextToken sh_273 rfl (As := []) (S := []) rfl rfl (Nat.le_of_ble_eq_true rfl) hF (k_v (fun m46 hF => ?_))
              refine go_aload_n dX12_beginOne_88 rfl ?_
              refine go_iconst (v := 1) dX12_beginOne_89 (by decide) ?_
              refine go_putZ (k := 19) dX12_beginOne_90 sh_273 rfl inX12 (Nat.le_of_ble_eq_true rfl) lf_X12_196 tyX12 tyX12_ok nmX12 rfl rfl (by decide +kernel) (by decide) ?_
              obtain ⟨m47, em47⟩ : ∃ z : Mem, z = wI m46 273 19 1 := ⟨_, rfl⟩
              rw [← em47]
              have hF := hF m47 em47
              refine go_aload_n dX12_beginOne_93 rfl ?_
              refine go_bipush (v := 8) dX12_beginOne_94 (by decide) ?_
              refine go_callV mX12_settle dX12_beginOne_96 lm_X12_200 okX12_settle isX12_settle sh_273 rfl (As := [.int 8]) (S := []) rfl rfl (Nat.le_of_ble_eq_true rfl) hF (k_v (fun m48 hF => ?_))
              refine go_iconst (v := 0) dX12_beginOne_99 (by decide) ?_
              exact go_iret (S := []) dX12_beginOne_100 rfl ⟨_, rfl, hF⟩
            · have hF := hF.2 hc
              refine go_aload_n dX12_beginOne_73 rfl ?_
              refine go_getI (k := 11) dX12_beginOne_74 sh_273 rfl inX12 (Nat.le_of_ble_eq_true rfl) lf_X12_119 rfl ?_
              refine go_goto 81 dX12_beginOne_77 rfl ?_
              refine go_callV mX12_emit dX12_beginOne_81 lm_X12_177 okX12_emit isX12_emit sh_273 rfl (As := [.int 1, .int (m43.1 273 11)]) (S := []) rfl rfl (Nat.le_of_ble_eq_true rfl) hF (k_v (fun m49 hF => ?_))
              refine go_aload_n dX12_beginOne_84 rfl ?_
              refine go_callV mX12_nextToken dX12_beginOne_85 lm_X12_187 okX12_nextToken isX12_nextToken sh_273 rfl (As := []) (S := []) rfl rfl (Nat.le_of_ble_eq_true rfl) hF (k_v (fun m50 hF => ?_))
              refine go_aload_n dX12_beginOne_88 rfl ?_
              refine go_iconst (v := 1) dX12_beginOne_89 (by decide) ?_
              refine go_putZ (k := 19) dX12_beginOne_90 sh_273 rfl inX12 (Nat.le_of_ble_eq_true rfl) lf_X12_196 tyX12 tyX12_ok nmX12 rfl rfl (by decide +kernel) (by decide) ?_
              obtain ⟨m51, em51⟩ : ∃ z : Mem, z = wI m50 273 19 1 := ⟨_, rfl⟩
              rw [← em51]
              have hF := hF m51 em51
              refine go_aload_n dX12_beginOne_93 rfl ?_
              refine go_bipush (v := 8) dX12_beginOne_94 (by decide) ?_
              refine go_callV mX12_settle dX12_beginOne_96 lm_X12_200 okX12_settle isX12_settle sh_273 rfl (As := [.int 8]) (S := []) rfl rfl (Nat.le_of_ble_eq_true rfl) hF (k_v (fun m52 hF => ?_))
              refine go_iconst (v := 0) dX12_beginOne_99 (by decide) ?_
              exact go_iret (S := []) dX12_beginOne_100 rfl ⟨_, rfl, hF⟩
          · have hF := hF.2 hc
            refine go_iconst (v := 0) dX12_beginOne_60 (by decide) ?_
            refine go_goto 65 dX12_beginOne_61 rfl ?_
            refine go_aload_n dX12_beginOne_65 rfl ?_
            refine go_getI (k := 10) dX12_beginOne_66 sh_273 rfl inX12 (Nat.le_of_ble_eq_true rfl) lf_X12_113 rfl ?_
            refine go_iconst (v := 1) dX12_beginOne_69 (by decide) ?_
            refine go_icmp_ne 80 dX12_beginOne_70 rfl ⟨fun hc => ?_, fun hc => ?_⟩
            · have hF := hF.1 hc
              refine go_iload_n dX12_beginOne_80 rfl ?_
              refine go_callV mX12_emit dX12_beginOne_81 lm_X12_177 okX12_emit isX12_emit sh_273 rfl (As := [.int 0, .int r2]) (S := []) rfl rfl (Nat.le_of_ble_eq_true rfl) hF (k_v (fun m53 hF => ?_))
              refine go_aload_n dX12_beginOne_84 rfl ?_
              refine go_callV mX12_nextToken dX12_beginOne_85 lm_X12_187 okX12_nextToken isX12_nextToken sh_273 rfl (As := []) (S := []) rfl rfl (Nat.le_of_ble_eq_true rfl) hF (k_v (fun m54 hF => ?_))
              refine go_aload_n dX12_beginOne_88 rfl ?_
              refine go_iconst (v := 1) dX12_beginOne_89 (by decide) ?_
              refine go_putZ (k := 19) dX12_beginOne_90 sh_273 rfl inX12 (Nat.le_of_ble_eq_true rfl) lf_X12_196 tyX12 tyX12_ok nmX12 rfl rfl (by decide +kernel) (by decide) ?_
              obtain ⟨m55, em55⟩ : ∃ z : Mem, z = wI m54 273 19 1 := ⟨_, rfl⟩
              rw [← em55]
              have hF := hF m55 em55
              refine go_aload_n dX12_beginOne_93 rfl ?_
              refine go_bipush (v := 8) dX12_beginOne_94 (by decide) ?_
              refine go_callV mX12_settle dX12_beginOne_96 lm_X12_200 okX12_settle isX12_settle sh_273 rfl (As := [.int 8]) (S := []) rfl rfl (Nat.le_of_ble_eq_true rfl) hF (k_v (fun m56 hF => ?_))
              refine go_iconst (v := 0) dX12_beginOne_99 (by decide) ?_
              exact go_iret (S := []) dX12_beginOne_100 rfl ⟨_, rfl, hF⟩
            · have hF := hF.2 hc
              refine go_aload_n dX12_beginOne_73 rfl ?_
              refine go_getI (k := 11) dX12_beginOne_74 sh_273 rfl inX12 (Nat.le_of_ble_eq_true rfl) lf_X12_119 rfl ?_
              refine go_goto 81 dX12_beginOne_77 rfl ?_
              refine go_callV mX12_emit dX12_beginOne_81 lm_X12_177 okX12_emit isX12_emit sh_273 rfl (As := [.int 0, .int (m43.1 273 11)]) (S := []) rfl rfl (Nat.le_of_ble_eq_true rfl) hF (k_v (fun m57 hF => ?_))
              refine go_aload_n dX12_beginOne_84 rfl ?_
              refine go_callV mX12_nextToken dX12_beginOne_85 lm_X12_187 okX12_nextToken isX12_nextToken sh_273 rfl (As := []) (S := []) rfl rfl (Nat.le_of_ble_eq_true rfl) hF (k_v (fun m58 hF => ?_))
              refine go_aload_n dX12_beginOne_88 rfl ?_
              refine go_iconst (v := 1) dX12_beginOne_89 (by decide) ?_
              refine go_putZ (k := 19) dX12_beginOne_90 sh_273 rfl inX12 (Nat.le_of_ble_eq_true rfl) lf_X12_196 tyX12 tyX12_ok nmX12 rfl rfl (by decide +kernel) (by decide) ?_
              obtain ⟨m59, em59⟩ : ∃ z : Mem, z = wI m58 273 19 1 := ⟨_, rfl⟩
              rw [← em59]
              have hF := hF m59 em59
              refine go_aload_n dX12_beginOne_93 rfl ?_
              refine go_bipush (v := 8) dX12_beginOne_94 (by decide) ?_
              refine go_callV mX12_settle dX12_beginOne_96 lm_X12_200 okX12_settle isX12_settle sh_273 rfl (As := [.int 8]) (S := []) rfl rfl (Nat.le_of_ble_eq_true rfl) hF (k_v (fun m60 hF => ?_))
              refine go_iconst (v := 0) dX12_beginOne_99 (by decide) ?_
              exact go_iret (S := []) dX12_beginOne_100 rfl ⟨_, rfl, hF⟩
        · have hF := hF.2 hc
          refine go_iload_n dX12_beginOne_47 rfl ?_
          refine go_if_lt 101 dX12_beginOne_48 rfl ⟨fun hc => ?_, fun hc => ?_⟩
          · have hF := hF.1 hc
            refine go_aload_n dX12_beginOne_101 rfl ?_
            refine go_getI (k := 10) dX12_beginOne_102 sh_273 rfl inX12 (Nat.le_of_ble_eq_true rfl) lf_X12_113 rfl ?_
            refine go_bipush (v := 40) dX12_beginOne_105 (by decide) ?_
            refine go_icmp_ne 117 dX12_beginOne_107 rfl ⟨fun hc => ?_, fun hc => ?_⟩
            · have hF := hF.1 hc
              refine go_aload_n dX12_beginOne_117 rfl ?_
              refine go_getI (k := 10) dX12_beginOne_118 sh_273 rfl inX12 (Nat.le_of_ble_eq_true rfl) lf_X12_113 rfl ?_
              refine go_bipush (v := 45) dX12_beginOne_121 (by decide) ?_
              refine go_icmp_ne 132 dX12_beginOne_123 rfl ⟨fun hc => ?_, fun hc => ?_⟩
              · have hF := hF.1 hc
                refine go_aload_n dX12_beginOne_132 rfl ?_
                refine go_bipush (v := 110) dX12_beginOne_133 (by decide) ?_
                refine go_bipush (v := 111) dX12_beginOne_135 (by decide) ?_
                refine go_bipush (v := 116) dX12_beginOne_137 (by decide) ?_
                refine go_callS mX12_w3 dX12_beginOne_139 lm_X12_139 okX12_w3 isX12_w3 (As := [.int 110, .int 111, .int 116]) (S := [.ref (ga G 273)]) rfl rfl (Nat.le_of_ble_eq_true rfl) (eX12_w3 G _ 110 111 116 m43 (fun r m' => r = w3V 110 111 116 ∧ m43 = m') ⟨rfl, rfl⟩) (k_l (fun r m' hr => ?_))
                obtain ⟨hr1, hr2⟩ := hr
                subst hr1
                subst hr2
                rcases Classical.em (m43.1 273 10 = 2 ∧ m43.2.1 273 12 = (w3V 110 111 116)) with hp | hp
                · have hF := hF.1 hp
                  refine go_callV mX12_isWord dX12_beginOne_142 lm_X12_206 okX12_isWord isX12_isWord sh_273 rfl (As := [.long (w3V 110 111 116)]) (S := []) rfl rfl (Nat.le_of_ble_eq_true rfl) (eX12_isWord G _ (w3V 110 111 116) m43 (fun r m' => r = 1 ∧ m43 = m') ⟨fun _ => ⟨rfl, rfl⟩, fun q => absurd hp q⟩) (k_i (fun r m' hr => ?_))
                  obtain ⟨hr1, hr2⟩ := hr
                  subst hr1
                  subst hr2
                  refine go_if_eq 164 dX12_beginOne_145 rfl ⟨fun hc => absurd hc (by decide), fun _ => ?_⟩
                  refine go_aload_n dX12_beginOne_148 rfl ?_
                  refine go_callV mX12_isAskAhead dX12_beginOne_149 lm_X12_210 okX12_isAskAhead isX12_isAskAhead sh_273 rfl (As := []) (S := []) rfl rfl (Nat.le_of_ble_eq_true rfl) hF (k_i (fun r62 m61 hF => ?_))
                  refine go_if_eq 164 dX12_beginOne_152 rfl ⟨fun hc => ?_, fun hc => ?_⟩
                  · have hF := hF.1 hc
                    refine go_iconst (v := 1) dX12_beginOne_164 (by decide) ?_
                    exact go_iret (S := []) dX12_beginOne_165 rfl ⟨_, rfl, hF⟩
                  · have hF := hF.2 hc
                    refine go_aload_n dX12_beginOne_155 rfl ?_
                    refine go_bipush (v := 20) dX12_beginOne_156 (by decide) ?_
                    refine go_callV mX12_opened dX12_beginOne_158 lm_X12_203 okX12_opened isX12_opened sh_273 rfl (As := [.int 20]) (S := []) rfl rfl (Nat.le_of_ble_eq_true rfl) hF (k_i (fun r64 m63 hF => ?_))
                    refine go_goto 165 dX12_beginOne_161 rfl ?_
                    exact go_iret (S := []) dX12_beginOne_165 rfl ⟨_, rfl, hF⟩
                · have hF := hF.2 hp
                  refine go_callV mX12_isWord dX12_beginOne_142 lm_X12_206 okX12_isWord isX12_isWord sh_273 rfl (As := [.long (w3V 110 111 116)]) (S := []) rfl rfl (Nat.le_of_ble_eq_true rfl) (eX12_isWord G _ (w3V 110 111 116) m43 (fun r m' => r = 0 ∧ m43 = m') ⟨fun q => absurd q hp, fun _ => ⟨rfl, rfl⟩⟩) (k_i (fun r m' hr => ?_))
                  obtain ⟨hr1, hr2⟩ := hr
                  subst hr1
                  subst hr2
                  refine go_if_eq 164 dX12_beginOne_145 rfl ⟨fun _ => ?_, fun hc => absurd hc (by decide)⟩
                  refine go_iconst (v := 1) dX12_beginOne_164 (by decide) ?_
                  exact go_iret (S := []) dX12_beginOne_165 rfl ⟨_, rfl, hF⟩
              · have hF := hF.2 hc
                refine go_aload_n dX12_beginOne_126 rfl ?_
                refine go_iconst (v := 2) dX12_beginOne_127 (by decide) ?_
                refine go_callV mX12_opened dX12_beginOne_128 lm_X12_203 okX12_opened isX12_opened sh_273 rfl (As := [.int 2]) (S := []) rfl rfl (Nat.le_of_ble_eq_true rfl) hF (k_i (fun r66 m65 hF => ?_))
                exact go_iret (S := []) dX12_beginOne_131 rfl ⟨_, rfl, hF⟩
            · have hF := hF.2 hc
              refine go_aload_n dX12_beginOne_110 rfl ?_
              refine go_bipush (v := 40) dX12_beginOne_111 (by decide) ?_
              refine go_callV mX12_opened dX12_beginOne_113 lm_X12_203 okX12_opened isX12_opened sh_273 rfl (As := [.int 40]) (S := []) rfl rfl (Nat.le_of_ble_eq_true rfl) hF (k_i (fun r68 m67 hF => ?_))
              exact go_iret (S := []) dX12_beginOne_116 rfl ⟨_, rfl, hF⟩
          · have hF := hF.2 hc
            refine go_aload_n dX12_beginOne_51 rfl ?_
            refine go_aload_n dX12_beginOne_52 rfl ?_
            refine go_getI (k := 10) dX12_beginOne_53 sh_273 rfl inX12 (Nat.le_of_ble_eq_true rfl) lf_X12_113 rfl ?_
            refine go_iconst (v := 1) dX12_beginOne_56 (by decide) ?_
            refine go_icmp_ne 64 dX12_beginOne_57 rfl ⟨fun hc => ?_, fun hc => ?_⟩
            · have hF := hF.1 hc
              refine go_iconst (v := 1) dX12_beginOne_64 (by decide) ?_
              refine go_aload_n dX12_beginOne_65 rfl ?_
              refine go_getI (k := 10) dX12_beginOne_66 sh_273 rfl inX12 (Nat.le_of_ble_eq_true rfl) lf_X12_113 rfl ?_
              refine go_iconst (v := 1) dX12_beginOne_69 (by decide) ?_
              refine go_icmp_ne 80 dX12_beginOne_70 rfl ⟨fun hc => ?_, fun hc => ?_⟩
              · have hF := hF.1 hc
                refine go_iload_n dX12_beginOne_80 rfl ?_
                refine go_callV mX12_emit dX12_beginOne_81 lm_X12_177 okX12_emit isX12_emit sh_273 rfl (As := [.int 1, .int r2]) (S := []) rfl rfl (Nat.le_of_ble_eq_true rfl) hF (k_v (fun m69 hF => ?_))
                refine go_aload_n dX12_beginOne_84 rfl ?_
                refine go_callV mX12_nextToken dX12_beginOne_85 lm_X12_187 okX12_nextToken isX12_nextToken sh_273 rfl (As := []) (S := []) rfl rfl (Nat.le_of_ble_eq_true rfl) hF (k_v (fun m70 hF => ?_))
                refine go_aload_n dX12_beginOne_88 rfl ?_
                refine go_iconst (v := 1) dX12_beginOne_89 (by decide) ?_
                refine go_putZ (k := 19) dX12_beginOne_90 sh_273 rfl inX12 (Nat.le_of_ble_eq_true rfl) lf_X12_196 tyX12 tyX12_ok nmX12 rfl rfl (by decide +kernel) (by decide) ?_
                obtain ⟨m71, em71⟩ : ∃ z : Mem, z = wI m70 273 19 1 := ⟨_, rfl⟩
                rw [← em71]
                have hF := hF m71 em71
                refine go_aload_n dX12_beginOne_93 rfl ?_
                refine go_bipush (v := 8) dX12_beginOne_94 (by decide) ?_
                refine go_callV mX12_settle dX12_beginOne_96 lm_X12_200 okX12_settle isX12_settle sh_273 rfl (As := [.int 8]) (S := []) rfl rfl (Nat.le_of_ble_eq_true rfl) hF (k_v (fun m72 hF => ?_))
                refine go_iconst (v := 0) dX12_beginOne_99 (by decide) ?_
                exact go_iret (S := []) dX12_beginOne_100 rfl ⟨_, rfl, hF⟩
              · have hF := hF.2 hc
                refine go_aload_n dX12_beginOne_73 rfl ?_
                refine go_getI (k := 11) dX12_beginOne_74 sh_273 rfl inX12 (Nat.le_of_ble_eq_true rfl) lf_X12_119 rfl ?_
                refine go_goto 81 dX12_beginOne_77 rfl ?_
                refine go_callV mX12_emit dX12_beginOne_81 lm_X12_177 okX12_emit isX12_emit sh_273 rfl (As := [.int 1, .int (m43.1 273 11)]) (S := []) rfl rfl (Nat.le_of_ble_eq_true rfl) hF (k_v (fun m73 hF => ?_))
                refine go_aload_n dX12_beginOne_84 rfl ?_
                refine go_callV mX12_nextToken dX12_beginOne_85 lm_X12_187 okX12_nextToken isX12_nextToken sh_273 rfl (As := []) (S := []) rfl rfl (Nat.le_of_ble_eq_true rfl) hF (k_v (fun m74 hF => ?_))
                refine go_aload_n dX12_beginOne_88 rfl ?_
                refine go_iconst (v := 1) dX12_beginOne_89 (by decide) ?_
                refine go_putZ (k := 19) dX12_beginOne_90 sh_273 rfl inX12 (Nat.le_of_ble_eq_true rfl) lf_X12_196 tyX12 tyX12_ok nmX12 rfl rfl (by decide +kernel) (by decide) ?_
                obtain ⟨m75, em75⟩ : ∃ z : Mem, z = wI m74 273 19 1 := ⟨_, rfl⟩
                rw [← em75]
                have hF := hF m75 em75
                refine go_aload_n dX12_beginOne_93 rfl ?_
                refine go_bipush (v := 8) dX12_beginOne_94 (by decide) ?_
                refine go_callV mX12_settle dX12_beginOne_96 lm_X12_200 okX12_settle isX12_settle sh_273 rfl (As := [.int 8]) (S := []) rfl rfl (Nat.le_of_ble_eq_true rfl) hF (k_v (fun m76 hF => ?_))
                refine go_iconst (v := 0) dX12_beginOne_99 (by decide) ?_
                exact go_iret (S := []) dX12_beginOne_100 rfl ⟨_, rfl, hF⟩
            · have hF := hF.2 hc
              refine go_iconst (v := 0) dX12_beginOne_60 (by decide) ?_
              refine go_goto 65 dX12_beginOne_61 rfl ?_
              refine go_aload_n dX12_beginOne_65 rfl ?_
              refine go_getI (k := 10) dX12_beginOne_66 sh_273 rfl inX12 (Nat.le_of_ble_eq_true rfl) lf_X12_113 rfl ?_
              refine go_iconst (v := 1) dX12_beginOne_69 (by decide) ?_
              refine go_icmp_ne 80 dX12_beginOne_70 rfl ⟨fun hc => ?_, fun hc => ?_⟩
              · have hF := hF.1 hc
                refine go_iload_n dX12_beginOne_80 rfl ?_
                refine go_callV mX12_emit dX12_beginOne_81 lm_X12_177 okX12_emit isX12_emit sh_273 rfl (As := [.int 0, .int r2]) (S := []) rfl rfl (Nat.le_of_ble_eq_true rfl) hF (k_v (fun m77 hF => ?_))
                refine go_aload_n dX12_beginOne_84 rfl ?_
                refine go_callV mX12_nextToken dX12_beginOne_85 lm_X12_187 okX12_nextToken isX12_nextToken sh_273 rfl (As := []) (S := []) rfl rfl (Nat.le_of_ble_eq_true rfl) hF (k_v (fun m78 hF => ?_))
                refine go_aload_n dX12_beginOne_88 rfl ?_
                refine go_iconst (v := 1) dX12_beginOne_89 (by decide) ?_
                refine go_putZ (k := 19) dX12_beginOne_90 sh_273 rfl inX12 (Nat.le_of_ble_eq_true rfl) lf_X12_196 tyX12 tyX12_ok nmX12 rfl rfl (by decide +kernel) (by decide) ?_
                obtain ⟨m79, em79⟩ : ∃ z : Mem, z = wI m78 273 19 1 := ⟨_, rfl⟩
                rw [← em79]
                have hF := hF m79 em79
                refine go_aload_n dX12_beginOne_93 rfl ?_
                refine go_bipush (v := 8) dX12_beginOne_94 (by decide) ?_
                refine go_callV mX12_settle dX12_beginOne_96 lm_X12_200 okX12_settle isX12_settle sh_273 rfl (As := [.int 8]) (S := []) rfl rfl (Nat.le_of_ble_eq_true rfl) hF (k_v (fun m80 hF => ?_))
                refine go_iconst (v := 0) dX12_beginOne_99 (by decide) ?_
                exact go_iret (S := []) dX12_beginOne_100 rfl ⟨_, rfl, hF⟩
              · have hF := hF.2 hc
                refine go_aload_n dX12_beginOne_73 rfl ?_
                refine go_getI (k := 11) dX12_beginOne_74 sh_273 rfl inX12 (Nat.le_of_ble_eq_true rfl) lf_X12_119 rfl ?_
                refine go_goto 81 dX12_beginOne_77 rfl ?_
                refine go_callV mX12_emit dX12_beginOne_81 lm_X12_177 okX12_emit isX12_emit sh_273 rfl (As := [.int 0, .int (m43.1 273 11)]) (S := []) rfl rfl (Nat.le_of_ble_eq_true rfl) hF (k_v (fun m81 hF => ?_))
                refine go_aload_n dX12_beginOne_84 rfl ?_
                refine go_callV mX12_nextToken dX12_beginOne_85 lm_X12_187 okX12_nextToken isX12_nextToken sh_273 rfl (As := []) (S := []) rfl rfl (Nat.le_of_ble_eq_true rfl) hF (k_v (fun m82 hF => ?_))
                refine go_aload_n dX12_beginOne_88 rfl ?_
                refine go_iconst (v := 1) dX12_beginOne_89 (by decide) ?_
                refine go_putZ (k := 19) dX12_beginOne_90 sh_273 rfl inX12 (Nat.le_of_ble_eq_true rfl) lf_X12_196 tyX12 tyX12_ok nmX12 rfl rfl (by decide +kernel) (by decide) ?_
                obtain ⟨m83, em83⟩ : ∃ z : Mem, z = wI m82 273 19 1 := ⟨_, rfl⟩
                rw [← em83]
                have hF := hF m83 em83
                refine go_aload_n dX12_beginOne_93 rfl ?_
                refine go_bipush (v := 8) dX12_beginOne_94 (by decide) ?_
                refine go_callV mX12_settle dX12_beginOne_96 lm_X12_200 okX12_settle isX12_settle sh_273 rfl (As := [.int 8]) (S := []) rfl rfl (Nat.le_of_ble_eq_true rfl) hF (k_v (fun m84 hF => ?_))
                refine go_iconst (v := 0) dX12_beginOne_99 (by decide) ?_
                exact go_iret (S := []) dX12_beginOne_100 rfl ⟨_, rfl, hF⟩
      · have hF := hF.2 hc
        refine go_iconst (v := 5) dX12_beginOne_37 (by decide) ?_
        exact go_iret (S := []) dX12_beginOne_38 rfl ⟨_, rfl, hF⟩
  · have hF := hF.2 hc
    refine go_aload_n dX12_beginOne_8 rfl ?_
    refine go_getI (k := 11) dX12_beginOne_9 sh_273 rfl inX12 (Nat.le_of_ble_eq_true rfl) lf_X12_119 rfl ?_
    refine go_sipush (v := 9999) dX12_beginOne_12 (by decide) ?_
    refine go_icmp_le 20 dX12_beginOne_15 rfl ⟨fun hc => ?_, fun hc => ?_⟩
    · have hF := hF.1 hc
      refine go_aload_n dX12_beginOne_20 rfl ?_
      refine go_callV mX12_nameOf dX12_beginOne_21 lm_X12_190 okX12_nameOf isX12_nameOf sh_273 rfl (As := []) (S := []) rfl rfl (Nat.le_of_ble_eq_true rfl) hF (k_i (fun r86 m85 hF => ?_))
      refine go_istore_n (L' := [.ref (ga G 273), .int r86]) dX12_beginOne_24 (Nat.le_of_ble_eq_true rfl) rfl ?_
      refine go_iload_n dX12_beginOne_25 rfl ?_
      refine go_if_lt 39 dX12_beginOne_26 rfl ⟨fun hc => ?_, fun hc => ?_⟩
      · have hF := hF.1 hc
        refine go_aload_n dX12_beginOne_39 rfl ?_
        refine go_getI (k := 10) dX12_beginOne_40 sh_273 rfl inX12 (Nat.le_of_ble_eq_true rfl) lf_X12_113 rfl ?_
        refine go_iconst (v := 1) dX12_beginOne_43 (by decide) ?_
        refine go_icmp_eq 51 dX12_beginOne_44 rfl ⟨fun hc => ?_, fun hc => ?_⟩
        · have hF := hF.1 hc
          refine go_aload_n dX12_beginOne_51 rfl ?_
          refine go_aload_n dX12_beginOne_52 rfl ?_
          refine go_getI (k := 10) dX12_beginOne_53 sh_273 rfl inX12 (Nat.le_of_ble_eq_true rfl) lf_X12_113 rfl ?_
          refine go_iconst (v := 1) dX12_beginOne_56 (by decide) ?_
          refine go_icmp_ne 64 dX12_beginOne_57 rfl ⟨fun hc => ?_, fun hc => ?_⟩
          · have hF := hF.1 hc
            refine go_iconst (v := 1) dX12_beginOne_64 (by decide) ?_
            refine go_aload_n dX12_beginOne_65 rfl ?_
            refine go_getI (k := 10) dX12_beginOne_66 sh_273 rfl inX12 (Nat.le_of_ble_eq_true rfl) lf_X12_113 rfl ?_
            refine go_iconst (v := 1) dX12_beginOne_69 (by decide) ?_
            refine go_icmp_ne 80 dX12_beginOne_70 rfl ⟨fun hc => ?_, fun hc => ?_⟩
            · have hF := hF.1 hc
              refine go_iload_n dX12_beginOne_80 rfl ?_
              refine go_callV mX12_emit dX12_beginOne_81 lm_X12_177 okX12_emit isX12_emit sh_273 rfl (As := [.int 1, .int r86]) (S := []) rfl rfl (Nat.le_of_ble_eq_true rfl) hF (k_v (fun m87 hF => ?_))
              refine go_aload_n dX12_beginOne_84 rfl ?_
              refine go_callV mX12_nextToken dX12_beginOne_85 lm_X12_187 okX12_nextToken isX12_nextToken sh_273 rfl (As := []) (S := []) rfl rfl (Nat.le_of_ble_eq_true rfl) hF (k_v (fun m88 hF => ?_))
              refine go_aload_n dX12_beginOne_88 rfl ?_
              refine go_iconst (v := 1) dX12_beginOne_89 (by decide) ?_
              refine go_putZ (k := 19) dX12_beginOne_90 sh_273 rfl inX12 (Nat.le_of_ble_eq_true rfl) lf_X12_196 tyX12 tyX12_ok nmX12 rfl rfl (by decide +kernel) (by decide) ?_
              obtain ⟨m89, em89⟩ : ∃ z : Mem, z = wI m88 273 19 1 := ⟨_, rfl⟩
              rw [← em89]
              have hF := hF m89 em89
              refine go_aload_n dX12_beginOne_93 rfl ?_
              refine go_bipush (v := 8) dX12_beginOne_94 (by decide) ?_
              refine go_callV mX12_settle dX12_beginOne_96 lm_X12_200 okX12_settle isX12_settle sh_273 rfl (As := [.int 8]) (S := []) rfl rfl (Nat.le_of_ble_eq_true rfl) hF (k_v (fun m90 hF => ?_))
              refine go_iconst (v := 0) dX12_beginOne_99 (by decide) ?_
              exact go_iret (S := []) dX12_beginOne_100 rfl ⟨_, rfl, hF⟩
            · have hF := hF.2 hc
              refine go_aload_n dX12_beginOne_73 rfl ?_
              refine go_getI (k := 11) dX12_beginOne_74 sh_273 rfl inX12 (Nat.le_of_ble_eq_true rfl) lf_X12_119 rfl ?_
              refine go_goto 81 dX12_beginOne_77 rfl ?_
              refine go_callV mX12_emit dX12_beginOne_81 lm_X12_177 okX12_emit isX12_emit sh_273 rfl (As := [.int 1, .int (m85.1 273 11)]) (S := []) rfl rfl (Nat.le_of_ble_eq_true rfl) hF (k_v (fun m91 hF => ?_))
              refine go_aload_n dX12_beginOne_84 rfl ?_
              refine go_callV mX12_nextToken dX12_beginOne_85 lm_X12_187 okX12_nextToken isX12_nextToken sh_273 rfl (As := []) (S := []) rfl rfl (Nat.le_of_ble_eq_true rfl) hF (k_v (fun m92 hF => ?_))
              refine go_aload_n dX12_beginOne_88 rfl ?_
              refine go_iconst (v := 1) dX12_beginOne_89 (by decide) ?_
              refine go_putZ (k := 19) dX12_beginOne_90 sh_273 rfl inX12 (Nat.le_of_ble_eq_true rfl) lf_X12_196 tyX12 tyX12_ok nmX12 rfl rfl (by decide +kernel) (by decide) ?_
              obtain ⟨m93, em93⟩ : ∃ z : Mem, z = wI m92 273 19 1 := ⟨_, rfl⟩
              rw [← em93]
              have hF := hF m93 em93
              refine go_aload_n dX12_beginOne_93 rfl ?_
              refine go_bipush (v := 8) dX12_beginOne_94 (by decide) ?_
              refine go_callV mX12_settle dX12_beginOne_96 lm_X12_200 okX12_settle isX12_settle sh_273 rfl (As := [.int 8]) (S := []) rfl rfl (Nat.le_of_ble_eq_true rfl) hF (k_v (fun m94 hF => ?_))
              refine go_iconst (v := 0) dX12_beginOne_99 (by decide) ?_
              exact go_iret (S := []) dX12_beginOne_100 rfl ⟨_, rfl, hF⟩
          · have hF := hF.2 hc
            refine go_iconst (v := 0) dX12_beginOne_60 (by decide) ?_
            refine go_goto 65 dX12_beginOne_61 rfl ?_
            refine go_aload_n dX12_beginOne_65 rfl ?_
            refine go_getI (k := 10) dX12_beginOne_66 sh_273 rfl inX12 (Nat.le_of_ble_eq_true rfl) lf_X12_113 rfl ?_
            refine go_iconst (v := 1) dX12_beginOne_69 (by decide) ?_
            refine go_icmp_ne 80 dX12_beginOne_70 rfl ⟨fun hc => ?_, fun hc => ?_⟩
            · have hF := hF.1 hc
              refine go_iload_n dX12_beginOne_80 rfl ?_
              refine go_callV mX12_emit dX12_beginOne_81 lm_X12_177 okX12_emit isX12_emit sh_273 rfl (As := [.int 0, .int r86]) (S := []) rfl rfl (Nat.le_of_ble_eq_true rfl) hF (k_v (fun m95 hF => ?_))
              refine go_aload_n dX12_beginOne_84 rfl ?_
              refine go_callV mX12_nextToken dX12_beginOne_85 lm_X12_187 okX12_nextToken isX12_nextToken sh_273 rfl (As := []) (S := []) rfl rfl (Nat.le_of_ble_eq_true rfl) hF (k_v (fun m96 hF => ?_))
              refine go_aload_n dX12_beginOne_88 rfl ?_
              refine go_iconst (v := 1) dX12_beginOne_89 (by decide) ?_
              refine go_putZ (k := 19) dX12_beginOne_90 sh_273 rfl inX12 (Nat.le_of_ble_eq_true rfl) lf_X12_196 tyX12 tyX12_ok nmX12 rfl rfl (by decide +kernel) (by decide) ?_
              obtain ⟨m97, em97⟩ : ∃ z : Mem, z = wI m96 273 19 1 := ⟨_, rfl⟩
              rw [← em97]
              have hF := hF m97 em97
              refine go_aload_n dX12_beginOne_93 rfl ?_
              refine go_bipush (v := 8) dX12_beginOne_94 (by decide) ?_
              refine go_callV mX12_settle dX12_beginOne_96 lm_X12_200 okX12_settle isX12_settle sh_273 rfl (As := [.int 8]) (S := []) rfl rfl (Nat.le_of_ble_eq_true rfl) hF (k_v (fun m98 hF => ?_))
              refine go_iconst (v := 0) dX12_beginOne_99 (by decide) ?_
              exact go_iret (S := []) dX12_beginOne_100 rfl ⟨_, rfl, hF⟩
            · have hF := hF.2 hc
              refine go_aload_n dX12_beginOne_73 rfl ?_
              refine go_getI (k := 11) dX12_beginOne_74 sh_273 rfl inX12 (Nat.le_of_ble_eq_true rfl) lf_X12_119 rfl ?_
              refine go_goto 81 dX12_beginOne_77 rfl ?_
              refine go_callV mX12_emit dX12_beginOne_81 lm_X12_177 okX12_emit isX12_emit sh_273 rfl (As := [.int 0, .int (m85.1 273 11)]) (S := []) rfl rfl (Nat.le_of_ble_eq_true rfl) hF (k_v (fun m99 hF => ?_))
              refine go_aload_n dX12_beginOne_84 rfl ?_
              refine go_callV mX12_nextToken dX12_beginOne_85 lm_X12_187 okX12_nextToken isX12_nextToken sh_273 rfl (As := []) (S := []) rfl rfl (Nat.le_of_ble_eq_true rfl) hF (k_v (fun m100 hF => ?_))
              refine go_aload_n dX12_beginOne_88 rfl ?_
              refine go_iconst (v := 1) dX12_beginOne_89 (by decide) ?_
              refine go_putZ (k := 19) dX12_beginOne_90 sh_273 rfl inX12 (Nat.le_of_ble_eq_true rfl) lf_X12_196 tyX12 tyX12_ok nmX12 rfl rfl (by decide +kernel) (by decide) ?_
              obtain ⟨m101, em101⟩ : ∃ z : Mem, z = wI m100 273 19 1 := ⟨_, rfl⟩
              rw [← em101]
              have hF := hF m101 em101
              refine go_aload_n dX12_beginOne_93 rfl ?_
              refine go_bipush (v := 8) dX12_beginOne_94 (by decide) ?_
              refine go_callV mX12_settle dX12_beginOne_96 lm_X12_200 okX12_settle isX12_settle sh_273 rfl (As := [.int 8]) (S := []) rfl rfl (Nat.le_of_ble_eq_true rfl) hF (k_v (fun m102 hF => ?_))
              refine go_iconst (v := 0) dX12_beginOne_99 (by decide) ?_
              exact go_iret (S := []) dX12_beginOne_100 rfl ⟨_, rfl, hF⟩
        · have hF := hF.2 hc
          refine go_iload_n dX12_beginOne_47 rfl ?_
          refine go_if_lt 101 dX12_beginOne_48 rfl ⟨fun hc => ?_, fun hc => ?_⟩
          · have hF := hF.1 hc
            refine go_aload_n dX12_beginOne_101 rfl ?_
            refine go_getI (k := 10) dX12_beginOne_102 sh_273 rfl inX12 (Nat.le_of_ble_eq_true rfl) lf_X12_113 rfl ?_
            refine go_bipush (v := 40) dX12_beginOne_105 (by decide) ?_
            refine go_icmp_ne 117 dX12_beginOne_107 rfl ⟨fun hc => ?_, fun hc => ?_⟩
            · have hF := hF.1 hc
              refine go_aload_n dX12_beginOne_117 rfl ?_
              refine go_getI (k := 10) dX12_beginOne_118 sh_273 rfl inX12 (Nat.le_of_ble_eq_true rfl) lf_X12_113 rfl ?_
              refine go_bipush (v := 45) dX12_beginOne_121 (by decide) ?_
              refine go_icmp_ne 132 dX12_beginOne_123 rfl ⟨fun hc => ?_, fun hc => ?_⟩
              · have hF := hF.1 hc
                refine go_aload_n dX12_beginOne_132 rfl ?_
                refine go_bipush (v := 110) dX12_beginOne_133 (by decide) ?_
                refine go_bipush (v := 111) dX12_beginOne_135 (by decide) ?_
                refine go_bipush (v := 116) dX12_beginOne_137 (by decide) ?_
                refine go_callS mX12_w3 dX12_beginOne_139 lm_X12_139 okX12_w3 isX12_w3 (As := [.int 110, .int 111, .int 116]) (S := [.ref (ga G 273)]) rfl rfl (Nat.le_of_ble_eq_true rfl) (eX12_w3 G _ 110 111 116 m85 (fun r m' => r = w3V 110 111 116 ∧ m85 = m') ⟨rfl, rfl⟩) (k_l (fun r m' hr => ?_))
                obtain ⟨hr1, hr2⟩ := hr
                subst hr1
                subst hr2
                rcases Classical.em (m85.1 273 10 = 2 ∧ m85.2.1 273 12 = (w3V 110 111 116)) with hp | hp
                · have hF := hF.1 hp
                  refine go_callV mX12_isWord dX12_beginOne_142 lm_X12_206 okX12_isWord isX12_isWord sh_273 rfl (As := [.long (w3V 110 111 116)]) (S := []) rfl rfl (Nat.le_of_ble_eq_true rfl) (eX12_isWord G _ (w3V 110 111 116) m85 (fun r m' => r = 1 ∧ m85 = m') ⟨fun _ => ⟨rfl, rfl⟩, fun q => absurd hp q⟩) (k_i (fun r m' hr => ?_))
                  obtain ⟨hr1, hr2⟩ := hr
                  subst hr1
                  subst hr2
                  refine go_if_eq 164 dX12_beginOne_145 rfl ⟨fun hc => absurd hc (by decide), fun _ => ?_⟩
                  refine go_aload_n dX12_beginOne_148 rfl ?_
                  refine go_callV mX12_isAskAhead dX12_beginOne_149 lm_X12_210 okX12_isAskAhead isX12_isAskAhead sh_273 rfl (As := []) (S := []) rfl rfl (Nat.le_of_ble_eq_true rfl) hF (k_i (fun r104 m103 hF => ?_))
                  refine go_if_eq 164 dX12_beginOne_152 rfl ⟨fun hc => ?_, fun hc => ?_⟩
                  · have hF := hF.1 hc
                    refine go_iconst (v := 1) dX12_beginOne_164 (by decide) ?_
                    exact go_iret (S := []) dX12_beginOne_165 rfl ⟨_, rfl, hF⟩
                  · have hF := hF.2 hc
                    refine go_aload_n dX12_beginOne_155 rfl ?_
                    refine go_bipush (v := 20) dX12_beginOne_156 (by decide) ?_
                    refine go_callV mX12_opened dX12_beginOne_158 lm_X12_203 okX12_opened isX12_opened sh_273 rfl (As := [.int 20]) (S := []) rfl rfl (Nat.le_of_ble_eq_true rfl) hF (k_i (fun r106 m105 hF => ?_))
                    refine go_goto 165 dX12_beginOne_161 rfl ?_
                    exact go_iret (S := []) dX12_beginOne_165 rfl ⟨_, rfl, hF⟩
                · have hF := hF.2 hp
                  refine go_callV mX12_isWord dX12_beginOne_142 lm_X12_206 okX12_isWord isX12_isWord sh_273 rfl (As := [.long (w3V 110 111 116)]) (S := []) rfl rfl (Nat.le_of_ble_eq_true rfl) (eX12_isWord G _ (w3V 110 111 116) m85 (fun r m' => r = 0 ∧ m85 = m') ⟨fun q => absurd q hp, fun _ => ⟨rfl, rfl⟩⟩) (k_i (fun r m' hr => ?_))
                  obtain ⟨hr1, hr2⟩ := hr
                  subst hr1
                  subst hr2
                  refine go_if_eq 164 dX12_beginOne_145 rfl ⟨fun _ => ?_, fun hc => absurd hc (by decide)⟩
                  refine go_iconst (v := 1) dX12_beginOne_164 (by decide) ?_
                  exact go_iret (S := []) dX12_beginOne_165 rfl ⟨_, rfl, hF⟩
              · have hF := hF.2 hc
                refine go_aload_n dX12_beginOne_126 rfl ?_
                refine go_iconst (v := 2) dX12_beginOne_127 (by decide) ?_
                refine go_callV mX12_opened dX12_beginOne_128 lm_X12_203 okX12_opened isX12_opened sh_273 rfl (As := [.int 2]) (S := []) rfl rfl (Nat.le_of_ble_eq_true rfl) hF (k_i (fun r108 m107 hF => ?_))
                exact go_iret (S := []) dX12_beginOne_131 rfl ⟨_, rfl, hF⟩
            · have hF := hF.2 hc
              refine go_aload_n dX12_beginOne_110 rfl ?_
              refine go_bipush (v := 40) dX12_beginOne_111 (by decide) ?_
              refine go_callV mX12_opened dX12_beginOne_113 lm_X12_203 okX12_opened isX12_opened sh_273 rfl (As := [.int 40]) (S := []) rfl rfl (Nat.le_of_ble_eq_true rfl) hF (k_i (fun r110 m109 hF => ?_))
              exact go_iret (S := []) dX12_beginOne_116 rfl ⟨_, rfl, hF⟩
          · have hF := hF.2 hc
            refine go_aload_n dX12_beginOne_51 rfl ?_
            refine go_aload_n dX12_beginOne_52 rfl ?_
            refine go_getI (k := 10) dX12_beginOne_53 sh_273 rfl inX12 (Nat.le_of_ble_eq_true rfl) lf_X12_113 rfl ?_
            refine go_iconst (v := 1) dX12_beginOne_56 (by decide) ?_
            refine go_icmp_ne 64 dX12_beginOne_57 rfl ⟨fun hc => ?_, fun hc => ?_⟩
            · have hF := hF.1 hc
              refine go_iconst (v := 1) dX12_beginOne_64 (by decide) ?_
              refine go_aload_n dX12_beginOne_65 rfl ?_
              refine go_getI (k := 10) dX12_beginOne_66 sh_273 rfl inX12 (Nat.le_of_ble_eq_true rfl) lf_X12_113 rfl ?_
              refine go_iconst (v := 1) dX12_beginOne_69 (by decide) ?_
              refine go_icmp_ne 80 dX12_beginOne_70 rfl ⟨fun hc => ?_, fun hc => ?_⟩
              · have hF := hF.1 hc
                refine go_iload_n dX12_beginOne_80 rfl ?_
                refine go_callV mX12_emit dX12_beginOne_81 lm_X12_177 okX12_emit isX12_emit sh_273 rfl (As := [.int 1, .int r86]) (S := []) rfl rfl (Nat.le_of_ble_eq_true rfl) hF (k_v (fun m111 hF => ?_))
                refine go_aload_n dX12_beginOne_84 rfl ?_
                refine go_callV mX12_nextToken dX12_beginOne_85 lm_X12_187 okX12_nextToken isX12_nextToken sh_273 rfl (As := []) (S := []) rfl rfl (Nat.le_of_ble_eq_true rfl) hF (k_v (fun m112 hF => ?_))
                refine go_aload_n dX12_beginOne_88 rfl ?_
                refine go_iconst (v := 1) dX12_beginOne_89 (by decide) ?_
                refine go_putZ (k := 19) dX12_beginOne_90 sh_273 rfl inX12 (Nat.le_of_ble_eq_true rfl) lf_X12_196 tyX12 tyX12_ok nmX12 rfl rfl (by decide +kernel) (by decide) ?_
                obtain ⟨m113, em113⟩ : ∃ z : Mem, z = wI m112 273 19 1 := ⟨_, rfl⟩
                rw [← em113]
                have hF := hF m113 em113
                refine go_aload_n dX12_beginOne_93 rfl ?_
                refine go_bipush (v := 8) dX12_beginOne_94 (by decide) ?_
                refine go_callV mX12_settle dX12_beginOne_96 lm_X12_200 okX12_settle isX12_settle sh_273 rfl (As := [.int 8]) (S := []) rfl rfl (Nat.le_of_ble_eq_true rfl) hF (k_v (fun m114 hF => ?_))
                refine go_iconst (v := 0) dX12_beginOne_99 (by decide) ?_
                exact go_iret (S := []) dX12_beginOne_100 rfl ⟨_, rfl, hF⟩
              · have hF := hF.2 hc
                refine go_aload_n dX12_beginOne_73 rfl ?_
                refine go_getI (k := 11) dX12_beginOne_74 sh_273 rfl inX12 (Nat.le_of_ble_eq_true rfl) lf_X12_119 rfl ?_
                refine go_goto 81 dX12_beginOne_77 rfl ?_
                refine go_callV mX12_emit dX12_beginOne_81 lm_X12_177 okX12_emit isX12_emit sh_273 rfl (As := [.int 1, .int (m85.1 273 11)]) (S := []) rfl rfl (Nat.le_of_ble_eq_true rfl) hF (k_v (fun m115 hF => ?_))
                refine go_aload_n dX12_beginOne_84 rfl ?_
                refine go_callV mX12_nextToken dX12_beginOne_85 lm_X12_187 okX12_nextToken isX12_nextToken sh_273 rfl (As := []) (S := []) rfl rfl (Nat.le_of_ble_eq_true rfl) hF (k_v (fun m116 hF => ?_))
                refine go_aload_n dX12_beginOne_88 rfl ?_
                refine go_iconst (v := 1) dX12_beginOne_89 (by decide) ?_
                refine go_putZ (k := 19) dX12_beginOne_90 sh_273 rfl inX12 (Nat.le_of_ble_eq_true rfl) lf_X12_196 tyX12 tyX12_ok nmX12 rfl rfl (by decide +kernel) (by decide) ?_
                obtain ⟨m117, em117⟩ : ∃ z : Mem, z = wI m116 273 19 1 := ⟨_, rfl⟩
                rw [← em117]
                have hF := hF m117 em117
                refine go_aload_n dX12_beginOne_93 rfl ?_
                refine go_bipush (v := 8) dX12_beginOne_94 (by decide) ?_
                refine go_callV mX12_settle dX12_beginOne_96 lm_X12_200 okX12_settle isX12_settle sh_273 rfl (As := [.int 8]) (S := []) rfl rfl (Nat.le_of_ble_eq_true rfl) hF (k_v (fun m118 hF => ?_))
                refine go_iconst (v := 0) dX12_beginOne_99 (by decide) ?_
                exact go_iret (S := []) dX12_beginOne_100 rfl ⟨_, rfl, hF⟩
            · have hF := hF.2 hc
              refine go_iconst (v := 0) dX12_beginOne_60 (by decide) ?_
              refine go_goto 65 dX12_beginOne_61 rfl ?_
              refine go_aload_n dX12_beginOne_65 rfl ?_
              refine go_getI (k := 10) dX12_beginOne_66 sh_273 rfl inX12 (Nat.le_of_ble_eq_true rfl) lf_X12_113 rfl ?_
              refine go_iconst (v := 1) dX12_beginOne_69 (by decide) ?_
              refine go_icmp_ne 80 dX12_beginOne_70 rfl ⟨fun hc => ?_, fun hc => ?_⟩
              · have hF := hF.1 hc
                refine go_iload_n dX12_beginOne_80 rfl ?_
                refine go_callV mX12_emit dX12_beginOne_81 lm_X12_177 okX12_emit isX12_emit sh_273 rfl (As := [.int 0, .int r86]) (S := []) rfl rfl (Nat.le_of_ble_eq_true rfl) hF (k_v (fun m119 hF => ?_))
                refine go_aload_n dX12_beginOne_84 rfl ?_
                refine go_callV mX12_nextToken dX12_beginOne_85 lm_X12_187 okX12_nextToken isX12_nextToken sh_273 rfl (As := []) (S := []) rfl rfl (Nat.le_of_ble_eq_true rfl) hF (k_v (fun m120 hF => ?_))
                refine go_aload_n dX12_beginOne_88 rfl ?_
                refine go_iconst (v := 1) dX12_beginOne_89 (by decide) ?_
                refine go_putZ (k := 19) dX12_beginOne_90 sh_273 rfl inX12 (Nat.le_of_ble_eq_true rfl) lf_X12_196 tyX12 tyX12_ok nmX12 rfl rfl (by decide +kernel) (by decide) ?_
                obtain ⟨m121, em121⟩ : ∃ z : Mem, z = wI m120 273 19 1 := ⟨_, rfl⟩
                rw [← em121]
                have hF := hF m121 em121
                refine go_aload_n dX12_beginOne_93 rfl ?_
                refine go_bipush (v := 8) dX12_beginOne_94 (by decide) ?_
                refine go_callV mX12_settle dX12_beginOne_96 lm_X12_200 okX12_settle isX12_settle sh_273 rfl (As := [.int 8]) (S := []) rfl rfl (Nat.le_of_ble_eq_true rfl) hF (k_v (fun m122 hF => ?_))
                refine go_iconst (v := 0) dX12_beginOne_99 (by decide) ?_
                exact go_iret (S := []) dX12_beginOne_100 rfl ⟨_, rfl, hF⟩
              · have hF := hF.2 hc
                refine go_aload_n dX12_beginOne_73 rfl ?_
                refine go_getI (k := 11) dX12_beginOne_74 sh_273 rfl inX12 (Nat.le_of_ble_eq_true rfl) lf_X12_119 rfl ?_
                refine go_goto 81 dX12_beginOne_77 rfl ?_
                refine go_callV mX12_emit dX12_beginOne_81 lm_X12_177 okX12_emit isX12_emit sh_273 rfl (As := [.int 0, .int (m85.1 273 11)]) (S := []) rfl rfl (Nat.le_of_ble_eq_true rfl) hF (k_v (fun m123 hF => ?_))
                refine go_aload_n dX12_beginOne_84 rfl ?_
                refine go_callV mX12_nextToken dX12_beginOne_85 lm_X12_187 okX12_nextToken isX12_nextToken sh_273 rfl (As := []) (S := []) rfl rfl (Nat.le_of_ble_eq_true rfl) hF (k_v (fun m124 hF => ?_))
                refine go_aload_n dX12_beginOne_88 rfl ?_
                refine go_iconst (v := 1) dX12_beginOne_89 (by decide) ?_
                refine go_putZ (k := 19) dX12_beginOne_90 sh_273 rfl inX12 (Nat.le_of_ble_eq_true rfl) lf_X12_196 tyX12 tyX12_ok nmX12 rfl rfl (by decide +kernel) (by decide) ?_
                obtain ⟨m125, em125⟩ : ∃ z : Mem, z = wI m124 273 19 1 := ⟨_, rfl⟩
                rw [← em125]
                have hF := hF m125 em125
                refine go_aload_n dX12_beginOne_93 rfl ?_
                refine go_bipush (v := 8) dX12_beginOne_94 (by decide) ?_
                refine go_callV mX12_settle dX12_beginOne_96 lm_X12_200 okX12_settle isX12_settle sh_273 rfl (As := [.int 8]) (S := []) rfl rfl (Nat.le_of_ble_eq_true rfl) hF (k_v (fun m126 hF => ?_))
                refine go_iconst (v := 0) dX12_beginOne_99 (by decide) ?_
                exact go_iret (S := []) dX12_beginOne_100 rfl ⟨_, rfl, hF⟩
      · have hF := hF.2 hc
        refine go_aload_n dX12_beginOne_29 rfl ?_
        refine go_iload_n dX12_beginOne_30 rfl ?_
        refine go_callV mX12_isOf dX12_beginOne_31 lm_X12_193 okX12_isOf isX12_isOf sh_273 rfl (As := [.int r86]) (S := []) rfl rfl (Nat.le_of_ble_eq_true rfl) hF (k_i (fun r128 m127 hF => ?_))
        refine go_if_ne 39 dX12_beginOne_34 rfl ⟨fun hc => ?_, fun hc => ?_⟩
        · have hF := hF.1 hc
          refine go_aload_n dX12_beginOne_39 rfl ?_
          refine go_getI (k := 10) dX12_beginOne_40 sh_273 rfl inX12 (Nat.le_of_ble_eq_true rfl) lf_X12_113 rfl ?_
          refine go_iconst (v := 1) dX12_beginOne_43 (by decide) ?_
          refine go_icmp_eq 51 dX12_beginOne_44 rfl ⟨fun hc => ?_, fun hc => ?_⟩
          · have hF := hF.1 hc
            refine go_aload_n dX12_beginOne_51 rfl ?_
            refine go_aload_n dX12_beginOne_52 rfl ?_
            refine go_getI (k := 10) dX12_beginOne_53 sh_273 rfl inX12 (Nat.le_of_ble_eq_true rfl) lf_X12_113 rfl ?_
            refine go_iconst (v := 1) dX12_beginOne_56 (by decide) ?_
            refine go_icmp_ne 64 dX12_beginOne_57 rfl ⟨fun hc => ?_, fun hc => ?_⟩
            · have hF := hF.1 hc
              refine go_iconst (v := 1) dX12_beginOne_64 (by decide) ?_
              refine go_aload_n dX12_beginOne_65 rfl ?_
              refine go_getI (k := 10) dX12_beginOne_66 sh_273 rfl inX12 (Nat.le_of_ble_eq_true rfl) lf_X12_113 rfl ?_
              refine go_iconst (v := 1) dX12_beginOne_69 (by decide) ?_
              refine go_icmp_ne 80 dX12_beginOne_70 rfl ⟨fun hc => ?_, fun hc => ?_⟩
              · have hF := hF.1 hc
                refine go_iload_n dX12_beginOne_80 rfl ?_
                refine go_callV mX12_emit dX12_beginOne_81 lm_X12_177 okX12_emit isX12_emit sh_273 rfl (As := [.int 1, .int r86]) (S := []) rfl rfl (Nat.le_of_ble_eq_true rfl) hF (k_v (fun m129 hF => ?_))
                refine go_aload_n dX12_beginOne_84 rfl ?_
                refine go_callV mX12_nextToken dX12_beginOne_85 lm_X12_187 okX12_nextToken isX12_nextToken sh_273 rfl (As := []) (S := []) rfl rfl (Nat.le_of_ble_eq_true rfl) hF (k_v (fun m130 hF => ?_))
                refine go_aload_n dX12_beginOne_88 rfl ?_
                refine go_iconst (v := 1) dX12_beginOne_89 (by decide) ?_
                refine go_putZ (k := 19) dX12_beginOne_90 sh_273 rfl inX12 (Nat.le_of_ble_eq_true rfl) lf_X12_196 tyX12 tyX12_ok nmX12 rfl rfl (by decide +kernel) (by decide) ?_
                obtain ⟨m131, em131⟩ : ∃ z : Mem, z = wI m130 273 19 1 := ⟨_, rfl⟩
                rw [← em131]
                have hF := hF m131 em131
                refine go_aload_n dX12_beginOne_93 rfl ?_
                refine go_bipush (v := 8) dX12_beginOne_94 (by decide) ?_
                refine go_callV mX12_settle dX12_beginOne_96 lm_X12_200 okX12_settle isX12_settle sh_273 rfl (As := [.int 8]) (S := []) rfl rfl (Nat.le_of_ble_eq_true rfl) hF (k_v (fun m132 hF => ?_))
                refine go_iconst (v := 0) dX12_beginOne_99 (by decide) ?_
                exact go_iret (S := []) dX12_beginOne_100 rfl ⟨_, rfl, hF⟩
              · have hF := hF.2 hc
                refine go_aload_n dX12_beginOne_73 rfl ?_
                refine go_getI (k := 11) dX12_beginOne_74 sh_273 rfl inX12 (Nat.le_of_ble_eq_true rfl) lf_X12_119 rfl ?_
                refine go_goto 81 dX12_beginOne_77 rfl ?_
                refine go_callV mX12_emit dX12_beginOne_81 lm_X12_177 okX12_emit isX12_emit sh_273 rfl (As := [.int 1, .int (m127.1 273 11)]) (S := []) rfl rfl (Nat.le_of_ble_eq_true rfl) hF (k_v (fun m133 hF => ?_))
                refine go_aload_n dX12_beginOne_84 rfl ?_
                refine go_callV mX12_nextToken dX12_beginOne_85 lm_X12_187 okX12_nextToken isX12_nextToken sh_273 rfl (As := []) (S := []) rfl rfl (Nat.le_of_ble_eq_true rfl) hF (k_v (fun m134 hF => ?_))
                refine go_aload_n dX12_beginOne_88 rfl ?_
                refine go_iconst (v := 1) dX12_beginOne_89 (by decide) ?_
                refine go_putZ (k := 19) dX12_beginOne_90 sh_273 rfl inX12 (Nat.le_of_ble_eq_true rfl) lf_X12_196 tyX12 tyX12_ok nmX12 rfl rfl (by decide +kernel) (by decide) ?_
                obtain ⟨m135, em135⟩ : ∃ z : Mem, z = wI m134 273 19 1 := ⟨_, rfl⟩
                rw [← em135]
                have hF := hF m135 em135
                refine go_aload_n dX12_beginOne_93 rfl ?_
                refine go_bipush (v := 8) dX12_beginOne_94 (by decide) ?_
                refine go_callV mX12_settle dX12_beginOne_96 lm_X12_200 okX12_settle isX12_settle sh_273 rfl (As := [.int 8]) (S := []) rfl rfl (Nat.le_of_ble_eq_true rfl) hF (k_v (fun m136 hF => ?_))
                refine go_iconst (v := 0) dX12_beginOne_99 (by decide) ?_
                exact go_iret (S := []) dX12_beginOne_100 rfl ⟨_, rfl, hF⟩
            · have hF := hF.2 hc
              refine go_iconst (v := 0) dX12_beginOne_60 (by decide) ?_
              refine go_goto 65 dX12_beginOne_61 rfl ?_
              refine go_aload_n dX12_beginOne_65 rfl ?_
              refine go_getI (k := 10) dX12_beginOne_66 sh_273 rfl inX12 (Nat.le_of_ble_eq_true rfl) lf_X12_113 rfl ?_
              refine go_iconst (v := 1) dX12_beginOne_69 (by decide) ?_
              refine go_icmp_ne 80 dX12_beginOne_70 rfl ⟨fun hc => ?_, fun hc => ?_⟩
              · have hF := hF.1 hc
                refine go_iload_n dX12_beginOne_80 rfl ?_
                refine go_callV mX12_emit dX12_beginOne_81 lm_X12_177 okX12_emit isX12_emit sh_273 rfl (As := [.int 0, .int r86]) (S := []) rfl rfl (Nat.le_of_ble_eq_true rfl) hF (k_v (fun m137 hF => ?_))
                refine go_aload_n dX12_beginOne_84 rfl ?_
                refine go_callV mX12_nextToken dX12_beginOne_85 lm_X12_187 okX12_nextToken isX12_nextToken sh_273 rfl (As := []) (S := []) rfl rfl (Nat.le_of_ble_eq_true rfl) hF (k_v (fun m138 hF => ?_))
                refine go_aload_n dX12_beginOne_88 rfl ?_
                refine go_iconst (v := 1) dX12_beginOne_89 (by decide) ?_
                refine go_putZ (k := 19) dX12_beginOne_90 sh_273 rfl inX12 (Nat.le_of_ble_eq_true rfl) lf_X12_196 tyX12 tyX12_ok nmX12 rfl rfl (by decide +kernel) (by decide) ?_
                obtain ⟨m139, em139⟩ : ∃ z : Mem, z = wI m138 273 19 1 := ⟨_, rfl⟩
                rw [← em139]
                have hF := hF m139 em139
                refine go_aload_n dX12_beginOne_93 rfl ?_
                refine go_bipush (v := 8) dX12_beginOne_94 (by decide) ?_
                refine go_callV mX12_settle dX12_beginOne_96 lm_X12_200 okX12_settle isX12_settle sh_273 rfl (As := [.int 8]) (S := []) rfl rfl (Nat.le_of_ble_eq_true rfl) hF (k_v (fun m140 hF => ?_))
                refine go_iconst (v := 0) dX12_beginOne_99 (by decide) ?_
                exact go_iret (S := []) dX12_beginOne_100 rfl ⟨_, rfl, hF⟩
              · have hF := hF.2 hc
                refine go_aload_n dX12_beginOne_73 rfl ?_
                refine go_getI (k := 11) dX12_beginOne_74 sh_273 rfl inX12 (Nat.le_of_ble_eq_true rfl) lf_X12_119 rfl ?_
                refine go_goto 81 dX12_beginOne_77 rfl ?_
                refine go_callV mX12_emit dX12_beginOne_81 lm_X12_177 okX12_emit isX12_emit sh_273 rfl (As := [.int 0, .int (m127.1 273 11)]) (S := []) rfl rfl (Nat.le_of_ble_eq_true rfl) hF (k_v (fun m141 hF => ?_))
                refine go_aload_n dX12_beginOne_84 rfl ?_
                refine go_callV mX12_nextToken dX12_beginOne_85 lm_X12_187 okX12_nextToken isX12_nextToken sh_273 rfl (As := []) (S := []) rfl rfl (Nat.le_of_ble_eq_true rfl) hF (k_v (fun m142 hF => ?_))
                refine go_aload_n dX12_beginOne_88 rfl ?_
                refine go_iconst (v := 1) dX12_beginOne_89 (by decide) ?_
                refine go_putZ (k := 19) dX12_beginOne_90 sh_273 rfl inX12 (Nat.le_of_ble_eq_true rfl) lf_X12_196 tyX12 tyX12_ok nmX12 rfl rfl (by decide +kernel) (by decide) ?_
                obtain ⟨m143, em143⟩ : ∃ z : Mem, z = wI m142 273 19 1 := ⟨_, rfl⟩
                rw [← em143]
                have hF := hF m143 em143
                refine go_aload_n dX12_beginOne_93 rfl ?_
                refine go_bipush (v := 8) dX12_beginOne_94 (by decide) ?_
                refine go_callV mX12_settle dX12_beginOne_96 lm_X12_200 okX12_settle isX12_settle sh_273 rfl (As := [.int 8]) (S := []) rfl rfl (Nat.le_of_ble_eq_true rfl) hF (k_v (fun m144 hF => ?_))
                refine go_iconst (v := 0) dX12_beginOne_99 (by decide) ?_
                exact go_iret (S := []) dX12_beginOne_100 rfl ⟨_, rfl, hF⟩
          · have hF := hF.2 hc
            refine go_iload_n dX12_beginOne_47 rfl ?_
            refine go_if_lt 101 dX12_beginOne_48 rfl ⟨fun hc => ?_, fun hc => ?_⟩
            · have hF := hF.1 hc
              refine go_aload_n dX12_beginOne_101 rfl ?_
              refine go_getI (k := 10) dX12_beginOne_102 sh_273 rfl inX12 (Nat.le_of_ble_eq_true rfl) lf_X12_113 rfl ?_
              refine go_bipush (v := 40) dX12_beginOne_105 (by decide) ?_
              refine go_icmp_ne 117 dX12_beginOne_107 rfl ⟨fun hc => ?_, fun hc => ?_⟩
              · have hF := hF.1 hc
                refine go_aload_n dX12_beginOne_117 rfl ?_
                refine go_getI (k := 10) dX12_beginOne_118 sh_273 rfl inX12 (Nat.le_of_ble_eq_true rfl) lf_X12_113 rfl ?_
                refine go_bipush (v := 45) dX12_beginOne_121 (by decide) ?_
                refine go_icmp_ne 132 dX12_beginOne_123 rfl ⟨fun hc => ?_, fun hc => ?_⟩
                · have hF := hF.1 hc
                  refine go_aload_n dX12_beginOne_132 rfl ?_
                  refine go_bipush (v := 110) dX12_beginOne_133 (by decide) ?_
                  refine go_bipush (v := 111) dX12_beginOne_135 (by decide) ?_
                  refine go_bipush (v := 116) dX12_beginOne_137 (by decide) ?_
                  refine go_callS mX12_w3 dX12_beginOne_139 lm_X12_139 okX12_w3 isX12_w3 (As := [.int 110, .int 111, .int 116]) (S := [.ref (ga G 273)]) rfl rfl (Nat.le_of_ble_eq_true rfl) (eX12_w3 G _ 110 111 116 m127 (fun r m' => r = w3V 110 111 116 ∧ m127 = m') ⟨rfl, rfl⟩) (k_l (fun r m' hr => ?_))
                  obtain ⟨hr1, hr2⟩ := hr
                  subst hr1
                  subst hr2
                  rcases Classical.em (m127.1 273 10 = 2 ∧ m127.2.1 273 12 = (w3V 110 111 116)) with hp | hp
                  · have hF := hF.1 hp
                    refine go_callV mX12_isWord dX12_beginOne_142 lm_X12_206 okX12_isWord isX12_isWord sh_273 rfl (As := [.long (w3V 110 111 116)]) (S := []) rfl rfl (Nat.le_of_ble_eq_true rfl) (eX12_isWord G _ (w3V 110 111 116) m127 (fun r m' => r = 1 ∧ m127 = m') ⟨fun _ => ⟨rfl, rfl⟩, fun q => absurd hp q⟩) (k_i (fun r m' hr => ?_))
                    obtain ⟨hr1, hr2⟩ := hr
                    subst hr1
                    subst hr2
                    refine go_if_eq 164 dX12_beginOne_145 rfl ⟨fun hc => absurd hc (by decide), fun _ => ?_⟩
                    refine go_aload_n dX12_beginOne_148 rfl ?_
                    refine go_callV mX12_isAskAhead dX12_beginOne_149 lm_X12_210 okX12_isAskAhead isX12_isAskAhead sh_273 rfl (As := []) (S := []) rfl rfl (Nat.le_of_ble_eq_true rfl) hF (k_i (fun r146 m145 hF => ?_))
                    refine go_if_eq 164 dX12_beginOne_152 rfl ⟨fun hc => ?_, fun hc => ?_⟩
                    · have hF := hF.1 hc
                      refine go_iconst (v := 1) dX12_beginOne_164 (by decide) ?_
                      exact go_iret (S := []) dX12_beginOne_165 rfl ⟨_, rfl, hF⟩
                    · have hF := hF.2 hc
                      refine go_aload_n dX12_beginOne_155 rfl ?_
                      refine go_bipush (v := 20) dX12_beginOne_156 (by decide) ?_
                      refine go_callV mX12_opened dX12_beginOne_158 lm_X12_203 okX12_opened isX12_opened sh_273 rfl (As := [.int 20]) (S := []) rfl rfl (Nat.le_of_ble_eq_true rfl) hF (k_i (fun r148 m147 hF => ?_))
                      refine go_goto 165 dX12_beginOne_161 rfl ?_
                      exact go_iret (S := []) dX12_beginOne_165 rfl ⟨_, rfl, hF⟩
                  · have hF := hF.2 hp
                    refine go_callV mX12_isWord dX12_beginOne_142 lm_X12_206 okX12_isWord isX12_isWord sh_273 rfl (As := [.long (w3V 110 111 116)]) (S := []) rfl rfl (Nat.le_of_ble_eq_true rfl) (eX12_isWord G _ (w3V 110 111 116) m127 (fun r m' => r = 0 ∧ m127 = m') ⟨fun q => absurd q hp, fun _ => ⟨rfl, rfl⟩⟩) (k_i (fun r m' hr => ?_))
                    obtain ⟨hr1, hr2⟩ := hr
                    subst hr1
                    subst hr2
                    refine go_if_eq 164 dX12_beginOne_145 rfl ⟨fun _ => ?_, fun hc => absurd hc (by decide)⟩
                    refine go_iconst (v := 1) dX12_beginOne_164 (by decide) ?_
                    exact go_iret (S := []) dX12_beginOne_165 rfl ⟨_, rfl, hF⟩
                · have hF := hF.2 hc
                  refine go_aload_n dX12_beginOne_126 rfl ?_
                  refine go_iconst (v := 2) dX12_beginOne_127 (by decide) ?_
                  refine go_callV mX12_opened dX12_beginOne_128 lm_X12_203 okX12_opened isX12_opened sh_273 rfl (As := [.int 2]) (S := []) rfl rfl (Nat.le_of_ble_eq_true rfl) hF (k_i (fun r150 m149 hF => ?_))
                  exact go_iret (S := []) dX12_beginOne_131 rfl ⟨_, rfl, hF⟩
              · have hF := hF.2 hc
                refine go_aload_n dX12_beginOne_110 rfl ?_
                refine go_bipush (v := 40) dX12_beginOne_111 (by decide) ?_
                refine go_callV mX12_opened dX12_beginOne_113 lm_X12_203 okX12_opened isX12_opened sh_273 rfl (As := [.int 40]) (S := []) rfl rfl (Nat.le_of_ble_eq_true rfl) hF (k_i (fun r152 m151 hF => ?_))
                exact go_iret (S := []) dX12_beginOne_116 rfl ⟨_, rfl, hF⟩
            · have hF := hF.2 hc
              refine go_aload_n dX12_beginOne_51 rfl ?_
              refine go_aload_n dX12_beginOne_52 rfl ?_
              refine go_getI (k := 10) dX12_beginOne_53 sh_273 rfl inX12 (Nat.le_of_ble_eq_true rfl) lf_X12_113 rfl ?_
              refine go_iconst (v := 1) dX12_beginOne_56 (by decide) ?_
              refine go_icmp_ne 64 dX12_beginOne_57 rfl ⟨fun hc => ?_, fun hc => ?_⟩
              · have hF := hF.1 hc
                refine go_iconst (v := 1) dX12_beginOne_64 (by decide) ?_
                refine go_aload_n dX12_beginOne_65 rfl ?_
                refine go_getI (k := 10) dX12_beginOne_66 sh_273 rfl inX12 (Nat.le_of_ble_eq_true rfl) lf_X12_113 rfl ?_
                refine go_iconst (v := 1) dX12_beginOne_69 (by decide) ?_
                refine go_icmp_ne 80 dX12_beginOne_70 rfl ⟨fun hc => ?_, fun hc => ?_⟩
                · have hF := hF.1 hc
                  refine go_iload_n dX12_beginOne_80 rfl ?_
                  refine go_callV mX12_emit dX12_beginOne_81 lm_X12_177 okX12_emit isX12_emit sh_273 rfl (As := [.int 1, .int r86]) (S := []) rfl rfl (Nat.le_of_ble_eq_true rfl) hF (k_v (fun m153 hF => ?_))
                  refine go_aload_n dX12_beginOne_84 rfl ?_
                  refine go_callV mX12_nextToken dX12_beginOne_85 lm_X12_187 okX12_nextToken isX12_nextToken sh_273 rfl (As := []) (S := []) rfl rfl (Nat.le_of_ble_eq_true rfl) hF (k_v (fun m154 hF => ?_))
                  refine go_aload_n dX12_beginOne_88 rfl ?_
                  refine go_iconst (v := 1) dX12_beginOne_89 (by decide) ?_
                  refine go_putZ (k := 19) dX12_beginOne_90 sh_273 rfl inX12 (Nat.le_of_ble_eq_true rfl) lf_X12_196 tyX12 tyX12_ok nmX12 rfl rfl (by decide +kernel) (by decide) ?_
                  obtain ⟨m155, em155⟩ : ∃ z : Mem, z = wI m154 273 19 1 := ⟨_, rfl⟩
                  rw [← em155]
                  have hF := hF m155 em155
                  refine go_aload_n dX12_beginOne_93 rfl ?_
                  refine go_bipush (v := 8) dX12_beginOne_94 (by decide) ?_
                  refine go_callV mX12_settle dX12_beginOne_96 lm_X12_200 okX12_settle isX12_settle sh_273 rfl (As := [.int 8]) (S := []) rfl rfl (Nat.le_of_ble_eq_true rfl) hF (k_v (fun m156 hF => ?_))
                  refine go_iconst (v := 0) dX12_beginOne_99 (by decide) ?_
                  exact go_iret (S := []) dX12_beginOne_100 rfl ⟨_, rfl, hF⟩
                · have hF := hF.2 hc
                  refine go_aload_n dX12_beginOne_73 rfl ?_
                  refine go_getI (k := 11) dX12_beginOne_74 sh_273 rfl inX12 (Nat.le_of_ble_eq_true rfl) lf_X12_119 rfl ?_
                  refine go_goto 81 dX12_beginOne_77 rfl ?_
                  refine go_callV mX12_emit dX12_beginOne_81 lm_X12_177 okX12_emit isX12_emit sh_273 rfl (As := [.int 1, .int (m127.1 273 11)]) (S := []) rfl rfl (Nat.le_of_ble_eq_true rfl) hF (k_v (fun m157 hF => ?_))
                  refine go_aload_n dX12_beginOne_84 rfl ?_
                  refine go_callV mX12_nextToken dX12_beginOne_85 lm_X12_187 okX12_nextToken isX12_nextToken sh_273 rfl (As := []) (S := []) rfl rfl (Nat.le_of_ble_eq_true rfl) hF (k_v (fun m158 hF => ?_))
                  refine go_aload_n dX12_beginOne_88 rfl ?_
                  refine go_iconst (v := 1) dX12_beginOne_89 (by decide) ?_
                  refine go_putZ (k := 19) dX12_beginOne_90 sh_273 rfl inX12 (Nat.le_of_ble_eq_true rfl) lf_X12_196 tyX12 tyX12_ok nmX12 rfl rfl (by decide +kernel) (by decide) ?_
                  obtain ⟨m159, em159⟩ : ∃ z : Mem, z = wI m158 273 19 1 := ⟨_, rfl⟩
                  rw [← em159]
                  have hF := hF m159 em159
                  refine go_aload_n dX12_beginOne_93 rfl ?_
                  refine go_bipush (v := 8) dX12_beginOne_94 (by decide) ?_
                  refine go_callV mX12_settle dX12_beginOne_96 lm_X12_200 okX12_settle isX12_settle sh_273 rfl (As := [.int 8]) (S := []) rfl rfl (Nat.le_of_ble_eq_true rfl) hF (k_v (fun m160 hF => ?_))
                  refine go_iconst (v := 0) dX12_beginOne_99 (by decide) ?_
                  exact go_iret (S := []) dX12_beginOne_100 rfl ⟨_, rfl, hF⟩
              · have hF := hF.2 hc
                refine go_iconst (v := 0) dX12_beginOne_60 (by decide) ?_
                refine go_goto 65 dX12_beginOne_61 rfl ?_
                refine go_aload_n dX12_beginOne_65 rfl ?_
                refine go_getI (k := 10) dX12_beginOne_66 sh_273 rfl inX12 (Nat.le_of_ble_eq_true rfl) lf_X12_113 rfl ?_
                refine go_iconst (v := 1) dX12_beginOne_69 (by decide) ?_
                refine go_icmp_ne 80 dX12_beginOne_70 rfl ⟨fun hc => ?_, fun hc => ?_⟩
                · have hF := hF.1 hc
                  refine go_iload_n dX12_beginOne_80 rfl ?_
                  refine go_callV mX12_emit dX12_beginOne_81 lm_X12_177 okX12_emit isX12_emit sh_273 rfl (As := [.int 0, .int r86]) (S := []) rfl rfl (Nat.le_of_ble_eq_true rfl) hF (k_v (fun m161 hF => ?_))
                  refine go_aload_n dX12_beginOne_84 rfl ?_
                  refine go_callV mX12_nextToken dX12_beginOne_85 lm_X12_187 okX12_nextToken isX12_nextToken sh_273 rfl (As := []) (S := []) rfl rfl (Nat.le_of_ble_eq_true rfl) hF (k_v (fun m162 hF => ?_))
                  refine go_aload_n dX12_beginOne_88 rfl ?_
                  refine go_iconst (v := 1) dX12_beginOne_89 (by decide) ?_
                  refine go_putZ (k := 19) dX12_beginOne_90 sh_273 rfl inX12 (Nat.le_of_ble_eq_true rfl) lf_X12_196 tyX12 tyX12_ok nmX12 rfl rfl (by decide +kernel) (by decide) ?_
                  obtain ⟨m163, em163⟩ : ∃ z : Mem, z = wI m162 273 19 1 := ⟨_, rfl⟩
                  rw [← em163]
                  have hF := hF m163 em163
                  refine go_aload_n dX12_beginOne_93 rfl ?_
                  refine go_bipush (v := 8) dX12_beginOne_94 (by decide) ?_
                  refine go_callV mX12_settle dX12_beginOne_96 lm_X12_200 okX12_settle isX12_settle sh_273 rfl (As := [.int 8]) (S := []) rfl rfl (Nat.le_of_ble_eq_true rfl) hF (k_v (fun m164 hF => ?_))
                  refine go_iconst (v := 0) dX12_beginOne_99 (by decide) ?_
                  exact go_iret (S := []) dX12_beginOne_100 rfl ⟨_, rfl, hF⟩
                · have hF := hF.2 hc
                  refine go_aload_n dX12_beginOne_73 rfl ?_
                  refine go_getI (k := 11) dX12_beginOne_74 sh_273 rfl inX12 (Nat.le_of_ble_eq_true rfl) lf_X12_119 rfl ?_
                  refine go_goto 81 dX12_beginOne_77 rfl ?_
                  refine go_callV mX12_emit dX12_beginOne_81 lm_X12_177 okX12_emit isX12_emit sh_273 rfl (As := [.int 0, .int (m127.1 273 11)]) (S := []) rfl rfl (Nat.le_of_ble_eq_true rfl) hF (k_v (fun m165 hF => ?_))
                  refine go_aload_n dX12_beginOne_84 rfl ?_
                  refine go_callV mX12_nextToken dX12_beginOne_85 lm_X12_187 okX12_nextToken isX12_nextToken sh_273 rfl (As := []) (S := []) rfl rfl (Nat.le_of_ble_eq_true rfl) hF (k_v (fun m166 hF => ?_))
                  refine go_aload_n dX12_beginOne_88 rfl ?_
                  refine go_iconst (v := 1) dX12_beginOne_89 (by decide) ?_
                  refine go_putZ (k := 19) dX12_beginOne_90 sh_273 rfl inX12 (Nat.le_of_ble_eq_true rfl) lf_X12_196 tyX12 tyX12_ok nmX12 rfl rfl (by decide +kernel) (by decide) ?_
                  obtain ⟨m167, em167⟩ : ∃ z : Mem, z = wI m166 273 19 1 := ⟨_, rfl⟩
                  rw [← em167]
                  have hF := hF m167 em167
                  refine go_aload_n dX12_beginOne_93 rfl ?_
                  refine go_bipush (v := 8) dX12_beginOne_94 (by decide) ?_
                  refine go_callV mX12_settle dX12_beginOne_96 lm_X12_200 okX12_settle isX12_settle sh_273 rfl (As := [.int 8]) (S := []) rfl rfl (Nat.le_of_ble_eq_true rfl) hF (k_v (fun m168 hF => ?_))
                  refine go_iconst (v := 0) dX12_beginOne_99 (by decide) ?_
                  exact go_iret (S := []) dX12_beginOne_100 rfl ⟨_, rfl, hF⟩
        · have hF := hF.2 hc
          refine go_iconst (v := 5) dX12_beginOne_37 (by decide) ?_
          exact go_iret (S := []) dX12_beginOne_38 rfl ⟨_, rfl, hF⟩
    · have hF := hF.2 hc
      refine go_iconst (v := 2) dX12_beginOne_18 (by decide) ?_
      exact go_iret (S := []) dX12_beginOne_19 rfl ⟨_, rfl, hF⟩
theorem vX12_compareOf (G : GP) (d : Nat)  (m : Mem) (K : Int32 → Mem → Prop) (hF : ((¬ (m.1 273 10) = 60) → ((¬ (m.1 273 10) = 4) → ((¬ (m.1 273 10) = 62) → ((¬ (m.1 273 10) = 5) → ((¬ (m.1 273 10) = 61) → ((¬ (m.1 273 10) = 35) → K (-1) m) ∧ (((m.1 273 10) = 35) → K 15 m)) ∧ (((m.1 273 10) = 61) → K 14 m)) ∧ (((m.1 273 10) = 5) → K 13 m)) ∧ (((m.1 273 10) = 62) → K 12 m)) ∧ (((m.1 273 10) = 4) → K 11 m)) ∧ (((m.1 273 10) = 60) → K 10 m)) : Evi G (d) mX12_compareOf [.ref (ga G 273)] m K := by
  refine Ev.go [.ref (ga G 273)] (by decide) (Nat.le_of_ble_eq_true rfl) rfl ?_
  refine go_aload_n dX12_compareOf_0 rfl ?_
  refine go_getI (k := 10) dX12_compareOf_1 sh_273 rfl inX12 (Nat.le_of_ble_eq_true rfl) lf_X12_113 rfl ?_
  refine go_bipush (v := 60) dX12_compareOf_4 (by decide) ?_
  refine go_icmp_ne 14 dX12_compareOf_6 rfl ⟨fun hc => ?_, fun hc => ?_⟩
  · have hF := hF.1 hc
    refine go_aload_n dX12_compareOf_14 rfl ?_
    refine go_getI (k := 10) dX12_compareOf_15 sh_273 rfl inX12 (Nat.le_of_ble_eq_true rfl) lf_X12_113 rfl ?_
    refine go_iconst (v := 4) dX12_compareOf_18 (by decide) ?_
    refine go_icmp_ne 27 dX12_compareOf_19 rfl ⟨fun hc => ?_, fun hc => ?_⟩
    · have hF := hF.1 hc
      refine go_aload_n dX12_compareOf_27 rfl ?_
      refine go_getI (k := 10) dX12_compareOf_28 sh_273 rfl inX12 (Nat.le_of_ble_eq_true rfl) lf_X12_113 rfl ?_
      refine go_bipush (v := 62) dX12_compareOf_31 (by decide) ?_
      refine go_icmp_ne 41 dX12_compareOf_33 rfl ⟨fun hc => ?_, fun hc => ?_⟩
      · have hF := hF.1 hc
        refine go_aload_n dX12_compareOf_41 rfl ?_
        refine go_getI (k := 10) dX12_compareOf_42 sh_273 rfl inX12 (Nat.le_of_ble_eq_true rfl) lf_X12_113 rfl ?_
        refine go_iconst (v := 5) dX12_compareOf_45 (by decide) ?_
        refine go_icmp_ne 54 dX12_compareOf_46 rfl ⟨fun hc => ?_, fun hc => ?_⟩
        · have hF := hF.1 hc
          refine go_aload_n dX12_compareOf_54 rfl ?_
          refine go_getI (k := 10) dX12_compareOf_55 sh_273 rfl inX12 (Nat.le_of_ble_eq_true rfl) lf_X12_113 rfl ?_
          refine go_bipush (v := 61) dX12_compareOf_58 (by decide) ?_
          refine go_icmp_ne 68 dX12_compareOf_60 rfl ⟨fun hc => ?_, fun hc => ?_⟩
          · have hF := hF.1 hc
            refine go_aload_n dX12_compareOf_68 rfl ?_
            refine go_getI (k := 10) dX12_compareOf_69 sh_273 rfl inX12 (Nat.le_of_ble_eq_true rfl) lf_X12_113 rfl ?_
            refine go_bipush (v := 35) dX12_compareOf_72 (by decide) ?_
            refine go_icmp_ne 82 dX12_compareOf_74 rfl ⟨fun hc => ?_, fun hc => ?_⟩
            · have hF := hF.1 hc
              refine go_iconst (v := -1) dX12_compareOf_82 (by decide) ?_
              exact go_iret (S := []) dX12_compareOf_83 rfl ⟨_, rfl, hF⟩
            · have hF := hF.2 hc
              refine go_bipush (v := 15) dX12_compareOf_77 (by decide) ?_
              refine go_goto 83 dX12_compareOf_79 rfl ?_
              exact go_iret (S := []) dX12_compareOf_83 rfl ⟨_, rfl, hF⟩
          · have hF := hF.2 hc
            refine go_bipush (v := 14) dX12_compareOf_63 (by decide) ?_
            refine go_goto 83 dX12_compareOf_65 rfl ?_
            exact go_iret (S := []) dX12_compareOf_83 rfl ⟨_, rfl, hF⟩
        · have hF := hF.2 hc
          refine go_bipush (v := 13) dX12_compareOf_49 (by decide) ?_
          refine go_goto 83 dX12_compareOf_51 rfl ?_
          exact go_iret (S := []) dX12_compareOf_83 rfl ⟨_, rfl, hF⟩
      · have hF := hF.2 hc
        refine go_bipush (v := 12) dX12_compareOf_36 (by decide) ?_
        refine go_goto 83 dX12_compareOf_38 rfl ?_
        exact go_iret (S := []) dX12_compareOf_83 rfl ⟨_, rfl, hF⟩
    · have hF := hF.2 hc
      refine go_bipush (v := 11) dX12_compareOf_22 (by decide) ?_
      refine go_goto 83 dX12_compareOf_24 rfl ?_
      exact go_iret (S := []) dX12_compareOf_83 rfl ⟨_, rfl, hF⟩
  · have hF := hF.2 hc
    refine go_bipush (v := 10) dX12_compareOf_9 (by decide) ?_
    refine go_goto 83 dX12_compareOf_11 rfl ?_
    exact go_iret (S := []) dX12_compareOf_83 rfl ⟨_, rfl, hF⟩
theorem vX12_betweenOf (G : GP) (d : Nat)  (m : Mem) (K : Int32 → Mem → Prop) (hF : ((¬ (m.1 273 10) = 43) → ((¬ (m.1 273 10) = 45) → ((¬ (m.1 273 10) = 42) → ((¬ (m.1 273 10) = 47) → ((¬ (m.1 273 10) = 94) → Evi G (d + 1) mX12_isOpen [.ref (ga G 273)] m (fun r2 m1 => ((r2 = 0) → Evi G (d + 1) mX12_isCompared [.ref (ga G 273)] m1 (fun r4 m3 => ((¬ r4 = 0) → ((m3.1 273 10 = 2 ∧ m3.2.1 273 12 = (w3V 97 110 100)) → K 21 m3) ∧ (¬ (m3.1 273 10 = 2 ∧ m3.2.1 273 12 = (w3V 97 110 100)) → ((m3.1 273 10 = 2 ∧ m3.2.1 273 12 = ((((111 : Int32).toInt64 <<< ((8 : Int32).toInt64 &&& 63)) ||| (114 : Int32).toInt64))) → K 22 m3) ∧ (¬ (m3.1 273 10 = 2 ∧ m3.2.1 273 12 = ((((111 : Int32).toInt64 <<< ((8 : Int32).toInt64 &&& 63)) ||| (114 : Int32).toInt64))) → K (-1) m3))) ∧ ((r4 = 0) → Evi G (d + 1) mX12_compareOf [.ref (ga G 273)] m3 (fun r6 m5 => K r6 m5)))) ∧ ((¬ r2 = 0) → K (-1) m1))) ∧ (((m.1 273 10) = 94) → K 7 m)) ∧ (((m.1 273 10) = 47) → K 6 m)) ∧ (((m.1 273 10) = 42) → K 5 m)) ∧ (((m.1 273 10) = 45) → K 4 m)) ∧ (((m.1 273 10) = 43) → K 3 m)) : Evi G (d + 2) mX12_betweenOf [.ref (ga G 273)] m K := by
  refine Ev.go [.ref (ga G 273)] (by decide) (Nat.le_of_ble_eq_true rfl) rfl ?_
  refine go_aload_n dX12_betweenOf_0 rfl ?_
  refine go_getI (k := 10) dX12_betweenOf_1 sh_273 rfl inX12 (Nat.le_of_ble_eq_true rfl) lf_X12_113 rfl ?_
  refine go_bipush (v := 43) dX12_betweenOf_4 (by decide) ?_
  refine go_icmp_ne 11 dX12_betweenOf_6 rfl ⟨fun hc => ?_, fun hc => ?_⟩
  · have hF := hF.1 hc
    refine go_aload_n dX12_betweenOf_11 rfl ?_
    refine go_getI (k := 10) dX12_betweenOf_12 sh_273 rfl inX12 (Nat.le_of_ble_eq_true rfl) lf_X12_113 rfl ?_
    refine go_bipush (v := 45) dX12_betweenOf_15 (by decide) ?_
    refine go_icmp_ne 22 dX12_betweenOf_17 rfl ⟨fun hc => ?_, fun hc => ?_⟩
    · have hF := hF.1 hc
      refine go_aload_n dX12_betweenOf_22 rfl ?_
      refine go_getI (k := 10) dX12_betweenOf_23 sh_273 rfl inX12 (Nat.le_of_ble_eq_true rfl) lf_X12_113 rfl ?_
      refine go_bipush (v := 42) dX12_betweenOf_26 (by decide) ?_
      refine go_icmp_ne 33 dX12_betweenOf_28 rfl ⟨fun hc => ?_, fun hc => ?_⟩
      · have hF := hF.1 hc
        refine go_aload_n dX12_betweenOf_33 rfl ?_
        refine go_getI (k := 10) dX12_betweenOf_34 sh_273 rfl inX12 (Nat.le_of_ble_eq_true rfl) lf_X12_113 rfl ?_
        refine go_bipush (v := 47) dX12_betweenOf_37 (by decide) ?_
        refine go_icmp_ne 45 dX12_betweenOf_39 rfl ⟨fun hc => ?_, fun hc => ?_⟩
        · have hF := hF.1 hc
          refine go_aload_n dX12_betweenOf_45 rfl ?_
          refine go_getI (k := 10) dX12_betweenOf_46 sh_273 rfl inX12 (Nat.le_of_ble_eq_true rfl) lf_X12_113 rfl ?_
          refine go_bipush (v := 94) dX12_betweenOf_49 (by decide) ?_
          refine go_icmp_ne 57 dX12_betweenOf_51 rfl ⟨fun hc => ?_, fun hc => ?_⟩
          · have hF := hF.1 hc
            refine go_aload_n dX12_betweenOf_57 rfl ?_
            refine go_callV mX12_isOpen dX12_betweenOf_58 lm_X12_184 okX12_isOpen isX12_isOpen sh_273 rfl (As := []) (S := []) rfl rfl (Nat.le_of_ble_eq_true rfl) hF (k_i (fun r2 m1 hF => ?_))
            refine go_if_eq 66 dX12_betweenOf_61 rfl ⟨fun hc => ?_, fun hc => ?_⟩
            · have hF := hF.1 hc
              refine go_aload_n dX12_betweenOf_66 rfl ?_
              refine go_callV mX12_isCompared dX12_betweenOf_67 lm_X12_213 okX12_isCompared isX12_isCompared sh_273 rfl (As := []) (S := []) rfl rfl (Nat.le_of_ble_eq_true rfl) hF (k_i (fun r4 m3 hF => ?_))
              refine go_if_ne 78 dX12_betweenOf_70 rfl ⟨fun hc => ?_, fun hc => ?_⟩
              · have hF := hF.1 hc
                refine go_aload_n dX12_betweenOf_78 rfl ?_
                refine go_bipush (v := 97) dX12_betweenOf_79 (by decide) ?_
                refine go_bipush (v := 110) dX12_betweenOf_81 (by decide) ?_
                refine go_bipush (v := 100) dX12_betweenOf_83 (by decide) ?_
                refine go_callS mX12_w3 dX12_betweenOf_85 lm_X12_139 okX12_w3 isX12_w3 (As := [.int 97, .int 110, .int 100]) (S := [.ref (ga G 273)]) rfl rfl (Nat.le_of_ble_eq_true rfl) (eX12_w3 G _ 97 110 100 m3 (fun r m' => r = w3V 97 110 100 ∧ m3 = m') ⟨rfl, rfl⟩) (k_l (fun r m' hr => ?_))
                obtain ⟨hr1, hr2⟩ := hr
                subst hr1
                subst hr2
                rcases Classical.em (m3.1 273 10 = 2 ∧ m3.2.1 273 12 = (w3V 97 110 100)) with hp | hp
                · have hF := hF.1 hp
                  refine go_callV mX12_isWord dX12_betweenOf_88 lm_X12_206 okX12_isWord isX12_isWord sh_273 rfl (As := [.long (w3V 97 110 100)]) (S := []) rfl rfl (Nat.le_of_ble_eq_true rfl) (eX12_isWord G _ (w3V 97 110 100) m3 (fun r m' => r = 1 ∧ m3 = m') ⟨fun _ => ⟨rfl, rfl⟩, fun q => absurd hp q⟩) (k_i (fun r m' hr => ?_))
                  obtain ⟨hr1, hr2⟩ := hr
                  subst hr1
                  subst hr2
                  refine go_if_eq 99 dX12_betweenOf_91 rfl ⟨fun hc => absurd hc (by decide), fun _ => ?_⟩
                  refine go_bipush (v := 21) dX12_betweenOf_94 (by decide) ?_
                  refine go_goto 119 dX12_betweenOf_96 rfl ?_
                  exact go_iret (S := []) dX12_betweenOf_119 rfl ⟨_, rfl, hF⟩
                · have hF := hF.2 hp
                  refine go_callV mX12_isWord dX12_betweenOf_88 lm_X12_206 okX12_isWord isX12_isWord sh_273 rfl (As := [.long (w3V 97 110 100)]) (S := []) rfl rfl (Nat.le_of_ble_eq_true rfl) (eX12_isWord G _ (w3V 97 110 100) m3 (fun r m' => r = 0 ∧ m3 = m') ⟨fun q => absurd q hp, fun _ => ⟨rfl, rfl⟩⟩) (k_i (fun r m' hr => ?_))
                  obtain ⟨hr1, hr2⟩ := hr
                  subst hr1
                  subst hr2
                  refine go_if_eq 99 dX12_betweenOf_91 rfl ⟨fun _ => ?_, fun hc => absurd hc (by decide)⟩
                  refine go_aload_n dX12_betweenOf_99 rfl ?_
                  refine go_bipush (v := 111) dX12_betweenOf_100 (by decide) ?_
                  refine go_bipush (v := 114) dX12_betweenOf_102 (by decide) ?_
                  refine go_callS mX12_w2 dX12_betweenOf_104 lm_X12_135 okX12_w2 isX12_w2 (As := [.int 111, .int 114]) (S := [.ref (ga G 273)]) rfl rfl (Nat.le_of_ble_eq_true rfl) (eX12_w2 G _ 111 114 m3 (fun r m' => r = (((111 : Int32).toInt64 <<< ((8 : Int32).toInt64 &&& 63)) ||| (114 : Int32).toInt64) ∧ m3 = m') ⟨rfl, rfl⟩) (k_l (fun r m' hr => ?_))
                  obtain ⟨hr1, hr2⟩ := hr
                  subst hr1
                  subst hr2
                  rcases Classical.em (m3.1 273 10 = 2 ∧ m3.2.1 273 12 = ((((111 : Int32).toInt64 <<< ((8 : Int32).toInt64 &&& 63)) ||| (114 : Int32).toInt64))) with hp | hp
                  · have hF := hF.1 hp
                    refine go_callV mX12_isWord dX12_betweenOf_107 lm_X12_206 okX12_isWord isX12_isWord sh_273 rfl (As := [.long ((((111 : Int32).toInt64 <<< ((8 : Int32).toInt64 &&& 63)) ||| (114 : Int32).toInt64))]) (S := []) rfl rfl (Nat.le_of_ble_eq_true rfl) (eX12_isWord G _ ((((111 : Int32).toInt64 <<< ((8 : Int32).toInt64 &&& 63)) ||| (114 : Int32).toInt64)) m3 (fun r m' => r = 1 ∧ m3 = m') ⟨fun _ => ⟨rfl, rfl⟩, fun q => absurd hp q⟩) (k_i (fun r m' hr => ?_))
                    obtain ⟨hr1, hr2⟩ := hr
                    subst hr1
                    subst hr2
                    refine go_if_eq 118 dX12_betweenOf_110 rfl ⟨fun hc => absurd hc (by decide), fun _ => ?_⟩
                    refine go_bipush (v := 22) dX12_betweenOf_113 (by decide) ?_
                    refine go_goto 119 dX12_betweenOf_115 rfl ?_
                    exact go_iret (S := []) dX12_betweenOf_119 rfl ⟨_, rfl, hF⟩
                  · have hF := hF.2 hp
                    refine go_callV mX12_isWord dX12_betweenOf_107 lm_X12_206 okX12_isWord isX12_isWord sh_273 rfl (As := [.long ((((111 : Int32).toInt64 <<< ((8 : Int32).toInt64 &&& 63)) ||| (114 : Int32).toInt64))]) (S := []) rfl rfl (Nat.le_of_ble_eq_true rfl) (eX12_isWord G _ ((((111 : Int32).toInt64 <<< ((8 : Int32).toInt64 &&& 63)) ||| (114 : Int32).toInt64)) m3 (fun r m' => r = 0 ∧ m3 = m') ⟨fun q => absurd q hp, fun _ => ⟨rfl, rfl⟩⟩) (k_i (fun r m' hr => ?_))
                    obtain ⟨hr1, hr2⟩ := hr
                    subst hr1
                    subst hr2
                    refine go_if_eq 118 dX12_betweenOf_110 rfl ⟨fun _ => ?_, fun hc => absurd hc (by decide)⟩
                    refine go_iconst (v := -1) dX12_betweenOf_118 (by decide) ?_
                    exact go_iret (S := []) dX12_betweenOf_119 rfl ⟨_, rfl, hF⟩
              · have hF := hF.2 hc
                refine go_aload_n dX12_betweenOf_73 rfl ?_
                refine go_callV mX12_compareOf dX12_betweenOf_74 lm_X12_216 okX12_compareOf isX12_compareOf sh_273 rfl (As := []) (S := []) rfl rfl (Nat.le_of_ble_eq_true rfl) hF (k_i (fun r6 m5 hF => ?_))
                exact go_iret (S := []) dX12_betweenOf_77 rfl ⟨_, rfl, hF⟩
            · have hF := hF.2 hc
              refine go_iconst (v := -1) dX12_betweenOf_64 (by decide) ?_
              exact go_iret (S := []) dX12_betweenOf_65 rfl ⟨_, rfl, hF⟩
          · have hF := hF.2 hc
            refine go_bipush (v := 7) dX12_betweenOf_54 (by decide) ?_
            exact go_iret (S := []) dX12_betweenOf_56 rfl ⟨_, rfl, hF⟩
        · have hF := hF.2 hc
          refine go_bipush (v := 6) dX12_betweenOf_42 (by decide) ?_
          exact go_iret (S := []) dX12_betweenOf_44 rfl ⟨_, rfl, hF⟩
      · have hF := hF.2 hc
        refine go_iconst (v := 5) dX12_betweenOf_31 (by decide) ?_
        exact go_iret (S := []) dX12_betweenOf_32 rfl ⟨_, rfl, hF⟩
    · have hF := hF.2 hc
      refine go_iconst (v := 4) dX12_betweenOf_20 (by decide) ?_
      exact go_iret (S := []) dX12_betweenOf_21 rfl ⟨_, rfl, hF⟩
  · have hF := hF.2 hc
    refine go_iconst (v := 3) dX12_betweenOf_9 (by decide) ?_
    exact go_iret (S := []) dX12_betweenOf_10 rfl ⟨_, rfl, hF⟩
theorem vX12_behindOne (G : GP) (d : Nat)  (m : Mem) (K : Int32 → Mem → Prop) (hF : Evi G (d + 2) mX12_betweenOf [.ref (ga G 273)] m (fun r2 m1 => ((¬ r2 = 7) → ((r2 < 0) → Evi G (d + 2) mX12_isOpen [.ref (ga G 273)] m1 (fun r4 m3 => ((r4 = 0) → K (-1) m3) ∧ ((¬ r4 = 0) → (((m3.1 273 10) = 41) → Evv G (d + 2) mX12_settle [.ref (ga G 273), .int 1] m3 (fun m5 => ∀ m6 : Mem, m6 = wI m5 273 17 ((m5.1 273 17) - 1) → ∀ m7 : Mem, m7 = wI m6 273 18 ((m6.1 273 18) - 1) → Evv G (d + 2) mX12_nextToken [.ref (ga G 273)] m7 (fun m8 => Evv G (d + 2) mX12_settle [.ref (ga G 273), .int 8] m8 (fun m9 => K 0 m9)))) ∧ ((¬ (m3.1 273 10) = 41) → K (-1) m3)))) ∧ ((¬ r2 < 0) → Evv G (d + 2) mX12_settle [.ref (ga G 273), .int (rankV r2)] m1 (fun m10 => vp_in (m10.1 273 17) 160 ∧ ∀ m11 : Mem, m11 = wI m10 279 (m10.1 273 17).toNatClampNeg r2 → ∀ m12 : Mem, m12 = wI m11 273 17 ((m11.1 273 17) + 1) → ∀ m13 : Mem, m13 = wI m12 273 19 0 → Evv G (d + 2) mX12_nextToken [.ref (ga G 273)] m13 (fun m14 => K 0 m14)))) ∧ ((r2 = 7) → ∀ m15 : Mem, m15 = wI m1 273 19 0 → Evi G (d + 2) mX12_opened [.ref (ga G 273), .int 7] m15 (fun r17 m16 => K r17 m16)))) : Evi G (d + 3) mX12_behindOne [.ref (ga G 273)] m K := by
  refine Ev.go [.ref (ga G 273), uu] (by decide) (Nat.le_of_ble_eq_true rfl) rfl ?_
  refine go_aload_n dX12_behindOne_0 rfl ?_
  refine go_callV mX12_betweenOf dX12_behindOne_1 lm_X12_219 okX12_betweenOf isX12_betweenOf sh_273 rfl (As := []) (S := []) rfl rfl (Nat.le_of_ble_eq_true rfl) hF (k_i (fun r2 m1 hF => ?_))
  refine go_istore_n (L' := [.ref (ga G 273), .int r2]) dX12_behindOne_4 (Nat.le_of_ble_eq_true rfl) rfl ?_
  refine go_iload_n dX12_behindOne_5 rfl ?_
  refine go_bipush (v := 7) dX12_behindOne_6 (by decide) ?_
  refine go_icmp_ne 23 dX12_behindOne_8 rfl ⟨fun hc => ?_, fun hc => ?_⟩
  · have hF := hF.1 hc
    refine go_iload_n dX12_behindOne_23 rfl ?_
    refine go_if_lt 66 dX12_behindOne_24 rfl ⟨fun hc => ?_, fun hc => ?_⟩
    · have hF := hF.1 hc
      refine go_aload_n dX12_behindOne_66 rfl ?_
      refine go_callV mX12_isOpen dX12_behindOne_67 lm_X12_184 okX12_isOpen isX12_isOpen sh_273 rfl (As := []) (S := []) rfl rfl (Nat.le_of_ble_eq_true rfl) hF (k_i (fun r4 m3 hF => ?_))
      refine go_if_eq 82 dX12_behindOne_70 rfl ⟨fun hc => ?_, fun hc => ?_⟩
      · have hF := hF.1 hc
        refine go_iconst (v := -1) dX12_behindOne_82 (by decide) ?_
        exact go_iret (S := []) dX12_behindOne_83 rfl ⟨_, rfl, hF⟩
      · have hF := hF.2 hc
        refine go_aload_n dX12_behindOne_73 rfl ?_
        refine go_getI (k := 10) dX12_behindOne_74 sh_273 rfl inX12 (Nat.le_of_ble_eq_true rfl) lf_X12_113 rfl ?_
        refine go_bipush (v := 41) dX12_behindOne_77 (by decide) ?_
        refine go_icmp_eq 84 dX12_behindOne_79 rfl ⟨fun hc => ?_, fun hc => ?_⟩
        · have hF := hF.1 hc
          refine go_aload_n dX12_behindOne_84 rfl ?_
          refine go_iconst (v := 1) dX12_behindOne_85 (by decide) ?_
          refine go_callV mX12_settle dX12_behindOne_86 lm_X12_200 okX12_settle isX12_settle sh_273 rfl (As := [.int 1]) (S := []) rfl rfl (Nat.le_of_ble_eq_true rfl) hF (k_v (fun m5 hF => ?_))
          refine go_aload_n dX12_behindOne_89 rfl ?_
          refine go_dup dX12_behindOne_90 rfl ?_
          refine go_getI (k := 17) dX12_behindOne_91 sh_273 rfl inX12 (Nat.le_of_ble_eq_true rfl) lf_X12_171 rfl ?_
          refine go_iconst (v := 1) dX12_behindOne_94 (by decide) ?_
          refine go_isub dX12_behindOne_95 ?_
          refine go_putI (k := 17) dX12_behindOne_96 sh_273 rfl inX12 (Nat.le_of_ble_eq_true rfl) lf_X12_171 tyX12 tyX12_ok nmX12 rfl rfl (by decide +kernel) ?_
          obtain ⟨m6, em6⟩ : ∃ z : Mem, z = wI m5 273 17 ((m5.1 273 17) - 1) := ⟨_, rfl⟩
          rw [← em6]
          have hF := hF m6 em6
          refine go_aload_n dX12_behindOne_99 rfl ?_
          refine go_dup dX12_behindOne_100 rfl ?_
          refine go_getI (k := 18) dX12_behindOne_101 sh_273 rfl inX12 (Nat.le_of_ble_eq_true rfl) lf_X12_181 rfl ?_
          refine go_iconst (v := 1) dX12_behindOne_104 (by decide) ?_
          refine go_isub dX12_behindOne_105 ?_
          refine go_putI (k := 18) dX12_behindOne_106 sh_273 rfl inX12 (Nat.le_of_ble_eq_true rfl) lf_X12_181 tyX12 tyX12_ok nmX12 rfl rfl (by decide +kernel) ?_
          obtain ⟨m7, em7⟩ : ∃ z : Mem, z = wI m6 273 18 ((m6.1 273 18) - 1) := ⟨_, rfl⟩
          rw [← em7]
          have hF := hF m7 em7
          refine go_aload_n dX12_behindOne_109 rfl ?_
          refine go_callV mX12_nextToken dX12_behindOne_110 lm_X12_187 okX12_nextToken isX12_nextToken sh_273 rfl (As := []) (S := []) rfl rfl (Nat.le_of_ble_eq_true rfl) hF (k_v (fun m8 hF => ?_))
          refine go_aload_n dX12_behindOne_113 rfl ?_
          refine go_bipush (v := 8) dX12_behindOne_114 (by decide) ?_
          refine go_callV mX12_settle dX12_behindOne_116 lm_X12_200 okX12_settle isX12_settle sh_273 rfl (As := [.int 8]) (S := []) rfl rfl (Nat.le_of_ble_eq_true rfl) hF (k_v (fun m9 hF => ?_))
          refine go_iconst (v := 0) dX12_behindOne_119 (by decide) ?_
          exact go_iret (S := []) dX12_behindOne_120 rfl ⟨_, rfl, hF⟩
        · have hF := hF.2 hc
          refine go_iconst (v := -1) dX12_behindOne_82 (by decide) ?_
          exact go_iret (S := []) dX12_behindOne_83 rfl ⟨_, rfl, hF⟩
    · have hF := hF.2 hc
      refine go_aload_n dX12_behindOne_27 rfl ?_
      refine go_iload_n dX12_behindOne_28 rfl ?_
      refine go_callS mX12_rank dX12_behindOne_29 lm_X12_174 okX12_rank isX12_rank (As := [.int r2]) (S := [.ref (ga G 273)]) rfl rfl (Nat.le_of_ble_eq_true rfl) (eX12_rank G _ r2 m1 (fun r m' => r = rankV r2 ∧ m1 = m') ⟨rfl, rfl⟩) (k_i (fun r m' hr => ?_))
      obtain ⟨hr1, hr2⟩ := hr
      subst hr1
      subst hr2
      refine go_callV mX12_settle dX12_behindOne_32 lm_X12_200 okX12_settle isX12_settle sh_273 rfl (As := [.int (rankV r2)]) (S := []) rfl rfl (Nat.le_of_ble_eq_true rfl) hF (k_v (fun m10 hF => ?_))
      refine go_aload_n dX12_behindOne_35 rfl ?_
      refine go_getR (k := 16) (r := 279) dX12_behindOne_36 sh_273 rfl inX12 (Nat.le_of_ble_eq_true rfl) lf_X12_32 rfl rfl ?_
      refine go_aload_n dX12_behindOne_39 rfl ?_
      refine go_getI (k := 17) dX12_behindOne_40 sh_273 rfl inX12 (Nat.le_of_ble_eq_true rfl) lf_X12_171 rfl ?_
      refine go_iload_n dX12_behindOne_43 rfl ?_
      obtain ⟨hi, hF⟩ := hF
      refine go_iast dX12_behindOne_44 sh_279 hi ?_
      obtain ⟨m11, em11⟩ : ∃ z : Mem, z = wI m10 279 (m10.1 273 17).toNatClampNeg r2 := ⟨_, rfl⟩
      rw [← em11]
      have hF := hF m11 em11
      refine go_aload_n dX12_behindOne_45 rfl ?_
      refine go_dup dX12_behindOne_46 rfl ?_
      refine go_getI (k := 17) dX12_behindOne_47 sh_273 rfl inX12 (Nat.le_of_ble_eq_true rfl) lf_X12_171 rfl ?_
      refine go_iconst (v := 1) dX12_behindOne_50 (by decide) ?_
      refine go_iadd dX12_behindOne_51 ?_
      refine go_putI (k := 17) dX12_behindOne_52 sh_273 rfl inX12 (Nat.le_of_ble_eq_true rfl) lf_X12_171 tyX12 tyX12_ok nmX12 rfl rfl (by decide +kernel) ?_
      obtain ⟨m12, em12⟩ : ∃ z : Mem, z = wI m11 273 17 ((m11.1 273 17) + 1) := ⟨_, rfl⟩
      rw [← em12]
      have hF := hF m12 em12
      refine go_aload_n dX12_behindOne_55 rfl ?_
      refine go_iconst (v := 0) dX12_behindOne_56 (by decide) ?_
      refine go_putZ (k := 19) dX12_behindOne_57 sh_273 rfl inX12 (Nat.le_of_ble_eq_true rfl) lf_X12_196 tyX12 tyX12_ok nmX12 rfl rfl (by decide +kernel) (by decide) ?_
      obtain ⟨m13, em13⟩ : ∃ z : Mem, z = wI m12 273 19 0 := ⟨_, rfl⟩
      rw [← em13]
      have hF := hF m13 em13
      refine go_aload_n dX12_behindOne_60 rfl ?_
      refine go_callV mX12_nextToken dX12_behindOne_61 lm_X12_187 okX12_nextToken isX12_nextToken sh_273 rfl (As := []) (S := []) rfl rfl (Nat.le_of_ble_eq_true rfl) hF (k_v (fun m14 hF => ?_))
      refine go_iconst (v := 0) dX12_behindOne_64 (by decide) ?_
      exact go_iret (S := []) dX12_behindOne_65 rfl ⟨_, rfl, hF⟩
  · have hF := hF.2 hc
    refine go_aload_n dX12_behindOne_11 rfl ?_
    refine go_iconst (v := 0) dX12_behindOne_12 (by decide) ?_
    refine go_putZ (k := 19) dX12_behindOne_13 sh_273 rfl inX12 (Nat.le_of_ble_eq_true rfl) lf_X12_196 tyX12 tyX12_ok nmX12 rfl rfl (by decide +kernel) (by decide) ?_
    obtain ⟨m15, em15⟩ : ∃ z : Mem, z = wI m1 273 19 0 := ⟨_, rfl⟩
    rw [← em15]
    have hF := hF m15 em15
    refine go_aload_n dX12_behindOne_16 rfl ?_
    refine go_bipush (v := 7) dX12_behindOne_17 (by decide) ?_
    refine go_callV mX12_opened dX12_behindOne_19 lm_X12_203 okX12_opened isX12_opened sh_273 rfl (As := [.int 7]) (S := []) rfl rfl (Nat.le_of_ble_eq_true rfl) hF (k_i (fun r17 m16 hF => ?_))
    exact go_iret (S := []) dX12_behindOne_22 rfl ⟨_, rfl, hF⟩
theorem vX12_either (G : GP) (d : Nat)  (m : Mem) (K : Int32 → Mem → Prop) (hF : ∀ m1 : Mem, m1 = wI m 273 17 0 → ∀ m2 : Mem, m2 = wI m1 273 18 0 → ∀ m3 : Mem, m3 = wI m2 273 19 0 → Gw G (d + 7) mX12_either 15 [.ref (ga G 273), uu] [] m3 (Qi K)) : Evi G (d + 7) mX12_either [.ref (ga G 273)] m K := by
  refine Ev.go [.ref (ga G 273), uu] (by decide) (Nat.le_of_ble_eq_true rfl) rfl ?_
  refine go_aload_n dX12_either_0 rfl ?_
  refine go_iconst (v := 0) dX12_either_1 (by decide) ?_
  refine go_putI (k := 17) dX12_either_2 sh_273 rfl inX12 (Nat.le_of_ble_eq_true rfl) lf_X12_171 tyX12 tyX12_ok nmX12 rfl rfl (by decide +kernel) ?_
  obtain ⟨m1, em1⟩ : ∃ z : Mem, z = wI m 273 17 0 := ⟨_, rfl⟩
  rw [← em1]
  have hF := hF m1 em1
  refine go_aload_n dX12_either_5 rfl ?_
  refine go_iconst (v := 0) dX12_either_6 (by decide) ?_
  refine go_putI (k := 18) dX12_either_7 sh_273 rfl inX12 (Nat.le_of_ble_eq_true rfl) lf_X12_181 tyX12 tyX12_ok nmX12 rfl rfl (by decide +kernel) ?_
  obtain ⟨m2, em2⟩ : ∃ z : Mem, z = wI m1 273 18 0 := ⟨_, rfl⟩
  rw [← em2]
  have hF := hF m2 em2
  refine go_aload_n dX12_either_10 rfl ?_
  refine go_iconst (v := 0) dX12_either_11 (by decide) ?_
  refine go_putZ (k := 19) dX12_either_12 sh_273 rfl inX12 (Nat.le_of_ble_eq_true rfl) lf_X12_196 tyX12 tyX12_ok nmX12 rfl rfl (by decide +kernel) (by decide) ?_
  obtain ⟨m3, em3⟩ : ∃ z : Mem, z = wI m2 273 19 0 := ⟨_, rfl⟩
  rw [← em3]
  have hF := hF m3 em3
  exact hF
theorem vX12_either_15 (G : GP) (d : Nat) (u1 : Value) (m : Mem) (K : Int32 → Mem → Prop) (hF : (((m.1 273 19) = 0) → Evi G (d + 6) mX12_beginOne [.ref (ga G 273)] m (fun r5 m4 => ((r5 ≤ 0) → ((¬ r5 = 0) → Evi G (d + 6) mX12_isOpen [.ref (ga G 273)] m4 (fun r7 m6 => ((¬ r7 = 0) → K 1 m6) ∧ ((r7 = 0) → Evi G (d + 6) mX12_isCompared [.ref (ga G 273)] m6 (fun r9 m8 => ((¬ r9 = 0) → Evv G (d + 6) mX12_settle [.ref (ga G 273), .int 1] m8 (fun m10 => K 0 m10)) ∧ ((r9 = 0) → K 1 m8))))) ∧ ((r5 = 0) → Gw G (d + 7) mX12_either 15 [.ref (ga G 273), .int r5] [] m4 (Qi K))) ∧ ((¬ r5 ≤ 0) → K r5 m4))) ∧ ((¬ (m.1 273 19) = 0) → Evi G (d + 6) mX12_behindOne [.ref (ga G 273)] m (fun r12 m11 => ((r12 ≤ 0) → ((¬ r12 = 0) → Evi G (d + 6) mX12_isOpen [.ref (ga G 273)] m11 (fun r14 m13 => ((¬ r14 = 0) → K 1 m13) ∧ ((r14 = 0) → Evi G (d + 6) mX12_isCompared [.ref (ga G 273)] m13 (fun r16 m15 => ((¬ r16 = 0) → Evv G (d + 6) mX12_settle [.ref (ga G 273), .int 1] m15 (fun m17 => K 0 m17)) ∧ ((r16 = 0) → K 1 m15))))) ∧ ((r12 = 0) → Gw G (d + 7) mX12_either 15 [.ref (ga G 273), .int r12] [] m11 (Qi K))) ∧ ((¬ r12 ≤ 0) → K r12 m11)))) : Gw G (d + 7) mX12_either 15 [.ref (ga G 273), u1] [] m (Qi K) := by
  refine Gw.weak (L' := [.ref (ga G 273), uu]) ⟨Or.inl rfl, Or.inr rfl, trivial⟩ ?_
  refine go_aload_n dX12_either_15 rfl ?_
  refine go_getI (k := 19) dX12_either_16 sh_273 rfl inX12 (Nat.le_of_ble_eq_true rfl) lf_X12_196 rfl ?_
  refine go_if_eq 29 dX12_either_19 rfl ⟨fun hc => ?_, fun hc => ?_⟩
  · have hF := hF.1 hc
    refine go_aload_n dX12_either_29 rfl ?_
    refine go_callV mX12_beginOne dX12_either_30 lm_X12_225 okX12_beginOne isX12_beginOne sh_273 rfl (As := []) (S := []) rfl rfl (Nat.le_of_ble_eq_true rfl) hF (k_i (fun r5 m4 hF => ?_))
    refine go_istore_n (L' := [.ref (ga G 273), .int r5]) dX12_either_33 (Nat.le_of_ble_eq_true rfl) rfl ?_
    refine go_iload_n dX12_either_34 rfl ?_
    refine go_if_le 40 dX12_either_35 rfl ⟨fun hc => ?_, fun hc => ?_⟩
    · have hF := hF.1 hc
      refine go_iload_n dX12_either_40 rfl ?_
      refine go_if_ne 47 dX12_either_41 rfl ⟨fun hc => ?_, fun hc => ?_⟩
      · have hF := hF.1 hc
        refine go_aload_n dX12_either_47 rfl ?_
        refine go_callV mX12_isOpen dX12_either_48 lm_X12_184 okX12_isOpen isX12_isOpen sh_273 rfl (As := []) (S := []) rfl rfl (Nat.le_of_ble_eq_true rfl) hF (k_i (fun r7 m6 hF => ?_))
        refine go_if_ne 61 dX12_either_51 rfl ⟨fun hc => ?_, fun hc => ?_⟩
        · have hF := hF.1 hc
          refine go_iconst (v := 1) dX12_either_61 (by decide) ?_
          exact go_iret (S := []) dX12_either_62 rfl ⟨_, rfl, hF⟩
        · have hF := hF.2 hc
          refine go_aload_n dX12_either_54 rfl ?_
          refine go_callV mX12_isCompared dX12_either_55 lm_X12_213 okX12_isCompared isX12_isCompared sh_273 rfl (As := []) (S := []) rfl rfl (Nat.le_of_ble_eq_true rfl) hF (k_i (fun r9 m8 hF => ?_))
          refine go_if_ne 63 dX12_either_58 rfl ⟨fun hc => ?_, fun hc => ?_⟩
          · have hF := hF.1 hc
            refine go_aload_n dX12_either_63 rfl ?_
            refine go_iconst (v := 1) dX12_either_64 (by decide) ?_
            refine go_callV mX12_settle dX12_either_65 lm_X12_200 okX12_settle isX12_settle sh_273 rfl (As := [.int 1]) (S := []) rfl rfl (Nat.le_of_ble_eq_true rfl) hF (k_v (fun m10 hF => ?_))
            refine go_iconst (v := 0) dX12_either_68 (by decide) ?_
            exact go_iret (S := []) dX12_either_69 rfl ⟨_, rfl, hF⟩
          · have hF := hF.2 hc
            refine go_iconst (v := 1) dX12_either_61 (by decide) ?_
            exact go_iret (S := []) dX12_either_62 rfl ⟨_, rfl, hF⟩
      · have hF := hF.2 hc
        refine go_goto 15 dX12_either_44 rfl ?_
        exact hF
    · have hF := hF.2 hc
      refine go_iload_n dX12_either_38 rfl ?_
      exact go_iret (S := []) dX12_either_39 rfl ⟨_, rfl, hF⟩
  · have hF := hF.2 hc
    refine go_aload_n dX12_either_22 rfl ?_
    refine go_callV mX12_behindOne dX12_either_23 lm_X12_222 okX12_behindOne isX12_behindOne sh_273 rfl (As := []) (S := []) rfl rfl (Nat.le_of_ble_eq_true rfl) hF (k_i (fun r12 m11 hF => ?_))
    refine go_goto 33 dX12_either_26 rfl ?_
    refine go_istore_n (L' := [.ref (ga G 273), .int r12]) dX12_either_33 (Nat.le_of_ble_eq_true rfl) rfl ?_
    refine go_iload_n dX12_either_34 rfl ?_
    refine go_if_le 40 dX12_either_35 rfl ⟨fun hc => ?_, fun hc => ?_⟩
    · have hF := hF.1 hc
      refine go_iload_n dX12_either_40 rfl ?_
      refine go_if_ne 47 dX12_either_41 rfl ⟨fun hc => ?_, fun hc => ?_⟩
      · have hF := hF.1 hc
        refine go_aload_n dX12_either_47 rfl ?_
        refine go_callV mX12_isOpen dX12_either_48 lm_X12_184 okX12_isOpen isX12_isOpen sh_273 rfl (As := []) (S := []) rfl rfl (Nat.le_of_ble_eq_true rfl) hF (k_i (fun r14 m13 hF => ?_))
        refine go_if_ne 61 dX12_either_51 rfl ⟨fun hc => ?_, fun hc => ?_⟩
        · have hF := hF.1 hc
          refine go_iconst (v := 1) dX12_either_61 (by decide) ?_
          exact go_iret (S := []) dX12_either_62 rfl ⟨_, rfl, hF⟩
        · have hF := hF.2 hc
          refine go_aload_n dX12_either_54 rfl ?_
          refine go_callV mX12_isCompared dX12_either_55 lm_X12_213 okX12_isCompared isX12_isCompared sh_273 rfl (As := []) (S := []) rfl rfl (Nat.le_of_ble_eq_true rfl) hF (k_i (fun r16 m15 hF => ?_))
          refine go_if_ne 63 dX12_either_58 rfl ⟨fun hc => ?_, fun hc => ?_⟩
          · have hF := hF.1 hc
            refine go_aload_n dX12_either_63 rfl ?_
            refine go_iconst (v := 1) dX12_either_64 (by decide) ?_
            refine go_callV mX12_settle dX12_either_65 lm_X12_200 okX12_settle isX12_settle sh_273 rfl (As := [.int 1]) (S := []) rfl rfl (Nat.le_of_ble_eq_true rfl) hF (k_v (fun m17 hF => ?_))
            refine go_iconst (v := 0) dX12_either_68 (by decide) ?_
            exact go_iret (S := []) dX12_either_69 rfl ⟨_, rfl, hF⟩
          · have hF := hF.2 hc
            refine go_iconst (v := 1) dX12_either_61 (by decide) ?_
            exact go_iret (S := []) dX12_either_62 rfl ⟨_, rfl, hF⟩
      · have hF := hF.2 hc
        refine go_goto 15 dX12_either_44 rfl ?_
        exact hF
    · have hF := hF.2 hc
      refine go_iload_n dX12_either_38 rfl ?_
      exact go_iret (S := []) dX12_either_39 rfl ⟨_, rfl, hF⟩
theorem vX12_figure (G : GP) (d : Nat) (a0 : Int32) (a1 : Int32) (a2 : Int32) (m : Mem) (K : Int32 → Mem → Prop) (hF : (((m.1 273 10) = 1) → ((a1 ≤ (m.1 273 11) ∧ (m.1 273 11) ≤ a2) → vp_in a0 3204 ∧ ∀ m1 : Mem, m1 = wI m 276 a0.toNatClampNeg (m.1 273 11) → Evv G (d + 1) mX12_nextToken [.ref (ga G 273)] m1 (fun m2 => K 0 m2)) ∧ (¬ (a1 ≤ (m.1 273 11) ∧ (m.1 273 11) ≤ a2) → K 2 m)) ∧ ((¬ (m.1 273 10) = 1) → K 1 m)) : Evi G (d + 2) mX12_figure [.ref (ga G 273), .int a0, .int a1, .int a2] m K := by
  refine Ev.go [.ref (ga G 273), .int a0, .int a1, .int a2] (by decide) (Nat.le_of_ble_eq_true rfl) rfl ?_
  refine go_aload_n dX12_figure_0 rfl ?_
  refine go_getI (k := 10) dX12_figure_1 sh_273 rfl inX12 (Nat.le_of_ble_eq_true rfl) lf_X12_113 rfl ?_
  refine go_iconst (v := 1) dX12_figure_4 (by decide) ?_
  refine go_icmp_eq 10 dX12_figure_5 rfl ⟨fun hc => ?_, fun hc => ?_⟩
  · have hF := hF.1 hc
    refine go_aload_n dX12_figure_10 rfl ?_
    refine go_getI (k := 11) dX12_figure_11 sh_273 rfl inX12 (Nat.le_of_ble_eq_true rfl) lf_X12_119 rfl ?_
    refine go_iload_n dX12_figure_14 rfl ?_
    refine go_iload_n dX12_figure_15 rfl ?_
    rcases Classical.em (a1 ≤ (m.1 273 11) ∧ (m.1 273 11) ≤ a2) with hp | hp
    · have hF := hF.1 hp
      refine go_callS mX12_isIn dX12_figure_16 lm_X12_80 okX12_isIn isX12_isIn (As := [.int (m.1 273 11), .int a1, .int a2]) (S := []) rfl rfl (Nat.le_of_ble_eq_true rfl) (eX12_isIn G _ (m.1 273 11) a1 a2 m (fun r m' => r = 1 ∧ m = m') ⟨fun _ => ⟨rfl, rfl⟩, fun q => absurd hp q⟩) (k_i (fun r m' hr => ?_))
      obtain ⟨hr1, hr2⟩ := hr
      subst hr1
      subst hr2
      refine go_if_ne 24 dX12_figure_19 rfl ⟨fun _ => ?_, fun hc => absurd hc (by decide)⟩
      refine go_aload_n dX12_figure_24 rfl ?_
      refine go_getR (k := 2) (r := 276) dX12_figure_25 sh_273 rfl inX12 (Nat.le_of_ble_eq_true rfl) lf_X12_16 rfl rfl ?_
      refine go_iload_n dX12_figure_28 rfl ?_
      refine go_aload_n dX12_figure_29 rfl ?_
      refine go_getI (k := 11) dX12_figure_30 sh_273 rfl inX12 (Nat.le_of_ble_eq_true rfl) lf_X12_119 rfl ?_
      obtain ⟨hi, hF⟩ := hF
      refine go_iast dX12_figure_33 sh_276 hi ?_
      obtain ⟨m1, em1⟩ : ∃ z : Mem, z = wI m 276 a0.toNatClampNeg (m.1 273 11) := ⟨_, rfl⟩
      rw [← em1]
      have hF := hF m1 em1
      refine go_aload_n dX12_figure_34 rfl ?_
      refine go_callV mX12_nextToken dX12_figure_35 lm_X12_187 okX12_nextToken isX12_nextToken sh_273 rfl (As := []) (S := []) rfl rfl (Nat.le_of_ble_eq_true rfl) hF (k_v (fun m2 hF => ?_))
      refine go_iconst (v := 0) dX12_figure_38 (by decide) ?_
      exact go_iret (S := []) dX12_figure_39 rfl ⟨_, rfl, hF⟩
    · have hF := hF.2 hp
      refine go_callS mX12_isIn dX12_figure_16 lm_X12_80 okX12_isIn isX12_isIn (As := [.int (m.1 273 11), .int a1, .int a2]) (S := []) rfl rfl (Nat.le_of_ble_eq_true rfl) (eX12_isIn G _ (m.1 273 11) a1 a2 m (fun r m' => r = 0 ∧ m = m') ⟨fun q => absurd q hp, fun _ => ⟨rfl, rfl⟩⟩) (k_i (fun r m' hr => ?_))
      obtain ⟨hr1, hr2⟩ := hr
      subst hr1
      subst hr2
      refine go_if_ne 24 dX12_figure_19 rfl ⟨fun hc => absurd hc (by decide), fun _ => ?_⟩
      refine go_iconst (v := 2) dX12_figure_22 (by decide) ?_
      exact go_iret (S := []) dX12_figure_23 rfl ⟨_, rfl, hF⟩
  · have hF := hF.2 hc
    refine go_iconst (v := 1) dX12_figure_8 (by decide) ?_
    exact go_iret (S := []) dX12_figure_9 rfl ⟨_, rfl, hF⟩
theorem vX12_worded (G : GP) (d : Nat) (a0 : Int64) (a1 : Int32) (a2 : Int32) (a3 : Int32) (m : Mem) (K : Int32 → Mem → Prop) (hF : ((m.1 273 10 = 2 ∧ m.2.1 273 12 = a0) → Evv G (d + 2) mX12_nextToken [.ref (ga G 273)] m (fun m1 => Evi G (d + 2) mX12_figure [.ref (ga G 273), .int a1, .int a2, .int a3] m1 (fun r3 m2 => K r3 m2))) ∧ (¬ (m.1 273 10 = 2 ∧ m.2.1 273 12 = a0) → K 1 m)) : Evi G (d + 3) mX12_worded [.ref (ga G 273), .long a0, .int a1, .int a2, .int a3] m K := by
  refine Ev.go [.ref (ga G 273), .long a0, uu, .int a1, .int a2, .int a3] (by decide) (Nat.le_of_ble_eq_true rfl) rfl ?_
  refine go_aload_n dX12_worded_0 rfl ?_
  refine go_lload_n dX12_worded_1 rfl ?_
  rcases Classical.em (m.1 273 10 = 2 ∧ m.2.1 273 12 = a0) with hp | hp
  · have hF := hF.1 hp
    refine go_callV mX12_isWord dX12_worded_2 lm_X12_206 okX12_isWord isX12_isWord sh_273 rfl (As := [.long a0]) (S := []) rfl rfl (Nat.le_of_ble_eq_true rfl) (eX12_isWord G _ a0 m (fun r m' => r = 1 ∧ m = m') ⟨fun _ => ⟨rfl, rfl⟩, fun q => absurd hp q⟩) (k_i (fun r m' hr => ?_))
    obtain ⟨hr1, hr2⟩ := hr
    subst hr1
    subst hr2
    refine go_if_ne 10 dX12_worded_5 rfl ⟨fun _ => ?_, fun hc => absurd hc (by decide)⟩
    refine go_aload_n dX12_worded_10 rfl ?_
    refine go_callV mX12_nextToken dX12_worded_11 lm_X12_187 okX12_nextToken isX12_nextToken sh_273 rfl (As := []) (S := []) rfl rfl (Nat.le_of_ble_eq_true rfl) hF (k_v (fun m1 hF => ?_))
    refine go_aload_n dX12_worded_14 rfl ?_
    refine go_iload_n dX12_worded_15 rfl ?_
    refine go_iload dX12_worded_16 rfl ?_
    refine go_iload dX12_worded_18 rfl ?_
    refine go_callV mX12_figure dX12_worded_20 lm_X12_228 okX12_figure isX12_figure sh_273 rfl (As := [.int a1, .int a2, .int a3]) (S := []) rfl rfl (Nat.le_of_ble_eq_true rfl) hF (k_i (fun r3 m2 hF => ?_))
    exact go_iret (S := []) dX12_worded_23 rfl ⟨_, rfl, hF⟩
  · have hF := hF.2 hp
    refine go_callV mX12_isWord dX12_worded_2 lm_X12_206 okX12_isWord isX12_isWord sh_273 rfl (As := [.long a0]) (S := []) rfl rfl (Nat.le_of_ble_eq_true rfl) (eX12_isWord G _ a0 m (fun r m' => r = 0 ∧ m = m') ⟨fun q => absurd q hp, fun _ => ⟨rfl, rfl⟩⟩) (k_i (fun r m' hr => ?_))
    obtain ⟨hr1, hr2⟩ := hr
    subst hr1
    subst hr2
    refine go_if_ne 10 dX12_worded_5 rfl ⟨fun hc => absurd hc (by decide), fun _ => ?_⟩
    refine go_iconst (v := 1) dX12_worded_8 (by decide) ?_
    exact go_iret (S := []) dX12_worded_9 rfl ⟨_, rfl, hF⟩
theorem vX12_lawClause (G : GP) (d : Nat) (a0 : Int32) (m : Mem) (K : Int32 → Mem → Prop) (hF : vp_in (a0 + 1) 3204 ∧ ∀ m1 : Mem, m1 = wI m 276 (a0 + 1).toNatClampNeg (m.1 273 14) → Evi G (d + 7) mX12_either [.ref (ga G 273)] m1 (fun r3 m2 => vp_in (a0 + 2) 3204 ∧ ∀ m4 : Mem, m4 = wI m2 276 (a0 + 2).toNatClampNeg (m2.1 273 14) → K r3 m4)) : Evi G (d + 8) mX12_lawClause [.ref (ga G 273), .int a0] m K := by
  refine Ev.go [.ref (ga G 273), .int a0, uu] (by decide) (Nat.le_of_ble_eq_true rfl) rfl ?_
  refine go_aload_n dX12_lawClause_0 rfl ?_
  refine go_getR (k := 2) (r := 276) dX12_lawClause_1 sh_273 rfl inX12 (Nat.le_of_ble_eq_true rfl) lf_X12_16 rfl rfl ?_
  refine go_iload_n dX12_lawClause_4 rfl ?_
  refine go_iconst (v := 1) dX12_lawClause_5 (by decide) ?_
  refine go_iadd dX12_lawClause_6 ?_
  refine go_aload_n dX12_lawClause_7 rfl ?_
  refine go_getI (k := 14) dX12_lawClause_8 sh_273 rfl inX12 (Nat.le_of_ble_eq_true rfl) lf_X12_154 rfl ?_
  obtain ⟨hi, hF⟩ := hF
  refine go_iast dX12_lawClause_11 sh_276 hi ?_
  obtain ⟨m1, em1⟩ : ∃ z : Mem, z = wI m 276 (a0 + 1).toNatClampNeg (m.1 273 14) := ⟨_, rfl⟩
  rw [← em1]
  have hF := hF m1 em1
  refine go_aload_n dX12_lawClause_12 rfl ?_
  refine go_callV mX12_either dX12_lawClause_13 lm_X12_232 okX12_either isX12_either sh_273 rfl (As := []) (S := []) rfl rfl (Nat.le_of_ble_eq_true rfl) hF (k_i (fun r3 m2 hF => ?_))
  refine go_istore_n (L' := [.ref (ga G 273), .int a0, .int r3]) dX12_lawClause_16 (Nat.le_of_ble_eq_true rfl) rfl ?_
  refine go_aload_n dX12_lawClause_17 rfl ?_
  refine go_getR (k := 2) (r := 276) dX12_lawClause_18 sh_273 rfl inX12 (Nat.le_of_ble_eq_true rfl) lf_X12_16 rfl rfl ?_
  refine go_iload_n dX12_lawClause_21 rfl ?_
  refine go_iconst (v := 2) dX12_lawClause_22 (by decide) ?_
  refine go_iadd dX12_lawClause_23 ?_
  refine go_aload_n dX12_lawClause_24 rfl ?_
  refine go_getI (k := 14) dX12_lawClause_25 sh_273 rfl inX12 (Nat.le_of_ble_eq_true rfl) lf_X12_154 rfl ?_
  obtain ⟨hi, hF⟩ := hF
  refine go_iast dX12_lawClause_28 sh_276 hi ?_
  obtain ⟨m4, em4⟩ : ∃ z : Mem, z = wI m2 276 (a0 + 2).toNatClampNeg (m2.1 273 14) := ⟨_, rfl⟩
  rw [← em4]
  have hF := hF m4 em4
  refine go_iload_n dX12_lawClause_29 rfl ?_
  exact go_iret (S := []) dX12_lawClause_30 rfl ⟨_, rfl, hF⟩
theorem vX12_bellClause (G : GP) (d : Nat) (a0 : Int32) (m : Mem) (K : Int32 → Mem → Prop) (hF : Evi G (d + 3) mX12_figure [.ref (ga G 273), .int (a0 + 1), .int 1, .int 9] m (fun r2 m1 => ((¬ r2 = 0) → ((r2 = 0) → Evi G (d + 3) mX12_worded [.ref (ga G 273), .long (w3V 109 101 110), .int (a0 + 3), .int 1, .int 9] m1 (fun r4 m3 => K r4 m3)) ∧ ((¬ r2 = 0) → K r2 m1)) ∧ ((r2 = 0) → Evi G (d + 3) mX12_worded [.ref (ga G 273), .long (w5V 112 105 116 99 104), .int (a0 + 2), .int 0, .int 9] m1 (fun r6 m5 => ((r6 = 0) → Evi G (d + 3) mX12_worded [.ref (ga G 273), .long (w3V 109 101 110), .int (a0 + 3), .int 1, .int 9] m5 (fun r8 m7 => K r8 m7)) ∧ ((¬ r6 = 0) → K r6 m5))))) : Evi G (d + 4) mX12_bellClause [.ref (ga G 273), .int a0] m K := by
  refine Ev.go [.ref (ga G 273), .int a0, uu] (by decide) (Nat.le_of_ble_eq_true rfl) rfl ?_
  refine go_aload_n dX12_bellClause_0 rfl ?_
  refine go_iload_n dX12_bellClause_1 rfl ?_
  refine go_iconst (v := 1) dX12_bellClause_2 (by decide) ?_
  refine go_iadd dX12_bellClause_3 ?_
  refine go_iconst (v := 1) dX12_bellClause_4 (by decide) ?_
  refine go_bipush (v := 9) dX12_bellClause_5 (by decide) ?_
  refine go_callV mX12_figure dX12_bellClause_7 lm_X12_228 okX12_figure isX12_figure sh_273 rfl (As := [.int (a0 + 1), .int 1, .int 9]) (S := []) rfl rfl (Nat.le_of_ble_eq_true rfl) hF (k_i (fun r2 m1 hF => ?_))
  refine go_istore_n (L' := [.ref (ga G 273), .int a0, .int r2]) dX12_bellClause_10 (Nat.le_of_ble_eq_true rfl) rfl ?_
  refine go_iload_n dX12_bellClause_11 rfl ?_
  refine go_if_ne 39 dX12_bellClause_12 rfl ⟨fun hc => ?_, fun hc => ?_⟩
  · have hF := hF.1 hc
    refine go_iload_n dX12_bellClause_39 rfl ?_
    refine go_if_eq 47 dX12_bellClause_40 rfl ⟨fun hc => ?_, fun hc => ?_⟩
    · have hF := hF.1 hc
      refine go_aload_n dX12_bellClause_47 rfl ?_
      refine go_bipush (v := 109) dX12_bellClause_48 (by decide) ?_
      refine go_bipush (v := 101) dX12_bellClause_50 (by decide) ?_
      refine go_bipush (v := 110) dX12_bellClause_52 (by decide) ?_
      refine go_callS mX12_w3 dX12_bellClause_54 lm_X12_139 okX12_w3 isX12_w3 (As := [.int 109, .int 101, .int 110]) (S := [.ref (ga G 273)]) rfl rfl (Nat.le_of_ble_eq_true rfl) (eX12_w3 G _ 109 101 110 m1 (fun r m' => r = w3V 109 101 110 ∧ m1 = m') ⟨rfl, rfl⟩) (k_l (fun r m' hr => ?_))
      obtain ⟨hr1, hr2⟩ := hr
      subst hr1
      subst hr2
      refine go_iload_n dX12_bellClause_57 rfl ?_
      refine go_iconst (v := 3) dX12_bellClause_58 (by decide) ?_
      refine go_iadd dX12_bellClause_59 ?_
      refine go_iconst (v := 1) dX12_bellClause_60 (by decide) ?_
      refine go_bipush (v := 9) dX12_bellClause_61 (by decide) ?_
      refine go_callV mX12_worded dX12_bellClause_63 lm_X12_235 okX12_worded isX12_worded sh_273 rfl (As := [.long (w3V 109 101 110), .int (a0 + 3), .int 1, .int 9]) (S := []) rfl rfl (Nat.le_of_ble_eq_true rfl) hF (k_i (fun r4 m3 hF => ?_))
      exact go_iret (S := []) dX12_bellClause_66 rfl ⟨_, rfl, hF⟩
    · have hF := hF.2 hc
      refine go_iload_n dX12_bellClause_43 rfl ?_
      refine go_goto 66 dX12_bellClause_44 rfl ?_
      exact go_iret (S := []) dX12_bellClause_66 rfl ⟨_, rfl, hF⟩
  · have hF := hF.2 hc
    refine go_aload_n dX12_bellClause_15 rfl ?_
    refine go_bipush (v := 112) dX12_bellClause_16 (by decide) ?_
    refine go_bipush (v := 105) dX12_bellClause_18 (by decide) ?_
    refine go_bipush (v := 116) dX12_bellClause_20 (by decide) ?_
    refine go_bipush (v := 99) dX12_bellClause_22 (by decide) ?_
    refine go_bipush (v := 104) dX12_bellClause_24 (by decide) ?_
    refine go_callS mX12_w5 dX12_bellClause_26 lm_X12_147 okX12_w5 isX12_w5 (As := [.int 112, .int 105, .int 116, .int 99, .int 104]) (S := [.ref (ga G 273)]) rfl rfl (Nat.le_of_ble_eq_true rfl) (eX12_w5 G _ 112 105 116 99 104 m1 (fun r m' => r = w5V 112 105 116 99 104 ∧ m1 = m') ⟨rfl, rfl⟩) (k_l (fun r m' hr => ?_))
    obtain ⟨hr1, hr2⟩ := hr
    subst hr1
    subst hr2
    refine go_iload_n dX12_bellClause_29 rfl ?_
    refine go_iconst (v := 2) dX12_bellClause_30 (by decide) ?_
    refine go_iadd dX12_bellClause_31 ?_
    refine go_iconst (v := 0) dX12_bellClause_32 (by decide) ?_
    refine go_bipush (v := 9) dX12_bellClause_33 (by decide) ?_
    refine go_callV mX12_worded dX12_bellClause_35 lm_X12_235 okX12_worded isX12_worded sh_273 rfl (As := [.long (w5V 112 105 116 99 104), .int (a0 + 2), .int 0, .int 9]) (S := []) rfl rfl (Nat.le_of_ble_eq_true rfl) hF (k_i (fun r6 m5 hF => ?_))
    refine go_istore_n (L' := [.ref (ga G 273), .int a0, .int r6]) dX12_bellClause_38 (Nat.le_of_ble_eq_true rfl) rfl ?_
    refine go_iload_n dX12_bellClause_39 rfl ?_
    refine go_if_eq 47 dX12_bellClause_40 rfl ⟨fun hc => ?_, fun hc => ?_⟩
    · have hF := hF.1 hc
      refine go_aload_n dX12_bellClause_47 rfl ?_
      refine go_bipush (v := 109) dX12_bellClause_48 (by decide) ?_
      refine go_bipush (v := 101) dX12_bellClause_50 (by decide) ?_
      refine go_bipush (v := 110) dX12_bellClause_52 (by decide) ?_
      refine go_callS mX12_w3 dX12_bellClause_54 lm_X12_139 okX12_w3 isX12_w3 (As := [.int 109, .int 101, .int 110]) (S := [.ref (ga G 273)]) rfl rfl (Nat.le_of_ble_eq_true rfl) (eX12_w3 G _ 109 101 110 m5 (fun r m' => r = w3V 109 101 110 ∧ m5 = m') ⟨rfl, rfl⟩) (k_l (fun r m' hr => ?_))
      obtain ⟨hr1, hr2⟩ := hr
      subst hr1
      subst hr2
      refine go_iload_n dX12_bellClause_57 rfl ?_
      refine go_iconst (v := 3) dX12_bellClause_58 (by decide) ?_
      refine go_iadd dX12_bellClause_59 ?_
      refine go_iconst (v := 1) dX12_bellClause_60 (by decide) ?_
      refine go_bipush (v := 9) dX12_bellClause_61 (by decide) ?_
      refine go_callV mX12_worded dX12_bellClause_63 lm_X12_235 okX12_worded isX12_worded sh_273 rfl (As := [.long (w3V 109 101 110), .int (a0 + 3), .int 1, .int 9]) (S := []) rfl rfl (Nat.le_of_ble_eq_true rfl) hF (k_i (fun r8 m7 hF => ?_))
      exact go_iret (S := []) dX12_bellClause_66 rfl ⟨_, rfl, hF⟩
    · have hF := hF.2 hc
      refine go_iload_n dX12_bellClause_43 rfl ?_
      refine go_goto 66 dX12_bellClause_44 rfl ?_
      exact go_iret (S := []) dX12_bellClause_66 rfl ⟨_, rfl, hF⟩
theorem vX12_wordClause (G : GP) (d : Nat) (a0 : Int32) (m : Mem) (K : Int32 → Mem → Prop) (hF : Evi G (d + 3) mX12_figure [.ref (ga G 273), .int (a0 + 1), .int 0, .int 3] m (fun r2 m1 => ((¬ r2 = 0) → ((r2 = 0) → (((m1.1 273 10) = 58) → Evv G (d + 3) mX12_nextToken [.ref (ga G 273)] m1 (fun m3 => Gw G (d + 4) mX12_wordClause 61 [.ref (ga G 273), .int a0, .int r2, .int 0] [] m3 (Qi K))) ∧ ((¬ (m1.1 273 10) = 58) → K 1 m1)) ∧ ((¬ r2 = 0) → K r2 m1)) ∧ ((r2 = 0) → Evi G (d + 3) mX12_worded [.ref (ga G 273), .long (w5V 109 101 97 110 115), .int (a0 + 2), .int 0, .int 99] m1 (fun r5 m4 => ((r5 = 0) → (((m4.1 273 10) = 58) → Evv G (d + 3) mX12_nextToken [.ref (ga G 273)] m4 (fun m6 => Gw G (d + 4) mX12_wordClause 61 [.ref (ga G 273), .int a0, .int r5, .int 0] [] m6 (Qi K))) ∧ ((¬ (m4.1 273 10) = 58) → K 1 m4)) ∧ ((¬ r5 = 0) → K r5 m4))))) : Evi G (d + 4) mX12_wordClause [.ref (ga G 273), .int a0] m K := by
  refine Ev.go [.ref (ga G 273), .int a0, uu, uu] (by decide) (Nat.le_of_ble_eq_true rfl) rfl ?_
  refine go_aload_n dX12_wordClause_0 rfl ?_
  refine go_iload_n dX12_wordClause_1 rfl ?_
  refine go_iconst (v := 1) dX12_wordClause_2 (by decide) ?_
  refine go_iadd dX12_wordClause_3 ?_
  refine go_iconst (v := 0) dX12_wordClause_4 (by decide) ?_
  refine go_iconst (v := 3) dX12_wordClause_5 (by decide) ?_
  refine go_callV mX12_figure dX12_wordClause_6 lm_X12_228 okX12_figure isX12_figure sh_273 rfl (As := [.int (a0 + 1), .int 0, .int 3]) (S := []) rfl rfl (Nat.le_of_ble_eq_true rfl) hF (k_i (fun r2 m1 hF => ?_))
  refine go_istore_n (L' := [.ref (ga G 273), .int a0, .int r2, uu]) dX12_wordClause_9 (Nat.le_of_ble_eq_true rfl) rfl ?_
  refine go_iload_n dX12_wordClause_10 rfl ?_
  refine go_if_ne 38 dX12_wordClause_11 rfl ⟨fun hc => ?_, fun hc => ?_⟩
  · have hF := hF.1 hc
    refine go_iload_n dX12_wordClause_38 rfl ?_
    refine go_if_eq 44 dX12_wordClause_39 rfl ⟨fun hc => ?_, fun hc => ?_⟩
    · have hF := hF.1 hc
      refine go_aload_n dX12_wordClause_44 rfl ?_
      refine go_getI (k := 10) dX12_wordClause_45 sh_273 rfl inX12 (Nat.le_of_ble_eq_true rfl) lf_X12_113 rfl ?_
      refine go_bipush (v := 58) dX12_wordClause_48 (by decide) ?_
      refine go_icmp_eq 55 dX12_wordClause_50 rfl ⟨fun hc => ?_, fun hc => ?_⟩
      · have hF := hF.1 hc
        refine go_aload_n dX12_wordClause_55 rfl ?_
        refine go_callV mX12_nextToken dX12_wordClause_56 lm_X12_187 okX12_nextToken isX12_nextToken sh_273 rfl (As := []) (S := []) rfl rfl (Nat.le_of_ble_eq_true rfl) hF (k_v (fun m3 hF => ?_))
        refine go_iconst (v := 0) dX12_wordClause_59 (by decide) ?_
        refine go_istore_n (L' := [.ref (ga G 273), .int a0, .int r2, .int 0]) dX12_wordClause_60 (Nat.le_of_ble_eq_true rfl) rfl ?_
        exact hF
      · have hF := hF.2 hc
        refine go_iconst (v := 1) dX12_wordClause_53 (by decide) ?_
        exact go_iret (S := []) dX12_wordClause_54 rfl ⟨_, rfl, hF⟩
    · have hF := hF.2 hc
      refine go_iload_n dX12_wordClause_42 rfl ?_
      exact go_iret (S := []) dX12_wordClause_43 rfl ⟨_, rfl, hF⟩
  · have hF := hF.2 hc
    refine go_aload_n dX12_wordClause_14 rfl ?_
    refine go_bipush (v := 109) dX12_wordClause_15 (by decide) ?_
    refine go_bipush (v := 101) dX12_wordClause_17 (by decide) ?_
    refine go_bipush (v := 97) dX12_wordClause_19 (by decide) ?_
    refine go_bipush (v := 110) dX12_wordClause_21 (by decide) ?_
    refine go_bipush (v := 115) dX12_wordClause_23 (by decide) ?_
    refine go_callS mX12_w5 dX12_wordClause_25 lm_X12_147 okX12_w5 isX12_w5 (As := [.int 109, .int 101, .int 97, .int 110, .int 115]) (S := [.ref (ga G 273)]) rfl rfl (Nat.le_of_ble_eq_true rfl) (eX12_w5 G _ 109 101 97 110 115 m1 (fun r m' => r = w5V 109 101 97 110 115 ∧ m1 = m') ⟨rfl, rfl⟩) (k_l (fun r m' hr => ?_))
    obtain ⟨hr1, hr2⟩ := hr
    subst hr1
    subst hr2
    refine go_iload_n dX12_wordClause_28 rfl ?_
    refine go_iconst (v := 2) dX12_wordClause_29 (by decide) ?_
    refine go_iadd dX12_wordClause_30 ?_
    refine go_iconst (v := 0) dX12_wordClause_31 (by decide) ?_
    refine go_bipush (v := 99) dX12_wordClause_32 (by decide) ?_
    refine go_callV mX12_worded dX12_wordClause_34 lm_X12_235 okX12_worded isX12_worded sh_273 rfl (As := [.long (w5V 109 101 97 110 115), .int (a0 + 2), .int 0, .int 99]) (S := []) rfl rfl (Nat.le_of_ble_eq_true rfl) hF (k_i (fun r5 m4 hF => ?_))
    refine go_istore_n (L' := [.ref (ga G 273), .int a0, .int r5, uu]) dX12_wordClause_37 (Nat.le_of_ble_eq_true rfl) rfl ?_
    refine go_iload_n dX12_wordClause_38 rfl ?_
    refine go_if_eq 44 dX12_wordClause_39 rfl ⟨fun hc => ?_, fun hc => ?_⟩
    · have hF := hF.1 hc
      refine go_aload_n dX12_wordClause_44 rfl ?_
      refine go_getI (k := 10) dX12_wordClause_45 sh_273 rfl inX12 (Nat.le_of_ble_eq_true rfl) lf_X12_113 rfl ?_
      refine go_bipush (v := 58) dX12_wordClause_48 (by decide) ?_
      refine go_icmp_eq 55 dX12_wordClause_50 rfl ⟨fun hc => ?_, fun hc => ?_⟩
      · have hF := hF.1 hc
        refine go_aload_n dX12_wordClause_55 rfl ?_
        refine go_callV mX12_nextToken dX12_wordClause_56 lm_X12_187 okX12_nextToken isX12_nextToken sh_273 rfl (As := []) (S := []) rfl rfl (Nat.le_of_ble_eq_true rfl) hF (k_v (fun m6 hF => ?_))
        refine go_iconst (v := 0) dX12_wordClause_59 (by decide) ?_
        refine go_istore_n (L' := [.ref (ga G 273), .int a0, .int r5, .int 0]) dX12_wordClause_60 (Nat.le_of_ble_eq_true rfl) rfl ?_
        exact hF
      · have hF := hF.2 hc
        refine go_iconst (v := 1) dX12_wordClause_53 (by decide) ?_
        exact go_iret (S := []) dX12_wordClause_54 rfl ⟨_, rfl, hF⟩
    · have hF := hF.2 hc
      refine go_iload_n dX12_wordClause_42 rfl ?_
      exact go_iret (S := []) dX12_wordClause_43 rfl ⟨_, rfl, hF⟩
theorem vX12_wordClause_61 (G : GP) (d : Nat) (l1 : Int32) (u2 : Value) (l3 : Int32) (m : Mem) (K : Int32 → Mem → Prop) (hF : ((4 ≤ l3) → Gw G (d + 4) mX12_wordClause 85 [.ref (ga G 273), .int l1, uu, .int 0] [] m (Qi K)) ∧ ((¬ 4 ≤ l3) → vp_in ((l1 + 3) + l3) 3204 ∧ ∀ m7 : Mem, m7 = wI m 276 ((l1 + 3) + l3).toNatClampNeg (-1) → ∀ x8 : Int32, x8 = l3 + 1 → Gw G (d + 4) mX12_wordClause 61 [.ref (ga G 273), .int l1, uu, .int x8] [] m7 (Qi K))) : Gw G (d + 4) mX12_wordClause 61 [.ref (ga G 273), .int l1, u2, .int l3] [] m (Qi K) := by
  refine Gw.weak (L' := [.ref (ga G 273), .int l1, uu, .int l3]) ⟨Or.inl rfl, Or.inl rfl, Or.inr rfl, Or.inl rfl, trivial⟩ ?_
  refine go_iload_n dX12_wordClause_61 rfl ?_
  refine go_iconst (v := 4) dX12_wordClause_62 (by decide) ?_
  refine go_icmp_ge 83 dX12_wordClause_63 rfl ⟨fun hc => ?_, fun hc => ?_⟩
  · have hF := hF.1 hc
    refine go_iconst (v := 0) dX12_wordClause_83 (by decide) ?_
    refine go_istore_n (L' := [.ref (ga G 273), .int l1, uu, .int 0]) dX12_wordClause_84 (Nat.le_of_ble_eq_true rfl) rfl ?_
    exact hF
  · have hF := hF.2 hc
    refine go_aload_n dX12_wordClause_66 rfl ?_
    refine go_getR (k := 2) (r := 276) dX12_wordClause_67 sh_273 rfl inX12 (Nat.le_of_ble_eq_true rfl) lf_X12_16 rfl rfl ?_
    refine go_iload_n dX12_wordClause_70 rfl ?_
    refine go_iconst (v := 3) dX12_wordClause_71 (by decide) ?_
    refine go_iadd dX12_wordClause_72 ?_
    refine go_iload_n dX12_wordClause_73 rfl ?_
    refine go_iadd dX12_wordClause_74 ?_
    refine go_iconst (v := -1) dX12_wordClause_75 (by decide) ?_
    obtain ⟨hi, hF⟩ := hF
    refine go_iast dX12_wordClause_76 sh_276 hi ?_
    obtain ⟨m7, em7⟩ : ∃ z : Mem, z = wI m 276 ((l1 + 3) + l3).toNatClampNeg (-1) := ⟨_, rfl⟩
    rw [← em7]
    have hF := hF m7 em7
    obtain ⟨x8, ex8⟩ : ∃ z : Int32, z = l3 + 1 := ⟨_, rfl⟩
    have hF := hF x8 ex8
    refine go_iinc (v := x8) (L' := [.ref (ga G 273), .int l1, uu, .int x8]) dX12_wordClause_77 rfl (by rw [ex8]; rfl) (Nat.le_of_ble_eq_true rfl) rfl ?_
    refine go_goto 61 dX12_wordClause_80 rfl ?_
    exact hF
theorem vX12_wordClause_85 (G : GP) (d : Nat) (l1 : Int32) (u2 : Value) (l3 : Int32) (m : Mem) (K : Int32 → Mem → Prop) (hF : ((l3 = 0) → ((¬ l3 = 4) → Evi G (d + 3) mX12_figure [.ref (ga G 273), .int ((l1 + 3) + l3), .int 0, .int 5] m (fun r10 m9 => ((r10 = 0) → ∀ x11 : Int32, x11 = l3 + 1 → Gw G (d + 4) mX12_wordClause 85 [.ref (ga G 273), .int l1, .int r10, .int x11] [] m9 (Qi K)) ∧ ((¬ r10 = 0) → K r10 m9))) ∧ ((l3 = 4) → (((m.1 273 11) ≤ 5) → K 7 m) ∧ ((¬ (m.1 273 11) ≤ 5) → K 2 m))) ∧ ((¬ l3 = 0) → ((¬ (m.1 273 10) = 1) → K 0 m) ∧ (((m.1 273 10) = 1) → ((¬ l3 = 4) → Evi G (d + 3) mX12_figure [.ref (ga G 273), .int ((l1 + 3) + l3), .int 0, .int 5] m (fun r13 m12 => ((r13 = 0) → ∀ x14 : Int32, x14 = l3 + 1 → Gw G (d + 4) mX12_wordClause 85 [.ref (ga G 273), .int l1, .int r13, .int x14] [] m12 (Qi K)) ∧ ((¬ r13 = 0) → K r13 m12))) ∧ ((l3 = 4) → (((m.1 273 11) ≤ 5) → K 7 m) ∧ ((¬ (m.1 273 11) ≤ 5) → K 2 m))))) : Gw G (d + 4) mX12_wordClause 85 [.ref (ga G 273), .int l1, u2, .int l3] [] m (Qi K) := by
  refine Gw.weak (L' := [.ref (ga G 273), .int l1, uu, .int l3]) ⟨Or.inl rfl, Or.inl rfl, Or.inr rfl, Or.inl rfl, trivial⟩ ?_
  refine go_iload_n dX12_wordClause_85 rfl ?_
  refine go_if_eq 97 dX12_wordClause_86 rfl ⟨fun hc => ?_, fun hc => ?_⟩
  · have hF := hF.1 hc
    refine go_iload_n dX12_wordClause_97 rfl ?_
    refine go_iconst (v := 4) dX12_wordClause_98 (by decide) ?_
    refine go_icmp_ne 117 dX12_wordClause_99 rfl ⟨fun hc => ?_, fun hc => ?_⟩
    · have hF := hF.1 hc
      refine go_aload_n dX12_wordClause_117 rfl ?_
      refine go_iload_n dX12_wordClause_118 rfl ?_
      refine go_iconst (v := 3) dX12_wordClause_119 (by decide) ?_
      refine go_iadd dX12_wordClause_120 ?_
      refine go_iload_n dX12_wordClause_121 rfl ?_
      refine go_iadd dX12_wordClause_122 ?_
      refine go_iconst (v := 0) dX12_wordClause_123 (by decide) ?_
      refine go_iconst (v := 5) dX12_wordClause_124 (by decide) ?_
      refine go_callV mX12_figure dX12_wordClause_125 lm_X12_228 okX12_figure isX12_figure sh_273 rfl (As := [.int ((l1 + 3) + l3), .int 0, .int 5]) (S := []) rfl rfl (Nat.le_of_ble_eq_true rfl) hF (k_i (fun r10 m9 hF => ?_))
      refine go_istore_n (L' := [.ref (ga G 273), .int l1, .int r10, .int l3]) dX12_wordClause_128 (Nat.le_of_ble_eq_true rfl) rfl ?_
      refine go_iload_n dX12_wordClause_129 rfl ?_
      refine go_if_eq 135 dX12_wordClause_130 rfl ⟨fun hc => ?_, fun hc => ?_⟩
      · have hF := hF.1 hc
        obtain ⟨x11, ex11⟩ : ∃ z : Int32, z = l3 + 1 := ⟨_, rfl⟩
        have hF := hF x11 ex11
        refine go_iinc (v := x11) (L' := [.ref (ga G 273), .int l1, .int r10, .int x11]) dX12_wordClause_135 rfl (by rw [ex11]; rfl) (Nat.le_of_ble_eq_true rfl) rfl ?_
        refine go_goto 85 dX12_wordClause_138 rfl ?_
        exact hF
      · have hF := hF.2 hc
        refine go_iload_n dX12_wordClause_133 rfl ?_
        exact go_iret (S := []) dX12_wordClause_134 rfl ⟨_, rfl, hF⟩
    · have hF := hF.2 hc
      refine go_aload_n dX12_wordClause_102 rfl ?_
      refine go_getI (k := 11) dX12_wordClause_103 sh_273 rfl inX12 (Nat.le_of_ble_eq_true rfl) lf_X12_119 rfl ?_
      refine go_iconst (v := 5) dX12_wordClause_106 (by decide) ?_
      refine go_icmp_le 114 dX12_wordClause_107 rfl ⟨fun hc => ?_, fun hc => ?_⟩
      · have hF := hF.1 hc
        refine go_bipush (v := 7) dX12_wordClause_114 (by decide) ?_
        exact go_iret (S := []) dX12_wordClause_116 rfl ⟨_, rfl, hF⟩
      · have hF := hF.2 hc
        refine go_iconst (v := 2) dX12_wordClause_110 (by decide) ?_
        refine go_goto 116 dX12_wordClause_111 rfl ?_
        exact go_iret (S := []) dX12_wordClause_116 rfl ⟨_, rfl, hF⟩
  · have hF := hF.2 hc
    refine go_aload_n dX12_wordClause_89 rfl ?_
    refine go_getI (k := 10) dX12_wordClause_90 sh_273 rfl inX12 (Nat.le_of_ble_eq_true rfl) lf_X12_113 rfl ?_
    refine go_iconst (v := 1) dX12_wordClause_93 (by decide) ?_
    refine go_icmp_ne 141 dX12_wordClause_94 rfl ⟨fun hc => ?_, fun hc => ?_⟩
    · have hF := hF.1 hc
      refine go_iconst (v := 0) dX12_wordClause_141 (by decide) ?_
      exact go_iret (S := []) dX12_wordClause_142 rfl ⟨_, rfl, hF⟩
    · have hF := hF.2 hc
      refine go_iload_n dX12_wordClause_97 rfl ?_
      refine go_iconst (v := 4) dX12_wordClause_98 (by decide) ?_
      refine go_icmp_ne 117 dX12_wordClause_99 rfl ⟨fun hc => ?_, fun hc => ?_⟩
      · have hF := hF.1 hc
        refine go_aload_n dX12_wordClause_117 rfl ?_
        refine go_iload_n dX12_wordClause_118 rfl ?_
        refine go_iconst (v := 3) dX12_wordClause_119 (by decide) ?_
        refine go_iadd dX12_wordClause_120 ?_
        refine go_iload_n dX12_wordClause_121 rfl ?_
        refine go_iadd dX12_wordClause_122 ?_
        refine go_iconst (v := 0) dX12_wordClause_123 (by decide) ?_
        refine go_iconst (v := 5) dX12_wordClause_124 (by decide) ?_
        refine go_callV mX12_figure dX12_wordClause_125 lm_X12_228 okX12_figure isX12_figure sh_273 rfl (As := [.int ((l1 + 3) + l3), .int 0, .int 5]) (S := []) rfl rfl (Nat.le_of_ble_eq_true rfl) hF (k_i (fun r13 m12 hF => ?_))
        refine go_istore_n (L' := [.ref (ga G 273), .int l1, .int r13, .int l3]) dX12_wordClause_128 (Nat.le_of_ble_eq_true rfl) rfl ?_
        refine go_iload_n dX12_wordClause_129 rfl ?_
        refine go_if_eq 135 dX12_wordClause_130 rfl ⟨fun hc => ?_, fun hc => ?_⟩
        · have hF := hF.1 hc
          obtain ⟨x14, ex14⟩ : ∃ z : Int32, z = l3 + 1 := ⟨_, rfl⟩
          have hF := hF x14 ex14
          refine go_iinc (v := x14) (L' := [.ref (ga G 273), .int l1, .int r13, .int x14]) dX12_wordClause_135 rfl (by rw [ex14]; rfl) (Nat.le_of_ble_eq_true rfl) rfl ?_
          refine go_goto 85 dX12_wordClause_138 rfl ?_
          exact hF
        · have hF := hF.2 hc
          refine go_iload_n dX12_wordClause_133 rfl ?_
          exact go_iret (S := []) dX12_wordClause_134 rfl ⟨_, rfl, hF⟩
      · have hF := hF.2 hc
        refine go_aload_n dX12_wordClause_102 rfl ?_
        refine go_getI (k := 11) dX12_wordClause_103 sh_273 rfl inX12 (Nat.le_of_ble_eq_true rfl) lf_X12_119 rfl ?_
        refine go_iconst (v := 5) dX12_wordClause_106 (by decide) ?_
        refine go_icmp_le 114 dX12_wordClause_107 rfl ⟨fun hc => ?_, fun hc => ?_⟩
        · have hF := hF.1 hc
          refine go_bipush (v := 7) dX12_wordClause_114 (by decide) ?_
          exact go_iret (S := []) dX12_wordClause_116 rfl ⟨_, rfl, hF⟩
        · have hF := hF.2 hc
          refine go_iconst (v := 2) dX12_wordClause_110 (by decide) ?_
          refine go_goto 116 dX12_wordClause_111 rfl ?_
          exact go_iret (S := []) dX12_wordClause_116 rfl ⟨_, rfl, hF⟩
theorem vX12_body (G : GP) (d : Nat) (a0 : Int32) (a1 : Int32) (m : Mem) (K : Int32 → Mem → Prop) (hF : (a0 = 3 → Evi G (d + 8) mX12_bellClause [.ref (ga G 273), .int a1] m (fun r2 m1 => K r2 m1)) ∧ (a0 = 4 → Evi G (d + 8) mX12_wordClause [.ref (ga G 273), .int a1] m (fun r4 m3 => K r4 m3)) ∧ (a0 = 5 → Evi G (d + 8) mX12_figure [.ref (ga G 273), .int (a1 + 1), .int 0, .int 5] m (fun r6 m5 => K r6 m5)) ∧ (a0 = 6 → ((2 < a0) → Evi G (d + 8) mX12_figure [.ref (ga G 273), .int (a1 + 1), .int 0, .int 9] m (fun r8 m7 => K r8 m7)) ∧ ((¬ 2 < a0) → Evi G (d + 8) mX12_lawClause [.ref (ga G 273), .int a1] m (fun r10 m9 => K r10 m9))) ∧ (a0 = 7 → ((2 < a0) → Evi G (d + 8) mX12_figure [.ref (ga G 273), .int (a1 + 1), .int 0, .int 9] m (fun r12 m11 => K r12 m11)) ∧ ((¬ 2 < a0) → Evi G (d + 8) mX12_lawClause [.ref (ga G 273), .int a1] m (fun r14 m13 => K r14 m13))) ∧ (a0 = 8 → ((2 < a0) → Evi G (d + 8) mX12_figure [.ref (ga G 273), .int (a1 + 1), .int 0, .int 9] m (fun r16 m15 => K r16 m15)) ∧ ((¬ 2 < a0) → Evi G (d + 8) mX12_lawClause [.ref (ga G 273), .int a1] m (fun r18 m17 => K r18 m17))) ∧ (a0 = 9 → Evi G (d + 8) mX12_figure [.ref (ga G 273), .int (a1 + 1), .int 1, .int 60] m (fun r20 m19 => K r20 m19)) ∧ (a0 = 10 → K 0 m) ∧ (¬ a0 = 3 ∧ ¬ a0 = 4 ∧ ¬ a0 = 5 ∧ ¬ a0 = 6 ∧ ¬ a0 = 7 ∧ ¬ a0 = 8 ∧ ¬ a0 = 9 ∧ ¬ a0 = 10 → ((2 < a0) → Evi G (d + 8) mX12_figure [.ref (ga G 273), .int (a1 + 1), .int 0, .int 9] m (fun r22 m21 => K r22 m21)) ∧ ((¬ 2 < a0) → Evi G (d + 8) mX12_lawClause [.ref (ga G 273), .int a1] m (fun r24 m23 => K r24 m23)))) : Evi G (d + 9) mX12_body [.ref (ga G 273), .int a0, .int a1] m K := by
  refine Ev.go [.ref (ga G 273), .int a0, .int a1] (by decide) (Nat.le_of_ble_eq_true rfl) rfl ?_
  refine go_iload_n dX12_body_0 rfl ?_
  rcases Decidable.em (a0 = 3) with hc0 | hc0
  · have hF := hF.1 hc0
    refine go_tabIn (off := 47) 48 dX12_body_1 (by rw [hc0]; decide) (by rw [hc0]; decide) (by rw [hc0]; rfl) rfl ?_
    refine go_aload_n dX12_body_48 rfl ?_
    refine go_iload_n dX12_body_49 rfl ?_
    refine go_callV mX12_bellClause dX12_body_50 lm_X12_239 okX12_bellClause isX12_bellClause sh_273 rfl (As := [.int a1]) (S := []) rfl rfl (Nat.le_of_ble_eq_true rfl) hF (k_i (fun r2 m1 hF => ?_))
    exact go_iret (S := []) dX12_body_53 rfl ⟨_, rfl, hF⟩
  rcases Decidable.em (a0 = 4) with hc1 | hc1
  · have hF := hF.2.1 hc1
    refine go_tabIn (off := 53) 54 dX12_body_1 (by rw [hc1]; decide) (by rw [hc1]; decide) (by rw [hc1]; rfl) rfl ?_
    refine go_aload_n dX12_body_54 rfl ?_
    refine go_iload_n dX12_body_55 rfl ?_
    refine go_callV mX12_wordClause dX12_body_56 lm_X12_242 okX12_wordClause isX12_wordClause sh_273 rfl (As := [.int a1]) (S := []) rfl rfl (Nat.le_of_ble_eq_true rfl) hF (k_i (fun r4 m3 hF => ?_))
    exact go_iret (S := []) dX12_body_59 rfl ⟨_, rfl, hF⟩
  rcases Decidable.em (a0 = 5) with hc2 | hc2
  · have hF := hF.2.2.1 hc2
    refine go_tabIn (off := 59) 60 dX12_body_1 (by rw [hc2]; decide) (by rw [hc2]; decide) (by rw [hc2]; rfl) rfl ?_
    refine go_aload_n dX12_body_60 rfl ?_
    refine go_iload_n dX12_body_61 rfl ?_
    refine go_iconst (v := 1) dX12_body_62 (by decide) ?_
    refine go_iadd dX12_body_63 ?_
    refine go_iconst (v := 0) dX12_body_64 (by decide) ?_
    refine go_iconst (v := 5) dX12_body_65 (by decide) ?_
    refine go_callV mX12_figure dX12_body_66 lm_X12_228 okX12_figure isX12_figure sh_273 rfl (As := [.int (a1 + 1), .int 0, .int 5]) (S := []) rfl rfl (Nat.le_of_ble_eq_true rfl) hF (k_i (fun r6 m5 hF => ?_))
    exact go_iret (S := []) dX12_body_69 rfl ⟨_, rfl, hF⟩
  rcases Decidable.em (a0 = 6) with hc3 | hc3
  · have hF := hF.2.2.2.1 hc3
    refine go_tabIn (off := 82) 83 dX12_body_1 (by rw [hc3]; decide) (by rw [hc3]; decide) (by rw [hc3]; rfl) rfl ?_
    refine go_iload_n dX12_body_83 rfl ?_
    refine go_iconst (v := 2) dX12_body_84 (by decide) ?_
    refine go_icmp_gt 96 dX12_body_85 rfl ⟨fun hc => ?_, fun hc => ?_⟩
    · have hF := hF.1 hc
      refine go_aload_n dX12_body_96 rfl ?_
      refine go_iload_n dX12_body_97 rfl ?_
      refine go_iconst (v := 1) dX12_body_98 (by decide) ?_
      refine go_iadd dX12_body_99 ?_
      refine go_iconst (v := 0) dX12_body_100 (by decide) ?_
      refine go_bipush (v := 9) dX12_body_101 (by decide) ?_
      refine go_callV mX12_figure dX12_body_103 lm_X12_228 okX12_figure isX12_figure sh_273 rfl (As := [.int (a1 + 1), .int 0, .int 9]) (S := []) rfl rfl (Nat.le_of_ble_eq_true rfl) hF (k_i (fun r8 m7 hF => ?_))
      exact go_iret (S := []) dX12_body_106 rfl ⟨_, rfl, hF⟩
    · have hF := hF.2 hc
      refine go_aload_n dX12_body_88 rfl ?_
      refine go_iload_n dX12_body_89 rfl ?_
      refine go_callV mX12_lawClause dX12_body_90 lm_X12_245 okX12_lawClause isX12_lawClause sh_273 rfl (As := [.int a1]) (S := []) rfl rfl (Nat.le_of_ble_eq_true rfl) hF (k_i (fun r10 m9 hF => ?_))
      refine go_goto 106 dX12_body_93 rfl ?_
      exact go_iret (S := []) dX12_body_106 rfl ⟨_, rfl, hF⟩
  rcases Decidable.em (a0 = 7) with hc4 | hc4
  · have hF := hF.2.2.2.2.1 hc4
    refine go_tabIn (off := 82) 83 dX12_body_1 (by rw [hc4]; decide) (by rw [hc4]; decide) (by rw [hc4]; rfl) rfl ?_
    refine go_iload_n dX12_body_83 rfl ?_
    refine go_iconst (v := 2) dX12_body_84 (by decide) ?_
    refine go_icmp_gt 96 dX12_body_85 rfl ⟨fun hc => ?_, fun hc => ?_⟩
    · have hF := hF.1 hc
      refine go_aload_n dX12_body_96 rfl ?_
      refine go_iload_n dX12_body_97 rfl ?_
      refine go_iconst (v := 1) dX12_body_98 (by decide) ?_
      refine go_iadd dX12_body_99 ?_
      refine go_iconst (v := 0) dX12_body_100 (by decide) ?_
      refine go_bipush (v := 9) dX12_body_101 (by decide) ?_
      refine go_callV mX12_figure dX12_body_103 lm_X12_228 okX12_figure isX12_figure sh_273 rfl (As := [.int (a1 + 1), .int 0, .int 9]) (S := []) rfl rfl (Nat.le_of_ble_eq_true rfl) hF (k_i (fun r12 m11 hF => ?_))
      exact go_iret (S := []) dX12_body_106 rfl ⟨_, rfl, hF⟩
    · have hF := hF.2 hc
      refine go_aload_n dX12_body_88 rfl ?_
      refine go_iload_n dX12_body_89 rfl ?_
      refine go_callV mX12_lawClause dX12_body_90 lm_X12_245 okX12_lawClause isX12_lawClause sh_273 rfl (As := [.int a1]) (S := []) rfl rfl (Nat.le_of_ble_eq_true rfl) hF (k_i (fun r14 m13 hF => ?_))
      refine go_goto 106 dX12_body_93 rfl ?_
      exact go_iret (S := []) dX12_body_106 rfl ⟨_, rfl, hF⟩
  rcases Decidable.em (a0 = 8) with hc5 | hc5
  · have hF := hF.2.2.2.2.2.1 hc5
    refine go_tabIn (off := 82) 83 dX12_body_1 (by rw [hc5]; decide) (by rw [hc5]; decide) (by rw [hc5]; rfl) rfl ?_
    refine go_iload_n dX12_body_83 rfl ?_
    refine go_iconst (v := 2) dX12_body_84 (by decide) ?_
    refine go_icmp_gt 96 dX12_body_85 rfl ⟨fun hc => ?_, fun hc => ?_⟩
    · have hF := hF.1 hc
      refine go_aload_n dX12_body_96 rfl ?_
      refine go_iload_n dX12_body_97 rfl ?_
      refine go_iconst (v := 1) dX12_body_98 (by decide) ?_
      refine go_iadd dX12_body_99 ?_
      refine go_iconst (v := 0) dX12_body_100 (by decide) ?_
      refine go_bipush (v := 9) dX12_body_101 (by decide) ?_
      refine go_callV mX12_figure dX12_body_103 lm_X12_228 okX12_figure isX12_figure sh_273 rfl (As := [.int (a1 + 1), .int 0, .int 9]) (S := []) rfl rfl (Nat.le_of_ble_eq_true rfl) hF (k_i (fun r16 m15 hF => ?_))
      exact go_iret (S := []) dX12_body_106 rfl ⟨_, rfl, hF⟩
    · have hF := hF.2 hc
      refine go_aload_n dX12_body_88 rfl ?_
      refine go_iload_n dX12_body_89 rfl ?_
      refine go_callV mX12_lawClause dX12_body_90 lm_X12_245 okX12_lawClause isX12_lawClause sh_273 rfl (As := [.int a1]) (S := []) rfl rfl (Nat.le_of_ble_eq_true rfl) hF (k_i (fun r18 m17 hF => ?_))
      refine go_goto 106 dX12_body_93 rfl ?_
      exact go_iret (S := []) dX12_body_106 rfl ⟨_, rfl, hF⟩
  rcases Decidable.em (a0 = 9) with hc6 | hc6
  · have hF := hF.2.2.2.2.2.2.1 hc6
    refine go_tabIn (off := 69) 70 dX12_body_1 (by rw [hc6]; decide) (by rw [hc6]; decide) (by rw [hc6]; rfl) rfl ?_
    refine go_aload_n dX12_body_70 rfl ?_
    refine go_iload_n dX12_body_71 rfl ?_
    refine go_iconst (v := 1) dX12_body_72 (by decide) ?_
    refine go_iadd dX12_body_73 ?_
    refine go_iconst (v := 1) dX12_body_74 (by decide) ?_
    refine go_bipush (v := 60) dX12_body_75 (by decide) ?_
    refine go_callV mX12_figure dX12_body_77 lm_X12_228 okX12_figure isX12_figure sh_273 rfl (As := [.int (a1 + 1), .int 1, .int 60]) (S := []) rfl rfl (Nat.le_of_ble_eq_true rfl) hF (k_i (fun r20 m19 hF => ?_))
    exact go_iret (S := []) dX12_body_80 rfl ⟨_, rfl, hF⟩
  rcases Decidable.em (a0 = 10) with hc7 | hc7
  · have hF := hF.2.2.2.2.2.2.2.1 hc7
    refine go_tabIn (off := 80) 81 dX12_body_1 (by rw [hc7]; decide) (by rw [hc7]; decide) (by rw [hc7]; rfl) rfl ?_
    refine go_iconst (v := 0) dX12_body_81 (by decide) ?_
    exact go_iret (S := []) dX12_body_82 rfl ⟨_, rfl, hF⟩
  have hF := hF.2.2.2.2.2.2.2.2 ⟨hc0, hc1, hc2, hc3, hc4, hc5, hc6, hc7⟩
  refine go_tabOut 83 dX12_body_1 (tab_out [3, 4, 5, 6, 7, 8, 9, 10] 3 10 a0 (by decide) (by simp only [List.forall_mem_cons, List.not_mem_nil, false_implies, implies_true, and_true]; exact ⟨hc0, hc1, hc2, hc3, hc4, hc5, hc6, hc7⟩)) rfl ?_
  refine go_iload_n dX12_body_83 rfl ?_
  refine go_iconst (v := 2) dX12_body_84 (by decide) ?_
  refine go_icmp_gt 96 dX12_body_85 rfl ⟨fun hc => ?_, fun hc => ?_⟩
  · have hF := hF.1 hc
    refine go_aload_n dX12_body_96 rfl ?_
    refine go_iload_n dX12_body_97 rfl ?_
    refine go_iconst (v := 1) dX12_body_98 (by decide) ?_
    refine go_iadd dX12_body_99 ?_
    refine go_iconst (v := 0) dX12_body_100 (by decide) ?_
    refine go_bipush (v := 9) dX12_body_101 (by decide) ?_
    refine go_callV mX12_figure dX12_body_103 lm_X12_228 okX12_figure isX12_figure sh_273 rfl (As := [.int (a1 + 1), .int 0, .int 9]) (S := []) rfl rfl (Nat.le_of_ble_eq_true rfl) hF (k_i (fun r22 m21 hF => ?_))
    exact go_iret (S := []) dX12_body_106 rfl ⟨_, rfl, hF⟩
  · have hF := hF.2 hc
    refine go_aload_n dX12_body_88 rfl ?_
    refine go_iload_n dX12_body_89 rfl ?_
    refine go_callV mX12_lawClause dX12_body_90 lm_X12_245 okX12_lawClause isX12_lawClause sh_273 rfl (As := [.int a1]) (S := []) rfl rfl (Nat.le_of_ble_eq_true rfl) hF (k_i (fun r24 m23 hF => ?_))
    refine go_goto 106 dX12_body_93 rfl ?_
    exact go_iret (S := []) dX12_body_106 rfl ⟨_, rfl, hF⟩
