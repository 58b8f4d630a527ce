theorem vX12_sortOf (G : GP) (d : Nat)  (m : Mem) (K : Int32 → Mem → Prop) (hF : ((m.1 273 10 = 2 ∧ m.2.1 273 12 = (w4V 111 118 101 114)) → K 0 m) ∧ (¬ (m.1 273 10 = 2 ∧ m.2.1 273 12 = (w4V 111 118 101 114)) → Evi G (d + 4) mX12_isFollows [.ref (ga G 273)] m (fun r2 m1 => ((r2 = 0) → ((m1.1 273 10 = 2 ∧ m1.2.1 273 12 = (w6V 98 101 103 105 110 115)) → K 2 m1) ∧ (¬ (m1.1 273 10 = 2 ∧ m1.2.1 273 12 = (w6V 98 101 103 105 110 115)) → ((m1.1 273 10 = 2 ∧ m1.2.1 273 12 = (w4V 98 101 108 108)) → K 3 m1) ∧ (¬ (m1.1 273 10 = 2 ∧ m1.2.1 273 12 = (w4V 98 101 108 108)) → ((m1.1 273 10 = 2 ∧ m1.2.1 273 12 = (w4V 119 111 114 100)) → K 4 m1) ∧ (¬ (m1.1 273 10 = 2 ∧ m1.2.1 273 12 = (w4V 119 111 114 100)) → ((m1.1 273 10 = 2 ∧ m1.2.1 273 12 = (w4V 114 105 110 103)) → K 5 m1) ∧ (¬ (m1.1 273 10 = 2 ∧ m1.2.1 273 12 = (w4V 114 105 110 103)) → ((m1.1 273 10 = 2 ∧ m1.2.1 273 12 = (w5V 115 112 101 97 107)) → K 6 m1) ∧ (¬ (m1.1 273 10 = 2 ∧ m1.2.1 273 12 = (w5V 115 112 101 97 107)) → ((m1.1 273 10 = 2 ∧ m1.2.1 273 12 = (w4V 119 105 110 100)) → K 7 m1) ∧ (¬ (m1.1 273 10 = 2 ∧ m1.2.1 273 12 = (w4V 119 105 110 100)) → ((m1.1 273 10 = 2 ∧ m1.2.1 273 12 = (w5V 102 114 111 115 116)) → K 8 m1) ∧ (¬ (m1.1 273 10 = 2 ∧ m1.2.1 273 12 = (w5V 102 114 111 115 116)) → ((m1.1 273 10 = 2 ∧ m1.2.1 273 12 = (w4V 104 111 117 114)) → K 9 m1) ∧ (¬ (m1.1 273 10 = 2 ∧ m1.2.1 273 12 = (w4V 104 111 117 114)) → ((m1.1 273 10 = 2 ∧ m1.2.1 273 12 = (w6V 115 117 110 100 97 121)) → K 10 m1) ∧ (¬ (m1.1 273 10 = 2 ∧ m1.2.1 273 12 = (w6V 115 117 110 100 97 121)) → K (-1) m1)))))))))) ∧ ((¬ r2 = 0) → K 1 m1)))) : Evi G (d + 5) mX12_sortOf [.ref (ga G 273)] m K := by
  refine Ev.go [.ref (ga G 273)] (by decide) (Nat.le_of_ble_eq_true rfl) rfl ?_
  refine go_aload_n dX12_sortOf_0 rfl ?_
  refine go_bipush (v := 111) dX12_sortOf_1 (by decide) ?_
  refine go_bipush (v := 118) dX12_sortOf_3 (by decide) ?_
  refine go_bipush (v := 101) dX12_sortOf_5 (by decide) ?_
  refine go_bipush (v := 114) dX12_sortOf_7 (by decide) ?_
  refine go_callS mX12_w4 dX12_sortOf_9 lm_X12_143 okX12_w4 isX12_w4 (As := [.int 111, .int 118, .int 101, .int 114]) (S := [.ref (ga G 273)]) rfl rfl (Nat.le_of_ble_eq_true rfl) (eX12_w4 G _ 111 118 101 114 m (fun r m' => r = w4V 111 118 101 114 ∧ m = m') ⟨rfl, rfl⟩) (k_l (fun r m' hr => ?_))
  obtain ⟨hr1, hr2⟩ := hr
  subst hr1
  subst hr2
  rcases Classical.em (m.1 273 10 = 2 ∧ m.2.1 273 12 = (w4V 111 118 101 114)) with hp | hp
  · have hF := hF.1 hp
    refine go_callV mX12_isWord dX12_sortOf_12 lm_X12_206 okX12_isWord isX12_isWord sh_273 rfl (As := [.long (w4V 111 118 101 114)]) (S := []) rfl rfl (Nat.le_of_ble_eq_true rfl) (eX12_isWord G _ (w4V 111 118 101 114) m (fun r m' => r = 1 ∧ m = m') ⟨fun _ => ⟨rfl, rfl⟩, fun q => absurd hp q⟩) (k_i (fun r m' hr => ?_))
    obtain ⟨hr1, hr2⟩ := hr
    subst hr1
    subst hr2
    refine go_if_eq 20 dX12_sortOf_15 rfl ⟨fun hc => absurd hc (by decide), fun _ => ?_⟩
    refine go_iconst (v := 0) dX12_sortOf_18 (by decide) ?_
    exact go_iret (S := []) dX12_sortOf_19 rfl ⟨_, rfl, hF⟩
  · have hF := hF.2 hp
    refine go_callV mX12_isWord dX12_sortOf_12 lm_X12_206 okX12_isWord isX12_isWord sh_273 rfl (As := [.long (w4V 111 118 101 114)]) (S := []) rfl rfl (Nat.le_of_ble_eq_true rfl) (eX12_isWord G _ (w4V 111 118 101 114) m (fun r m' => r = 0 ∧ m = m') ⟨fun q => absurd q hp, fun _ => ⟨rfl, rfl⟩⟩) (k_i (fun r m' hr => ?_))
    obtain ⟨hr1, hr2⟩ := hr
    subst hr1
    subst hr2
    refine go_if_eq 20 dX12_sortOf_15 rfl ⟨fun _ => ?_, fun hc => absurd hc (by decide)⟩
    refine go_aload_n dX12_sortOf_20 rfl ?_
    refine go_callV mX12_isFollows dX12_sortOf_21 lm_X12_248 okX12_isFollows isX12_isFollows sh_273 rfl (As := []) (S := []) rfl rfl (Nat.le_of_ble_eq_true rfl) hF (k_i (fun r2 m1 hF => ?_))
    refine go_if_eq 29 dX12_sortOf_24 rfl ⟨fun hc => ?_, fun hc => ?_⟩
    · have hF := hF.1 hc
      refine go_aload_n dX12_sortOf_29 rfl ?_
      refine go_bipush (v := 98) dX12_sortOf_30 (by decide) ?_
      refine go_bipush (v := 101) dX12_sortOf_32 (by decide) ?_
      refine go_bipush (v := 103) dX12_sortOf_34 (by decide) ?_
      refine go_bipush (v := 105) dX12_sortOf_36 (by decide) ?_
      refine go_bipush (v := 110) dX12_sortOf_38 (by decide) ?_
      refine go_bipush (v := 115) dX12_sortOf_40 (by decide) ?_
      refine go_callS mX12_w6 dX12_sortOf_42 lm_X12_251 okX12_w6 isX12_w6 (As := [.int 98, .int 101, .int 103, .int 105, .int 110, .int 115]) (S := [.ref (ga G 273)]) rfl rfl (Nat.le_of_ble_eq_true rfl) (eX12_w6 G _ 98 101 103 105 110 115 m1 (fun r m' => r = w6V 98 101 103 105 110 115 ∧ m1 = m') ⟨rfl, rfl⟩) (k_l (fun r m' hr => ?_))
      obtain ⟨hr1, hr2⟩ := hr
      subst hr1
      subst hr2
      rcases Classical.em (m1.1 273 10 = 2 ∧ m1.2.1 273 12 = (w6V 98 101 103 105 110 115)) with hp | hp
      · have hF := hF.1 hp
        refine go_callV mX12_isWord dX12_sortOf_45 lm_X12_206 okX12_isWord isX12_isWord sh_273 rfl (As := [.long (w6V 98 101 103 105 110 115)]) (S := []) rfl rfl (Nat.le_of_ble_eq_true rfl) (eX12_isWord G _ (w6V 98 101 103 105 110 115) m1 (fun r m' => r = 1 ∧ m1 = m') ⟨fun _ => ⟨rfl, rfl⟩, fun q => absurd hp q⟩) (k_i (fun r m' hr => ?_))
        obtain ⟨hr1, hr2⟩ := hr
        subst hr1
        subst hr2
        refine go_if_eq 53 dX12_sortOf_48 rfl ⟨fun hc => absurd hc (by decide), fun _ => ?_⟩
        refine go_iconst (v := 2) dX12_sortOf_51 (by decide) ?_
        exact go_iret (S := []) dX12_sortOf_52 rfl ⟨_, rfl, hF⟩
      · have hF := hF.2 hp
        refine go_callV mX12_isWord dX12_sortOf_45 lm_X12_206 okX12_isWord isX12_isWord sh_273 rfl (As := [.long (w6V 98 101 103 105 110 115)]) (S := []) rfl rfl (Nat.le_of_ble_eq_true rfl) (eX12_isWord G _ (w6V 98 101 103 105 110 115) m1 (fun r m' => r = 0 ∧ m1 = m') ⟨fun q => absurd q hp, fun _ => ⟨rfl, rfl⟩⟩) (k_i (fun r m' hr => ?_))
        obtain ⟨hr1, hr2⟩ := hr
        subst hr1
        subst hr2
        refine go_if_eq 53 dX12_sortOf_48 rfl ⟨fun _ => ?_, fun hc => absurd hc (by decide)⟩
        refine go_aload_n dX12_sortOf_53 rfl ?_
        refine go_bipush (v := 98) dX12_sortOf_54 (by decide) ?_
        refine go_bipush (v := 101) dX12_sortOf_56 (by decide) ?_
        refine go_bipush (v := 108) dX12_sortOf_58 (by decide) ?_
        refine go_bipush (v := 108) dX12_sortOf_60 (by decide) ?_
        refine go_callS mX12_w4 dX12_sortOf_62 lm_X12_143 okX12_w4 isX12_w4 (As := [.int 98, .int 101, .int 108, .int 108]) (S := [.ref (ga G 273)]) rfl rfl (Nat.le_of_ble_eq_true rfl) (eX12_w4 G _ 98 101 108 108 m1 (fun r m' => r = w4V 98 101 108 108 ∧ m1 = m') ⟨rfl, rfl⟩) (k_l (fun r m' hr => ?_))
        obtain ⟨hr1, hr2⟩ := hr
        subst hr1
        subst hr2
        rcases Classical.em (m1.1 273 10 = 2 ∧ m1.2.1 273 12 = (w4V 98 101 108 108)) with hp | hp
        · have hF := hF.1 hp
          refine go_callV mX12_isWord dX12_sortOf_65 lm_X12_206 okX12_isWord isX12_isWord sh_273 rfl (As := [.long (w4V 98 101 108 108)]) (S := []) rfl rfl (Nat.le_of_ble_eq_true rfl) (eX12_isWord G _ (w4V 98 101 108 108) m1 (fun r m' => r = 1 ∧ m1 = m') ⟨fun _ => ⟨rfl, rfl⟩, fun q => absurd hp q⟩) (k_i (fun r m' hr => ?_))
          obtain ⟨hr1, hr2⟩ := hr
          subst hr1
          subst hr2
          refine go_if_eq 73 dX12_sortOf_68 rfl ⟨fun hc => absurd hc (by decide), fun _ => ?_⟩
          refine go_iconst (v := 3) dX12_sortOf_71 (by decide) ?_
          exact go_iret (S := []) dX12_sortOf_72 rfl ⟨_, rfl, hF⟩
        · have hF := hF.2 hp
          refine go_callV mX12_isWord dX12_sortOf_65 lm_X12_206 okX12_isWord isX12_isWord sh_273 rfl (As := [.long (w4V 98 101 108 108)]) (S := []) rfl rfl (Nat.le_of_ble_eq_true rfl) (eX12_isWord G _ (w4V 98 101 108 108) m1 (fun r m' => r = 0 ∧ m1 = m') ⟨fun q => absurd q hp, fun _ => ⟨rfl, rfl⟩⟩) (k_i (fun r m' hr => ?_))
          obtain ⟨hr1, hr2⟩ := hr
          subst hr1
          subst hr2
          refine go_if_eq 73 dX12_sortOf_68 rfl ⟨fun _ => ?_, fun hc => absurd hc (by decide)⟩
          refine go_aload_n dX12_sortOf_73 rfl ?_
          refine go_bipush (v := 119) dX12_sortOf_74 (by decide) ?_
          refine go_bipush (v := 111) dX12_sortOf_76 (by decide) ?_
          refine go_bipush (v := 114) dX12_sortOf_78 (by decide) ?_
          refine go_bipush (v := 100) dX12_sortOf_80 (by decide) ?_
          refine go_callS mX12_w4 dX12_sortOf_82 lm_X12_143 okX12_w4 isX12_w4 (As := [.int 119, .int 111, .int 114, .int 100]) (S := [.ref (ga G 273)]) rfl rfl (Nat.le_of_ble_eq_true rfl) (eX12_w4 G _ 119 111 114 100 m1 (fun r m' => r = w4V 119 111 114 100 ∧ m1 = m') ⟨rfl, rfl⟩) (k_l (fun r m' hr => ?_))
          obtain ⟨hr1, hr2⟩ := hr
          subst hr1
          subst hr2
          rcases Classical.em (m1.1 273 10 = 2 ∧ m1.2.1 273 12 = (w4V 119 111 114 100)) with hp | hp
          · have hF := hF.1 hp
            refine go_callV mX12_isWord dX12_sortOf_85 lm_X12_206 okX12_isWord isX12_isWord sh_273 rfl (As := [.long (w4V 119 111 114 100)]) (S := []) rfl rfl (Nat.le_of_ble_eq_true rfl) (eX12_isWord G _ (w4V 119 111 114 100) m1 (fun r m' => r = 1 ∧ m1 = m') ⟨fun _ => ⟨rfl, rfl⟩, fun q => absurd hp q⟩) (k_i (fun r m' hr => ?_))
            obtain ⟨hr1, hr2⟩ := hr
            subst hr1
            subst hr2
            refine go_if_eq 93 dX12_sortOf_88 rfl ⟨fun hc => absurd hc (by decide), fun _ => ?_⟩
            refine go_iconst (v := 4) dX12_sortOf_91 (by decide) ?_
            exact go_iret (S := []) dX12_sortOf_92 rfl ⟨_, rfl, hF⟩
          · have hF := hF.2 hp
            refine go_callV mX12_isWord dX12_sortOf_85 lm_X12_206 okX12_isWord isX12_isWord sh_273 rfl (As := [.long (w4V 119 111 114 100)]) (S := []) rfl rfl (Nat.le_of_ble_eq_true rfl) (eX12_isWord G _ (w4V 119 111 114 100) m1 (fun r m' => r = 0 ∧ m1 = m') ⟨fun q => absurd q hp, fun _ => ⟨rfl, rfl⟩⟩) (k_i (fun r m' hr => ?_))
            obtain ⟨hr1, hr2⟩ := hr
            subst hr1
            subst hr2
            refine go_if_eq 93 dX12_sortOf_88 rfl ⟨fun _ => ?_, fun hc => absurd hc (by decide)⟩
            refine go_aload_n dX12_sortOf_93 rfl ?_
            refine go_bipush (v := 114) dX12_sortOf_94 (by decide) ?_
            refine go_bipush (v := 105) dX12_sortOf_96 (by decide) ?_
            refine go_bipush (v := 110) dX12_sortOf_98 (by decide) ?_
            refine go_bipush (v := 103) dX12_sortOf_100 (by decide) ?_
            refine go_callS mX12_w4 dX12_sortOf_102 lm_X12_143 okX12_w4 isX12_w4 (As := [.int 114, .int 105, .int 110, .int 103]) (S := [.ref (ga G 273)]) rfl rfl (Nat.le_of_ble_eq_true rfl) (eX12_w4 G _ 114 105 110 103 m1 (fun r m' => r = w4V 114 105 110 103 ∧ m1 = m') ⟨rfl, rfl⟩) (k_l (fun r m' hr => ?_))
            obtain ⟨hr1, hr2⟩ := hr
            subst hr1
            subst hr2
            rcases Classical.em (m1.1 273 10 = 2 ∧ m1.2.1 273 12 = (w4V 114 105 110 103)) with hp | hp
            · have hF := hF.1 hp
              refine go_callV mX12_isWord dX12_sortOf_105 lm_X12_206 okX12_isWord isX12_isWord sh_273 rfl (As := [.long (w4V 114 105 110 103)]) (S := []) rfl rfl (Nat.le_of_ble_eq_true rfl) (eX12_isWord G _ (w4V 114 105 110 103) m1 (fun r m' => r = 1 ∧ m1 = m') ⟨fun _ => ⟨rfl, rfl⟩, fun q => absurd hp q⟩) (k_i (fun r m' hr => ?_))
              obtain ⟨hr1, hr2⟩ := hr
              subst hr1
              subst hr2
              refine go_if_eq 113 dX12_sortOf_108 rfl ⟨fun hc => absurd hc (by decide), fun _ => ?_⟩
              refine go_iconst (v := 5) dX12_sortOf_111 (by decide) ?_
              exact go_iret (S := []) dX12_sortOf_112 rfl ⟨_, rfl, hF⟩
            · have hF := hF.2 hp
              refine go_callV mX12_isWord dX12_sortOf_105 lm_X12_206 okX12_isWord isX12_isWord sh_273 rfl (As := [.long (w4V 114 105 110 103)]) (S := []) rfl rfl (Nat.le_of_ble_eq_true rfl) (eX12_isWord G _ (w4V 114 105 110 103) m1 (fun r m' => r = 0 ∧ m1 = m') ⟨fun q => absurd q hp, fun _ => ⟨rfl, rfl⟩⟩) (k_i (fun r m' hr => ?_))
              obtain ⟨hr1, hr2⟩ := hr
              subst hr1
              subst hr2
              refine go_if_eq 113 dX12_sortOf_108 rfl ⟨fun _ => ?_, fun hc => absurd hc (by decide)⟩
              refine go_aload_n dX12_sortOf_113 rfl ?_
              refine go_bipush (v := 115) dX12_sortOf_114 (by decide) ?_
              refine go_bipush (v := 112) dX12_sortOf_116 (by decide) ?_
              refine go_bipush (v := 101) dX12_sortOf_118 (by decide) ?_
              refine go_bipush (v := 97) dX12_sortOf_120 (by decide) ?_
              refine go_bipush (v := 107) dX12_sortOf_122 (by decide) ?_
              refine go_callS mX12_w5 dX12_sortOf_124 lm_X12_147 okX12_w5 isX12_w5 (As := [.int 115, .int 112, .int 101, .int 97, .int 107]) (S := [.ref (ga G 273)]) rfl rfl (Nat.le_of_ble_eq_true rfl) (eX12_w5 G _ 115 112 101 97 107 m1 (fun r m' => r = w5V 115 112 101 97 107 ∧ m1 = m') ⟨rfl, rfl⟩) (k_l (fun r m' hr => ?_))
              obtain ⟨hr1, hr2⟩ := hr
              subst hr1
              subst hr2
              rcases Classical.em (m1.1 273 10 = 2 ∧ m1.2.1 273 12 = (w5V 115 112 101 97 107)) with hp | hp
              · have hF := hF.1 hp
                refine go_callV mX12_isWord dX12_sortOf_127 lm_X12_206 okX12_isWord isX12_isWord sh_273 rfl (As := [.long (w5V 115 112 101 97 107)]) (S := []) rfl rfl (Nat.le_of_ble_eq_true rfl) (eX12_isWord G _ (w5V 115 112 101 97 107) m1 (fun r m' => r = 1 ∧ m1 = m') ⟨fun _ => ⟨rfl, rfl⟩, fun q => absurd hp q⟩) (k_i (fun r m' hr => ?_))
                obtain ⟨hr1, hr2⟩ := hr
                subst hr1
                subst hr2
                refine go_if_eq 136 dX12_sortOf_130 rfl ⟨fun hc => absurd hc (by decide), fun _ => ?_⟩
                refine go_bipush (v := 6) dX12_sortOf_133 (by decide) ?_
                exact go_iret (S := []) dX12_sortOf_135 rfl ⟨_, rfl, hF⟩
              · have hF := hF.2 hp
                refine go_callV mX12_isWord dX12_sortOf_127 lm_X12_206 okX12_isWord isX12_isWord sh_273 rfl (As := [.long (w5V 115 112 101 97 107)]) (S := []) rfl rfl (Nat.le_of_ble_eq_true rfl) (eX12_isWord G _ (w5V 115 112 101 97 107) m1 (fun r m' => r = 0 ∧ m1 = m') ⟨fun q => absurd q hp, fun _ => ⟨rfl, rfl⟩⟩) (k_i (fun r m' hr => ?_))
                obtain ⟨hr1, hr2⟩ := hr
                subst hr1
                subst hr2
                refine go_if_eq 136 dX12_sortOf_130 rfl ⟨fun _ => ?_, fun hc => absurd hc (by decide)⟩
                refine go_aload_n dX12_sortOf_136 rfl ?_
                refine go_bipush (v := 119) dX12_sortOf_137 (by decide) ?_
                refine go_bipush (v := 105) dX12_sortOf_139 (by decide) ?_
                refine go_bipush (v := 110) dX12_sortOf_141 (by decide) ?_
                refine go_bipush (v := 100) dX12_sortOf_143 (by decide) ?_
                refine go_callS mX12_w4 dX12_sortOf_145 lm_X12_143 okX12_w4 isX12_w4 (As := [.int 119, .int 105, .int 110, .int 100]) (S := [.ref (ga G 273)]) rfl rfl (Nat.le_of_ble_eq_true rfl) (eX12_w4 G _ 119 105 110 100 m1 (fun r m' => r = w4V 119 105 110 100 ∧ m1 = m') ⟨rfl, rfl⟩) (k_l (fun r m' hr => ?_))
                obtain ⟨hr1, hr2⟩ := hr
                subst hr1
                subst hr2
                rcases Classical.em (m1.1 273 10 = 2 ∧ m1.2.1 273 12 = (w4V 119 105 110 100)) with hp | hp
                · have hF := hF.1 hp
                  refine go_callV mX12_isWord dX12_sortOf_148 lm_X12_206 okX12_isWord isX12_isWord sh_273 rfl (As := [.long (w4V 119 105 110 100)]) (S := []) rfl rfl (Nat.le_of_ble_eq_true rfl) (eX12_isWord G _ (w4V 119 105 110 100) m1 (fun r m' => r = 1 ∧ m1 = m') ⟨fun _ => ⟨rfl, rfl⟩, fun q => absurd hp q⟩) (k_i (fun r m' hr => ?_))
                  obtain ⟨hr1, hr2⟩ := hr
                  subst hr1
                  subst hr2
                  refine go_if_eq 157 dX12_sortOf_151 rfl ⟨fun hc => absurd hc (by decide), fun _ => ?_⟩
                  refine go_bipush (v := 7) dX12_sortOf_154 (by decide) ?_
                  exact go_iret (S := []) dX12_sortOf_156 rfl ⟨_, rfl, hF⟩
                · have hF := hF.2 hp
                  refine go_callV mX12_isWord dX12_sortOf_148 lm_X12_206 okX12_isWord isX12_isWord sh_273 rfl (As := [.long (w4V 119 105 110 100)]) (S := []) rfl rfl (Nat.le_of_ble_eq_true rfl) (eX12_isWord G _ (w4V 119 105 110 100) m1 (fun r m' => r = 0 ∧ m1 = m') ⟨fun q => absurd q hp, fun _ => ⟨rfl, rfl⟩⟩) (k_i (fun r m' hr => ?_))
                  obtain ⟨hr1, hr2⟩ := hr
                  subst hr1
                  subst hr2
                  refine go_if_eq 157 dX12_sortOf_151 rfl ⟨fun _ => ?_, fun hc => absurd hc (by decide)⟩
                  refine go_aload_n dX12_sortOf_157 rfl ?_
                  refine go_bipush (v := 102) dX12_sortOf_158 (by decide) ?_
                  refine go_bipush (v := 114) dX12_sortOf_160 (by decide) ?_
                  refine go_bipush (v := 111) dX12_sortOf_162 (by decide) ?_
                  refine go_bipush (v := 115) dX12_sortOf_164 (by decide) ?_
                  refine go_bipush (v := 116) dX12_sortOf_166 (by decide) ?_
                  refine go_callS mX12_w5 dX12_sortOf_168 lm_X12_147 okX12_w5 isX12_w5 (As := [.int 102, .int 114, .int 111, .int 115, .int 116]) (S := [.ref (ga G 273)]) rfl rfl (Nat.le_of_ble_eq_true rfl) (eX12_w5 G _ 102 114 111 115 116 m1 (fun r m' => r = w5V 102 114 111 115 116 ∧ m1 = m') ⟨rfl, rfl⟩) (k_l (fun r m' hr => ?_))
                  obtain ⟨hr1, hr2⟩ := hr
                  subst hr1
                  subst hr2
                  rcases Classical.em (m1.1 273 10 = 2 ∧ m1.2.1 273 12 = (w5V 102 114 111 115 116)) with hp | hp
                  · have hF := hF.1 hp
                    refine go_callV mX12_isWord dX12_sortOf_171 lm_X12_206 okX12_isWord isX12_isWord sh_273 rfl (As := [.long (w5V 102 114 111 115 116)]) (S := []) rfl rfl (Nat.le_of_ble_eq_true rfl) (eX12_isWord G _ (w5V 102 114 111 115 116) m1 (fun r m' => r = 1 ∧ m1 = m') ⟨fun _ => ⟨rfl, rfl⟩, fun q => absurd hp q⟩) (k_i (fun r m' hr => ?_))
                    obtain ⟨hr1, hr2⟩ := hr
                    subst hr1
                    subst hr2
                    refine go_if_eq 180 dX12_sortOf_174 rfl ⟨fun hc => absurd hc (by decide), fun _ => ?_⟩
                    refine go_bipush (v := 8) dX12_sortOf_177 (by decide) ?_
                    exact go_iret (S := []) dX12_sortOf_179 rfl ⟨_, rfl, hF⟩
                  · have hF := hF.2 hp
                    refine go_callV mX12_isWord dX12_sortOf_171 lm_X12_206 okX12_isWord isX12_isWord sh_273 rfl (As := [.long (w5V 102 114 111 115 116)]) (S := []) rfl rfl (Nat.le_of_ble_eq_true rfl) (eX12_isWord G _ (w5V 102 114 111 115 116) m1 (fun r m' => r = 0 ∧ m1 = m') ⟨fun q => absurd q hp, fun _ => ⟨rfl, rfl⟩⟩) (k_i (fun r m' hr => ?_))
                    obtain ⟨hr1, hr2⟩ := hr
                    subst hr1
                    subst hr2
                    refine go_if_eq 180 dX12_sortOf_174 rfl ⟨fun _ => ?_, fun hc => absurd hc (by decide)⟩
                    refine go_aload_n dX12_sortOf_180 rfl ?_
                    refine go_bipush (v := 104) dX12_sortOf_181 (by decide) ?_
                    refine go_bipush (v := 111) dX12_sortOf_183 (by decide) ?_
                    refine go_bipush (v := 117) dX12_sortOf_185 (by decide) ?_
                    refine go_bipush (v := 114) dX12_sortOf_187 (by decide) ?_
                    refine go_callS mX12_w4 dX12_sortOf_189 lm_X12_143 okX12_w4 isX12_w4 (As := [.int 104, .int 111, .int 117, .int 114]) (S := [.ref (ga G 273)]) rfl rfl (Nat.le_of_ble_eq_true rfl) (eX12_w4 G _ 104 111 117 114 m1 (fun r m' => r = w4V 104 111 117 114 ∧ m1 = m') ⟨rfl, rfl⟩) (k_l (fun r m' hr => ?_))
                    obtain ⟨hr1, hr2⟩ := hr
                    subst hr1
                    subst hr2
                    rcases Classical.em (m1.1 273 10 = 2 ∧ m1.2.1 273 12 = (w4V 104 111 117 114)) with hp | hp
                    · have hF := hF.1 hp
                      refine go_callV mX12_isWord dX12_sortOf_192 lm_X12_206 okX12_isWord isX12_isWord sh_273 rfl (As := [.long (w4V 104 111 117 114)]) (S := []) rfl rfl (Nat.le_of_ble_eq_true rfl) (eX12_isWord G _ (w4V 104 111 117 114) m1 (fun r m' => r = 1 ∧ m1 = m') ⟨fun _ => ⟨rfl, rfl⟩, fun q => absurd hp q⟩) (k_i (fun r m' hr => ?_))
                      obtain ⟨hr1, hr2⟩ := hr
                      subst hr1
                      subst hr2
                      refine go_if_eq 203 dX12_sortOf_195 rfl ⟨fun hc => absurd hc (by decide), fun _ => ?_⟩
                      refine go_bipush (v := 9) dX12_sortOf_198 (by decide) ?_
                      refine go_goto 231 dX12_sortOf_200 rfl ?_
                      exact go_iret (S := []) dX12_sortOf_231 rfl ⟨_, rfl, hF⟩
                    · have hF := hF.2 hp
                      refine go_callV mX12_isWord dX12_sortOf_192 lm_X12_206 okX12_isWord isX12_isWord sh_273 rfl (As := [.long (w4V 104 111 117 114)]) (S := []) rfl rfl (Nat.le_of_ble_eq_true rfl) (eX12_isWord G _ (w4V 104 111 117 114) m1 (fun r m' => r = 0 ∧ m1 = m') ⟨fun q => absurd q hp, fun _ => ⟨rfl, rfl⟩⟩) (k_i (fun r m' hr => ?_))
                      obtain ⟨hr1, hr2⟩ := hr
                      subst hr1
                      subst hr2
                      refine go_if_eq 203 dX12_sortOf_195 rfl ⟨fun _ => ?_, fun hc => absurd hc (by decide)⟩
                      refine go_aload_n dX12_sortOf_203 rfl ?_
                      refine go_bipush (v := 115) dX12_sortOf_204 (by decide) ?_
                      refine go_bipush (v := 117) dX12_sortOf_206 (by decide) ?_
                      refine go_bipush (v := 110) dX12_sortOf_208 (by decide) ?_
                      refine go_bipush (v := 100) dX12_sortOf_210 (by decide) ?_
                      refine go_bipush (v := 97) dX12_sortOf_212 (by decide) ?_
                      refine go_bipush (v := 121) dX12_sortOf_214 (by decide) ?_
                      refine go_callS mX12_w6 dX12_sortOf_216 lm_X12_251 okX12_w6 isX12_w6 (As := [.int 115, .int 117, .int 110, .int 100, .int 97, .int 121]) (S := [.ref (ga G 273)]) rfl rfl (Nat.le_of_ble_eq_true rfl) (eX12_w6 G _ 115 117 110 100 97 121 m1 (fun r m' => r = w6V 115 117 110 100 97 121 ∧ m1 = m') ⟨rfl, rfl⟩) (k_l (fun r m' hr => ?_))
                      obtain ⟨hr1, hr2⟩ := hr
                      subst hr1
                      subst hr2
                      rcases Classical.em (m1.1 273 10 = 2 ∧ m1.2.1 273 12 = (w6V 115 117 110 100 97 121)) with hp | hp
                      · have hF := hF.1 hp
                        refine go_callV mX12_isWord dX12_sortOf_219 lm_X12_206 okX12_isWord isX12_isWord sh_273 rfl (As := [.long (w6V 115 117 110 100 97 121)]) (S := []) rfl rfl (Nat.le_of_ble_eq_true rfl) (eX12_isWord G _ (w6V 115 117 110 100 97 121) m1 (fun r m' => r = 1 ∧ m1 = m') ⟨fun _ => ⟨rfl, rfl⟩, fun q => absurd hp q⟩) (k_i (fun r m' hr => ?_))
                        obtain ⟨hr1, hr2⟩ := hr
                        subst hr1
                        subst hr2
                        refine go_if_eq 230 dX12_sortOf_222 rfl ⟨fun hc => absurd hc (by decide), fun _ => ?_⟩
                        refine go_bipush (v := 10) dX12_sortOf_225 (by decide) ?_
                        refine go_goto 231 dX12_sortOf_227 rfl ?_
                        exact go_iret (S := []) dX12_sortOf_231 rfl ⟨_, rfl, hF⟩
                      · have hF := hF.2 hp
                        refine go_callV mX12_isWord dX12_sortOf_219 lm_X12_206 okX12_isWord isX12_isWord sh_273 rfl (As := [.long (w6V 115 117 110 100 97 121)]) (S := []) rfl rfl (Nat.le_of_ble_eq_true rfl) (eX12_isWord G _ (w6V 115 117 110 100 97 121) m1 (fun r m' => r = 0 ∧ m1 = m') ⟨fun q => absurd q hp, fun _ => ⟨rfl, rfl⟩⟩) (k_i (fun r m' hr => ?_))
                        obtain ⟨hr1, hr2⟩ := hr
                        subst hr1
                        subst hr2
                        refine go_if_eq 230 dX12_sortOf_222 rfl ⟨fun _ => ?_, fun hc => absurd hc (by decide)⟩
                        refine go_iconst (v := -1) dX12_sortOf_230 (by decide) ?_
                        exact go_iret (S := []) dX12_sortOf_231 rfl ⟨_, rfl, hF⟩
    · have hF := hF.2 hc
      refine go_iconst (v := 1) dX12_sortOf_27 (by decide) ?_
      exact go_iret (S := []) dX12_sortOf_28 rfl ⟨_, rfl, hF⟩
theorem vX12_clause (G : GP) (d : Nat)  (m : Mem) (K : Int32 → Mem → Prop) (hF : Evi G (d + 9) mX12_sortOf [.ref (ga G 273)] m (fun r2 m1 => ((0 ≤ r2) → ((2 < r2) → vp_in (m1.1 273 13) 3204 ∧ ∀ x3 : Int32, x3 = m1.1 276 (m1.1 273 13).toNatClampNeg → ((¬ x3 = 24) → ((2 < r2) → ∀ m4 : Mem, m4 = wI m1 273 15 r2 → Evv G (d + 9) mX12_nextToken [.ref (ga G 273)] m4 (fun m5 => ∀ x6 : Int32, x6 = ((m5.1 273 13) + 1) + ((8 : Int32) * x3) → vp_in x6 3204 ∧ ∀ m7 : Mem, m7 = wI m5 276 x6.toNatClampNeg r2 → Evi G (d + 9) mX12_body [.ref (ga G 273), .int r2, .int x6] m7 (fun r9 m8 => ((r9 = 0) → vp_in (m8.1 273 13) 3204 ∧ vp_in (m8.1 273 13) 3204 ∧ ∀ m10 : Mem, m10 = wI m8 276 (m8.1 273 13).toNatClampNeg ((m8.1 276 (m8.1 273 13).toNatClampNeg) + 1) → (((m10.1 273 10) = 59) → Evv G (d + 9) mX12_nextToken [.ref (ga G 273)] m10 (fun m11 => K 0 m11)) ∧ ((¬ (m10.1 273 10) = 59) → K 1 m10)) ∧ ((¬ r9 = 0) → K r9 m8)))) ∧ ((¬ 2 < r2) → ∀ m12 : Mem, m12 = wI m1 273 20 ((m1.1 273 20) ||| ((1 : Int32) <<< (r2 &&& 31))) → ∀ m13 : Mem, m13 = wI m12 273 15 r2 → Evv G (d + 9) mX12_nextToken [.ref (ga G 273)] m13 (fun m14 => ∀ x15 : Int32, x15 = ((m14.1 273 13) + 1) + ((8 : Int32) * x3) → vp_in x15 3204 ∧ ∀ m16 : Mem, m16 = wI m14 276 x15.toNatClampNeg r2 → Evi G (d + 9) mX12_body [.ref (ga G 273), .int r2, .int x15] m16 (fun r18 m17 => ((r18 = 0) → vp_in (m17.1 273 13) 3204 ∧ vp_in (m17.1 273 13) 3204 ∧ ∀ m19 : Mem, m19 = wI m17 276 (m17.1 273 13).toNatClampNeg ((m17.1 276 (m17.1 273 13).toNatClampNeg) + 1) → (((m19.1 273 10) = 59) → Evv G (d + 9) mX12_nextToken [.ref (ga G 273)] m19 (fun m20 => K 0 m20)) ∧ ((¬ (m19.1 273 10) = 59) → K 1 m19)) ∧ ((¬ r18 = 0) → K r18 m17))))) ∧ ((x3 = 24) → K 6 m1)) ∧ ((¬ 2 < r2) → ((((m1.1 273 20) >>> (r2 &&& 31)) &&& 1 = 1) → K 4 m1) ∧ (¬ (((m1.1 273 20) >>> (r2 &&& 31)) &&& 1 = 1) → vp_in (m1.1 273 13) 3204 ∧ ∀ x21 : Int32, x21 = m1.1 276 (m1.1 273 13).toNatClampNeg → ((¬ x21 = 24) → ((2 < r2) → ∀ m22 : Mem, m22 = wI m1 273 15 r2 → Evv G (d + 9) mX12_nextToken [.ref (ga G 273)] m22 (fun m23 => ∀ x24 : Int32, x24 = ((m23.1 273 13) + 1) + ((8 : Int32) * x21) → vp_in x24 3204 ∧ ∀ m25 : Mem, m25 = wI m23 276 x24.toNatClampNeg r2 → Evi G (d + 9) mX12_body [.ref (ga G 273), .int r2, .int x24] m25 (fun r27 m26 => ((r27 = 0) → vp_in (m26.1 273 13) 3204 ∧ vp_in (m26.1 273 13) 3204 ∧ ∀ m28 : Mem, m28 = wI m26 276 (m26.1 273 13).toNatClampNeg ((m26.1 276 (m26.1 273 13).toNatClampNeg) + 1) → (((m28.1 273 10) = 59) → Evv G (d + 9) mX12_nextToken [.ref (ga G 273)] m28 (fun m29 => K 0 m29)) ∧ ((¬ (m28.1 273 10) = 59) → K 1 m28)) ∧ ((¬ r27 = 0) → K r27 m26)))) ∧ ((¬ 2 < r2) → ∀ m30 : Mem, m30 = wI m1 273 20 ((m1.1 273 20) ||| ((1 : Int32) <<< (r2 &&& 31))) → ∀ m31 : Mem, m31 = wI m30 273 15 r2 → Evv G (d + 9) mX12_nextToken [.ref (ga G 273)] m31 (fun m32 => ∀ x33 : Int32, x33 = ((m32.1 273 13) + 1) + ((8 : Int32) * x21) → vp_in x33 3204 ∧ ∀ m34 : Mem, m34 = wI m32 276 x33.toNatClampNeg r2 → Evi G (d + 9) mX12_body [.ref (ga G 273), .int r2, .int x33] m34 (fun r36 m35 => ((r36 = 0) → vp_in (m35.1 273 13) 3204 ∧ vp_in (m35.1 273 13) 3204 ∧ ∀ m37 : Mem, m37 = wI m35 276 (m35.1 273 13).toNatClampNeg ((m35.1 276 (m35.1 273 13).toNatClampNeg) + 1) → (((m37.1 273 10) = 59) → Evv G (d + 9) mX12_nextToken [.ref (ga G 273)] m37 (fun m38 => K 0 m38)) ∧ ((¬ (m37.1 273 10) = 59) → K 1 m37)) ∧ ((¬ r36 = 0) → K r36 m35))))) ∧ ((x21 = 24) → K 6 m1)))) ∧ ((¬ 0 ≤ r2) → K 1 m1))) : Evi G (d + 10) mX12_clause [.ref (ga G 273)] m K := by
  refine Ev.go [.ref (ga G 273), uu, uu, uu, uu] (by decide) (Nat.le_of_ble_eq_true rfl) rfl ?_
  refine go_aload_n dX12_clause_0 rfl ?_
  refine go_callV mX12_sortOf dX12_clause_1 lm_X12_255 okX12_sortOf isX12_sortOf sh_273 rfl (As := []) (S := []) rfl rfl (Nat.le_of_ble_eq_true rfl) hF (k_i (fun r2 m1 hF => ?_))
  refine go_istore_n (L' := [.ref (ga G 273), .int r2, uu, uu, uu]) dX12_clause_4 (Nat.le_of_ble_eq_true rfl) rfl ?_
  refine go_iload_n dX12_clause_5 rfl ?_
  refine go_if_ge 11 dX12_clause_6 rfl ⟨fun hc => ?_, fun hc => ?_⟩
  · have hF := hF.1 hc
    refine go_iload_n dX12_clause_11 rfl ?_
    refine go_iconst (v := 2) dX12_clause_12 (by decide) ?_
    refine go_icmp_gt 29 dX12_clause_13 rfl ⟨fun hc => ?_, fun hc => ?_⟩
    · have hF := hF.1 hc
      refine go_aload_n dX12_clause_29 rfl ?_
      refine go_getR (k := 2) (r := 276) dX12_clause_30 sh_273 rfl inX12 (Nat.le_of_ble_eq_true rfl) lf_X12_16 rfl rfl ?_
      refine go_aload_n dX12_clause_33 rfl ?_
      refine go_getI (k := 13) dX12_clause_34 sh_273 rfl inX12 (Nat.le_of_ble_eq_true rfl) lf_X12_151 rfl ?_
      obtain ⟨hi, hF⟩ := hF
      refine go_iald dX12_clause_37 sh_276 hi ?_
      refine Gw.namei (fun x3 ex3 => ?_)
      have hF := hF x3 ex3
      refine go_istore_n (L' := [.ref (ga G 273), .int r2, .int x3, uu, uu]) dX12_clause_38 (Nat.le_of_ble_eq_true rfl) rfl ?_
      refine go_iload_n dX12_clause_39 rfl ?_
      refine go_bipush (v := 24) dX12_clause_40 (by decide) ?_
      refine go_icmp_ne 48 dX12_clause_42 rfl ⟨fun hc => ?_, fun hc => ?_⟩
      · have hF := hF.1 hc
        refine go_iload_n dX12_clause_48 rfl ?_
        refine go_iconst (v := 2) dX12_clause_49 (by decide) ?_
        refine go_icmp_gt 65 dX12_clause_50 rfl ⟨fun hc => ?_, fun hc => ?_⟩
        · have hF := hF.1 hc
          refine go_aload_n dX12_clause_65 rfl ?_
          refine go_iload_n dX12_clause_66 rfl ?_
          refine go_putI (k := 15) dX12_clause_67 sh_273 rfl inX12 (Nat.le_of_ble_eq_true rfl) lf_X12_168 tyX12 tyX12_ok nmX12 rfl rfl (by decide +kernel) ?_
          obtain ⟨m4, em4⟩ : ∃ z : Mem, z = wI m1 273 15 r2 := ⟨_, rfl⟩
          rw [← em4]
          have hF := hF m4 em4
          refine go_aload_n dX12_clause_70 rfl ?_
          refine go_callV mX12_nextToken dX12_clause_71 lm_X12_187 okX12_nextToken isX12_nextToken sh_273 rfl (As := []) (S := []) rfl rfl (Nat.le_of_ble_eq_true rfl) hF (k_v (fun m5 hF => ?_))
          refine go_aload_n dX12_clause_74 rfl ?_
          refine go_getI (k := 13) dX12_clause_75 sh_273 rfl inX12 (Nat.le_of_ble_eq_true rfl) lf_X12_151 rfl ?_
          refine go_iconst (v := 1) dX12_clause_78 (by decide) ?_
          refine go_iadd dX12_clause_79 ?_
          refine go_bipush (v := 8) dX12_clause_80 (by decide) ?_
          refine go_iload_n dX12_clause_82 rfl ?_
          refine go_imul dX12_clause_83 ?_
          refine go_iadd dX12_clause_84 ?_
          refine Gw.namei (fun x6 ex6 => ?_)
          have hF := hF x6 ex6
          refine go_istore_n (L' := [.ref (ga G 273), .int r2, .int x3, .int x6, uu]) dX12_clause_85 (Nat.le_of_ble_eq_true rfl) rfl ?_
          refine go_aload_n dX12_clause_86 rfl ?_
          refine go_getR (k := 2) (r := 276) dX12_clause_87 sh_273 rfl inX12 (Nat.le_of_ble_eq_true rfl) lf_X12_16 rfl rfl ?_
          refine go_iload_n dX12_clause_90 rfl ?_
          refine go_iload_n dX12_clause_91 rfl ?_
          obtain ⟨hi, hF⟩ := hF
          refine go_iast dX12_clause_92 sh_276 hi ?_
          obtain ⟨m7, em7⟩ : ∃ z : Mem, z = wI m5 276 x6.toNatClampNeg r2 := ⟨_, rfl⟩
          rw [← em7]
          have hF := hF m7 em7
          refine go_aload_n dX12_clause_93 rfl ?_
          refine go_iload_n dX12_clause_94 rfl ?_
          refine go_iload_n dX12_clause_95 rfl ?_
          refine go_callV mX12_body dX12_clause_96 lm_X12_265 okX12_body isX12_body sh_273 rfl (As := [.int r2, .int x6]) (S := []) rfl rfl (Nat.le_of_ble_eq_true rfl) hF (k_i (fun r9 m8 hF => ?_))
          refine go_istore (L' := [.ref (ga G 273), .int r2, .int x3, .int x6, .int r9]) dX12_clause_99 (Nat.le_of_ble_eq_true rfl) rfl ?_
          refine go_iload dX12_clause_101 rfl ?_
          refine go_if_eq 109 dX12_clause_103 rfl ⟨fun hc => ?_, fun hc => ?_⟩
          · have hF := hF.1 hc
            refine go_aload_n dX12_clause_109 rfl ?_
            refine go_getR (k := 2) (r := 276) dX12_clause_110 sh_273 rfl inX12 (Nat.le_of_ble_eq_true rfl) lf_X12_16 rfl rfl ?_
            refine go_aload_n dX12_clause_113 rfl ?_
            refine go_getI (k := 13) dX12_clause_114 sh_273 rfl inX12 (Nat.le_of_ble_eq_true rfl) lf_X12_151 rfl ?_
            refine go_dup2 dX12_clause_117 rfl rfl ?_
            obtain ⟨hi, hF⟩ := hF
            refine go_iald dX12_clause_118 sh_276 hi ?_
            refine go_iconst (v := 1) dX12_clause_119 (by decide) ?_
            refine go_iadd dX12_clause_120 ?_
            obtain ⟨hi, hF⟩ := hF
            refine go_iast dX12_clause_121 sh_276 hi ?_
            obtain ⟨m10, em10⟩ : ∃ z : Mem, z = wI m8 276 (m8.1 273 13).toNatClampNeg ((m8.1 276 (m8.1 273 13).toNatClampNeg) + 1) := ⟨_, rfl⟩
            rw [← em10]
            have hF := hF m10 em10
            refine go_aload_n dX12_clause_122 rfl ?_
            refine go_getI (k := 10) dX12_clause_123 sh_273 rfl inX12 (Nat.le_of_ble_eq_true rfl) lf_X12_113 rfl ?_
            refine go_bipush (v := 59) dX12_clause_126 (by decide) ?_
            refine go_icmp_eq 133 dX12_clause_128 rfl ⟨fun hc => ?_, fun hc => ?_⟩
            · have hF := hF.1 hc
              refine go_aload_n dX12_clause_133 rfl ?_
              refine go_callV mX12_nextToken dX12_clause_134 lm_X12_187 okX12_nextToken isX12_nextToken sh_273 rfl (As := []) (S := []) rfl rfl (Nat.le_of_ble_eq_true rfl) hF (k_v (fun m11 hF => ?_))
              refine go_iconst (v := 0) dX12_clause_137 (by decide) ?_
              exact go_iret (S := []) dX12_clause_138 rfl ⟨_, rfl, hF⟩
            · have hF := hF.2 hc
              refine go_iconst (v := 1) dX12_clause_131 (by decide) ?_
              exact go_iret (S := []) dX12_clause_132 rfl ⟨_, rfl, hF⟩
          · have hF := hF.2 hc
            refine go_iload dX12_clause_106 rfl ?_
            exact go_iret (S := []) dX12_clause_108 rfl ⟨_, rfl, hF⟩
        · have hF := hF.2 hc
          refine go_aload_n dX12_clause_53 rfl ?_
          refine go_dup dX12_clause_54 rfl ?_
          refine go_getI (k := 20) dX12_clause_55 sh_273 rfl inX12 (Nat.le_of_ble_eq_true rfl) lf_X12_258 rfl ?_
          refine go_iconst (v := 1) dX12_clause_58 (by decide) ?_
          refine go_iload_n dX12_clause_59 rfl ?_
          refine go_ishl dX12_clause_60 ?_
          refine go_ior dX12_clause_61 ?_
          refine go_putI (k := 20) dX12_clause_62 sh_273 rfl inX12 (Nat.le_of_ble_eq_true rfl) lf_X12_258 tyX12 tyX12_ok nmX12 rfl rfl (by decide +kernel) ?_
          obtain ⟨m12, em12⟩ : ∃ z : Mem, z = wI m1 273 20 ((m1.1 273 20) ||| ((1 : Int32) <<< (r2 &&& 31))) := ⟨_, rfl⟩
          rw [← em12]
          have hF := hF m12 em12
          refine go_aload_n dX12_clause_65 rfl ?_
          refine go_iload_n dX12_clause_66 rfl ?_
          refine go_putI (k := 15) dX12_clause_67 sh_273 rfl inX12 (Nat.le_of_ble_eq_true rfl) lf_X12_168 tyX12 tyX12_ok nmX12 rfl rfl (by decide +kernel) ?_
          obtain ⟨m13, em13⟩ : ∃ z : Mem, z = wI m12 273 15 r2 := ⟨_, rfl⟩
          rw [← em13]
          have hF := hF m13 em13
          refine go_aload_n dX12_clause_70 rfl ?_
          refine go_callV mX12_nextToken dX12_clause_71 lm_X12_187 okX12_nextToken isX12_nextToken sh_273 rfl (As := []) (S := []) rfl rfl (Nat.le_of_ble_eq_true rfl) hF (k_v (fun m14 hF => ?_))
          refine go_aload_n dX12_clause_74 rfl ?_
          refine go_getI (k := 13) dX12_clause_75 sh_273 rfl inX12 (Nat.le_of_ble_eq_true rfl) lf_X12_151 rfl ?_
          refine go_iconst (v := 1) dX12_clause_78 (by decide) ?_
          refine go_iadd dX12_clause_79 ?_
          refine go_bipush (v := 8) dX12_clause_80 (by decide) ?_
          refine go_iload_n dX12_clause_82 rfl ?_
          refine go_imul dX12_clause_83 ?_
          refine go_iadd dX12_clause_84 ?_
          refine Gw.namei (fun x15 ex15 => ?_)
          have hF := hF x15 ex15
          refine go_istore_n (L' := [.ref (ga G 273), .int r2, .int x3, .int x15, uu]) dX12_clause_85 (Nat.le_of_ble_eq_true rfl) rfl ?_
          refine go_aload_n dX12_clause_86 rfl ?_
          refine go_getR (k := 2) (r := 276) dX12_clause_87 sh_273 rfl inX12 (Nat.le_of_ble_eq_true rfl) lf_X12_16 rfl rfl ?_
          refine go_iload_n dX12_clause_90 rfl ?_
          refine go_iload_n dX12_clause_91 rfl ?_
          obtain ⟨hi, hF⟩ := hF
          refine go_iast dX12_clause_92 sh_276 hi ?_
          obtain ⟨m16, em16⟩ : ∃ z : Mem, z = wI m14 276 x15.toNatClampNeg r2 := ⟨_, rfl⟩
          rw [← em16]
          have hF := hF m16 em16
          refine go_aload_n dX12_clause_93 rfl ?_
          refine go_iload_n dX12_clause_94 rfl ?_
          refine go_iload_n dX12_clause_95 rfl ?_
          refine go_callV mX12_body dX12_clause_96 lm_X12_265 okX12_body isX12_body sh_273 rfl (As := [.int r2, .int x15]) (S := []) rfl rfl (Nat.le_of_ble_eq_true rfl) hF (k_i (fun r18 m17 hF => ?_))
          refine go_istore (L' := [.ref (ga G 273), .int r2, .int x3, .int x15, .int r18]) dX12_clause_99 (Nat.le_of_ble_eq_true rfl) rfl ?_
          refine go_iload dX12_clause_101 rfl ?_
          refine go_if_eq 109 dX12_clause_103 rfl ⟨fun hc => ?_, fun hc => ?_⟩
          · have hF := hF.1 hc
            refine go_aload_n dX12_clause_109 rfl ?_
            refine go_getR (k := 2) (r := 276) dX12_clause_110 sh_273 rfl inX12 (Nat.le_of_ble_eq_true rfl) lf_X12_16 rfl rfl ?_
            refine go_aload_n dX12_clause_113 rfl ?_
            refine go_getI (k := 13) dX12_clause_114 sh_273 rfl inX12 (Nat.le_of_ble_eq_true rfl) lf_X12_151 rfl ?_
            refine go_dup2 dX12_clause_117 rfl rfl ?_
            obtain ⟨hi, hF⟩ := hF
            refine go_iald dX12_clause_118 sh_276 hi ?_
            refine go_iconst (v := 1) dX12_clause_119 (by decide) ?_
            refine go_iadd dX12_clause_120 ?_
            obtain ⟨hi, hF⟩ := hF
            refine go_iast dX12_clause_121 sh_276 hi ?_
            obtain ⟨m19, em19⟩ : ∃ z : Mem, z = wI m17 276 (m17.1 273 13).toNatClampNeg ((m17.1 276 (m17.1 273 13).toNatClampNeg) + 1) := ⟨_, rfl⟩
            rw [← em19]
            have hF := hF m19 em19
            refine go_aload_n dX12_clause_122 rfl ?_
            refine go_getI (k := 10) dX12_clause_123 sh_273 rfl inX12 (Nat.le_of_ble_eq_true rfl) lf_X12_113 rfl ?_
            refine go_bipush (v := 59) dX12_clause_126 (by decide) ?_
            refine go_icmp_eq 133 dX12_clause_128 rfl ⟨fun hc => ?_, fun hc => ?_⟩
            · have hF := hF.1 hc
              refine go_aload_n dX12_clause_133 rfl ?_
              refine go_callV mX12_nextToken dX12_clause_134 lm_X12_187 okX12_nextToken isX12_nextToken sh_273 rfl (As := []) (S := []) rfl rfl (Nat.le_of_ble_eq_true rfl) hF (k_v (fun m20 hF => ?_))
              refine go_iconst (v := 0) dX12_clause_137 (by decide) ?_
              exact go_iret (S := []) dX12_clause_138 rfl ⟨_, rfl, hF⟩
            · have hF := hF.2 hc
              refine go_iconst (v := 1) dX12_clause_131 (by decide) ?_
              exact go_iret (S := []) dX12_clause_132 rfl ⟨_, rfl, hF⟩
          · have hF := hF.2 hc
            refine go_iload dX12_clause_106 rfl ?_
            exact go_iret (S := []) dX12_clause_108 rfl ⟨_, rfl, hF⟩
      · have hF := hF.2 hc
        refine go_bipush (v := 6) dX12_clause_45 (by decide) ?_
        exact go_iret (S := []) dX12_clause_47 rfl ⟨_, rfl, hF⟩
    · have hF := hF.2 hc
      refine go_aload_n dX12_clause_16 rfl ?_
      refine go_getI (k := 20) dX12_clause_17 sh_273 rfl inX12 (Nat.le_of_ble_eq_true rfl) lf_X12_258 rfl ?_
      refine go_iload_n dX12_clause_20 rfl ?_
      rcases Classical.em (((m1.1 273 20) >>> (r2 &&& 31)) &&& 1 = 1) with hp | hp
      · have hF := hF.1 hp
        refine go_callS mX12_has dX12_clause_21 lm_X12_261 okX12_has isX12_has (As := [.int (m1.1 273 20), .int r2]) (S := []) rfl rfl (Nat.le_of_ble_eq_true rfl) (eX12_has G _ (m1.1 273 20) r2 m1 (fun r m' => r = 1 ∧ m1 = m') ⟨fun _ => ⟨rfl, rfl⟩, fun q => absurd hp q⟩) (k_i (fun r m' hr => ?_))
        obtain ⟨hr1, hr2⟩ := hr
        subst hr1
        subst hr2
        refine go_if_eq 29 dX12_clause_24 rfl ⟨fun hc => absurd hc (by decide), fun _ => ?_⟩
        refine go_iconst (v := 4) dX12_clause_27 (by decide) ?_
        exact go_iret (S := []) dX12_clause_28 rfl ⟨_, rfl, hF⟩
      · have hF := hF.2 hp
        refine go_callS mX12_has dX12_clause_21 lm_X12_261 okX12_has isX12_has (As := [.int (m1.1 273 20), .int r2]) (S := []) rfl rfl (Nat.le_of_ble_eq_true rfl) (eX12_has G _ (m1.1 273 20) r2 m1 (fun r m' => r = 0 ∧ m1 = m') ⟨fun q => absurd q hp, fun _ => ⟨rfl, rfl⟩⟩) (k_i (fun r m' hr => ?_))
        obtain ⟨hr1, hr2⟩ := hr
        subst hr1
        subst hr2
        refine go_if_eq 29 dX12_clause_24 rfl ⟨fun _ => ?_, fun hc => absurd hc (by decide)⟩
        refine go_aload_n dX12_clause_29 rfl ?_
        refine go_getR (k := 2) (r := 276) dX12_clause_30 sh_273 rfl inX12 (Nat.le_of_ble_eq_true rfl) lf_X12_16 rfl rfl ?_
        refine go_aload_n dX12_clause_33 rfl ?_
        refine go_getI (k := 13) dX12_clause_34 sh_273 rfl inX12 (Nat.le_of_ble_eq_true rfl) lf_X12_151 rfl ?_
        obtain ⟨hi, hF⟩ := hF
        refine go_iald dX12_clause_37 sh_276 hi ?_
        refine Gw.namei (fun x21 ex21 => ?_)
        have hF := hF x21 ex21
        refine go_istore_n (L' := [.ref (ga G 273), .int r2, .int x21, uu, uu]) dX12_clause_38 (Nat.le_of_ble_eq_true rfl) rfl ?_
        refine go_iload_n dX12_clause_39 rfl ?_
        refine go_bipush (v := 24) dX12_clause_40 (by decide) ?_
        refine go_icmp_ne 48 dX12_clause_42 rfl ⟨fun hc => ?_, fun hc => ?_⟩
        · have hF := hF.1 hc
          refine go_iload_n dX12_clause_48 rfl ?_
          refine go_iconst (v := 2) dX12_clause_49 (by decide) ?_
          refine go_icmp_gt 65 dX12_clause_50 rfl ⟨fun hc => ?_, fun hc => ?_⟩
          · have hF := hF.1 hc
            refine go_aload_n dX12_clause_65 rfl ?_
            refine go_iload_n dX12_clause_66 rfl ?_
            refine go_putI (k := 15) dX12_clause_67 sh_273 rfl inX12 (Nat.le_of_ble_eq_true rfl) lf_X12_168 tyX12 tyX12_ok nmX12 rfl rfl (by decide +kernel) ?_
            obtain ⟨m22, em22⟩ : ∃ z : Mem, z = wI m1 273 15 r2 := ⟨_, rfl⟩
            rw [← em22]
            have hF := hF m22 em22
            refine go_aload_n dX12_clause_70 rfl ?_
            refine go_callV mX12_nextToken dX12_clause_71 lm_X12_187 okX12_nextToken isX12_nextToken sh_273 rfl (As := []) (S := []) rfl rfl (Nat.le_of_ble_eq_true rfl) hF (k_v (fun m23 hF => ?_))
            refine go_aload_n dX12_clause_74 rfl ?_
            refine go_getI (k := 13) dX12_clause_75 sh_273 rfl inX12 (Nat.le_of_ble_eq_true rfl) lf_X12_151 rfl ?_
            refine go_iconst (v := 1) dX12_clause_78 (by decide) ?_
            refine go_iadd dX12_clause_79 ?_
            refine go_bipush (v := 8) dX12_clause_80 (by decide) ?_
            refine go_iload_n dX12_clause_82 rfl ?_
            refine go_imul dX12_clause_83 ?_
            refine go_iadd dX12_clause_84 ?_
            refine Gw.namei (fun x24 ex24 => ?_)
            have hF := hF x24 ex24
            refine go_istore_n (L' := [.ref (ga G 273), .int r2, .int x21, .int x24, uu]) dX12_clause_85 (Nat.le_of_ble_eq_true rfl) rfl ?_
            refine go_aload_n dX12_clause_86 rfl ?_
            refine go_getR (k := 2) (r := 276) dX12_clause_87 sh_273 rfl inX12 (Nat.le_of_ble_eq_true rfl) lf_X12_16 rfl rfl ?_
            refine go_iload_n dX12_clause_90 rfl ?_
            refine go_iload_n dX12_clause_91 rfl ?_
            obtain ⟨hi, hF⟩ := hF
            refine go_iast dX12_clause_92 sh_276 hi ?_
            obtain ⟨m25, em25⟩ : ∃ z : Mem, z = wI m23 276 x24.toNatClampNeg r2 := ⟨_, rfl⟩
            rw [← em25]
            have hF := hF m25 em25
            refine go_aload_n dX12_clause_93 rfl ?_
            refine go_iload_n dX12_clause_94 rfl ?_
            refine go_iload_n dX12_clause_95 rfl ?_
            refine go_callV mX12_body dX12_clause_96 lm_X12_265 okX12_body isX12_body sh_273 rfl (As := [.int r2, .int x24]) (S := []) rfl rfl (Nat.le_of_ble_eq_true rfl) hF (k_i (fun r27 m26 hF => ?_))
            refine go_istore (L' := [.ref (ga G 273), .int r2, .int x21, .int x24, .int r27]) dX12_clause_99 (Nat.le_of_ble_eq_true rfl) rfl ?_
            refine go_iload dX12_clause_101 rfl ?_
            refine go_if_eq 109 dX12_clause_103 rfl ⟨fun hc => ?_, fun hc => ?_⟩
            · have hF := hF.1 hc
              refine go_aload_n dX12_clause_109 rfl ?_
              refine go_getR (k := 2) (r := 276) dX12_clause_110 sh_273 rfl inX12 (Nat.le_of_ble_eq_true rfl) lf_X12_16 rfl rfl ?_
              refine go_aload_n dX12_clause_113 rfl ?_
              refine go_getI (k := 13) dX12_clause_114 sh_273 rfl inX12 (Nat.le_of_ble_eq_true rfl) lf_X12_151 rfl ?_
              refine go_dup2 dX12_clause_117 rfl rfl ?_
              obtain ⟨hi, hF⟩ := hF
              refine go_iald dX12_clause_118 sh_276 hi ?_
              refine go_iconst (v := 1) dX12_clause_119 (by decide) ?_
              refine go_iadd dX12_clause_120 ?_
              obtain ⟨hi, hF⟩ := hF
              refine go_iast dX12_clause_121 sh_276 hi ?_
              obtain ⟨m28, em28⟩ : ∃ z : Mem, z = wI m26 276 (m26.1 273 13).toNatClampNeg ((m26.1 276 (m26.1 273 13).toNatClampNeg) + 1) := ⟨_, rfl⟩
              rw [← em28]
              have hF := hF m28 em28
              refine go_aload_n dX12_clause_122 rfl ?_
              refine go_getI (k := 10) dX12_clause_123 sh_273 rfl inX12 (Nat.le_of_ble_eq_true rfl) lf_X12_113 rfl ?_
              refine go_bipush (v := 59) dX12_clause_126 (by decide) ?_
              refine go_icmp_eq 133 dX12_clause_128 rfl ⟨fun hc => ?_, fun hc => ?_⟩
              · have hF := hF.1 hc
                refine go_aload_n dX12_clause_133 rfl ?_
                refine go_callV mX12_nextToken dX12_clause_134 lm_X12_187 okX12_nextToken isX12_nextToken sh_273 rfl (As := []) (S := []) rfl rfl (Nat.le_of_ble_eq_true rfl) hF (k_v (fun m29 hF => ?_))
                refine go_iconst (v := 0) dX12_clause_137 (by decide) ?_
                exact go_iret (S := []) dX12_clause_138 rfl ⟨_, rfl, hF⟩
              · have hF := hF.2 hc
                refine go_iconst (v := 1) dX12_clause_131 (by decide) ?_
                exact go_iret (S := []) dX12_clause_132 rfl ⟨_, rfl, hF⟩
            · have hF := hF.2 hc
              refine go_iload dX12_clause_106 rfl ?_
              exact go_iret (S := []) dX12_clause_108 rfl ⟨_, rfl, hF⟩
          · have hF := hF.2 hc
            refine go_aload_n dX12_clause_53 rfl ?_
            refine go_dup dX12_clause_54 rfl ?_
            refine go_getI (k := 20) dX12_clause_55 sh_273 rfl inX12 (Nat.le_of_ble_eq_true rfl) lf_X12_258 rfl ?_
            refine go_iconst (v := 1) dX12_clause_58 (by decide) ?_
            refine go_iload_n dX12_clause_59 rfl ?_
            refine go_ishl dX12_clause_60 ?_
            refine go_ior dX12_clause_61 ?_
            refine go_putI (k := 20) dX12_clause_62 sh_273 rfl inX12 (Nat.le_of_ble_eq_true rfl) lf_X12_258 tyX12 tyX12_ok nmX12 rfl rfl (by decide +kernel) ?_
            obtain ⟨m30, em30⟩ : ∃ z : Mem, z = wI m1 273 20 ((m1.1 273 20) ||| ((1 : Int32) <<< (r2 &&& 31))) := ⟨_, rfl⟩
            rw [← em30]
            have hF := hF m30 em30
            refine go_aload_n dX12_clause_65 rfl ?_
            refine go_iload_n dX12_clause_66 rfl ?_
            refine go_putI (k := 15) dX12_clause_67 sh_273 rfl inX12 (Nat.le_of_ble_eq_true rfl) lf_X12_168 tyX12 tyX12_ok nmX12 rfl rfl (by decide +kernel) ?_
            obtain ⟨m31, em31⟩ : ∃ z : Mem, z = wI m30 273 15 r2 := ⟨_, rfl⟩
            rw [← em31]
            have hF := hF m31 em31
            refine go_aload_n dX12_clause_70 rfl ?_
            refine go_callV mX12_nextToken dX12_clause_71 lm_X12_187 okX12_nextToken isX12_nextToken sh_273 rfl (As := []) (S := []) rfl rfl (Nat.le_of_ble_eq_true rfl) hF (k_v (fun m32 hF => ?_))
            refine go_aload_n dX12_clause_74 rfl ?_
            refine go_getI (k := 13) dX12_clause_75 sh_273 rfl inX12 (Nat.le_of_ble_eq_true rfl) lf_X12_151 rfl ?_
            refine go_iconst (v := 1) dX12_clause_78 (by decide) ?_
            refine go_iadd dX12_clause_79 ?_
            refine go_bipush (v := 8) dX12_clause_80 (by decide) ?_
            refine go_iload_n dX12_clause_82 rfl ?_
            refine go_imul dX12_clause_83 ?_
            refine go_iadd dX12_clause_84 ?_
            refine Gw.namei (fun x33 ex33 => ?_)
            have hF := hF x33 ex33
            refine go_istore_n (L' := [.ref (ga G 273), .int r2, .int x21, .int x33, uu]) dX12_clause_85 (Nat.le_of_ble_eq_true rfl) rfl ?_
            refine go_aload_n dX12_clause_86 rfl ?_
            refine go_getR (k := 2) (r := 276) dX12_clause_87 sh_273 rfl inX12 (Nat.le_of_ble_eq_true rfl) lf_X12_16 rfl rfl ?_
            refine go_iload_n dX12_clause_90 rfl ?_
            refine go_iload_n dX12_clause_91 rfl ?_
            obtain ⟨hi, hF⟩ := hF
            refine go_iast dX12_clause_92 sh_276 hi ?_
            obtain ⟨m34, em34⟩ : ∃ z : Mem, z = wI m32 276 x33.toNatClampNeg r2 := ⟨_, rfl⟩
            rw [← em34]
            have hF := hF m34 em34
            refine go_aload_n dX12_clause_93 rfl ?_
            refine go_iload_n dX12_clause_94 rfl ?_
            refine go_iload_n dX12_clause_95 rfl ?_
            refine go_callV mX12_body dX12_clause_96 lm_X12_265 okX12_body isX12_body sh_273 rfl (As := [.int r2, .int x33]) (S := []) rfl rfl (Nat.le_of_ble_eq_true rfl) hF (k_i (fun r36 m35 hF => ?_))
            refine go_istore (L' := [.ref (ga G 273), .int r2, .int x21, .int x33, .int r36]) dX12_clause_99 (Nat.le_of_ble_eq_true rfl) rfl ?_
            refine go_iload dX12_clause_101 rfl ?_
            refine go_if_eq 109 dX12_clause_103 rfl ⟨fun hc => ?_, fun hc => ?_⟩
            · have hF := hF.1 hc
              refine go_aload_n dX12_clause_109 rfl ?_
              refine go_getR (k := 2) (r := 276) dX12_clause_110 sh_273 rfl inX12 (Nat.le_of_ble_eq_true rfl) lf_X12_16 rfl rfl ?_
              refine go_aload_n dX12_clause_113 rfl ?_
              refine go_getI (k := 13) dX12_clause_114 sh_273 rfl inX12 (Nat.le_of_ble_eq_true rfl) lf_X12_151 rfl ?_
              refine go_dup2 dX12_clause_117 rfl rfl ?_
              obtain ⟨hi, hF⟩ := hF
              refine go_iald dX12_clause_118 sh_276 hi ?_
              refine go_iconst (v := 1) dX12_clause_119 (by decide) ?_
              refine go_iadd dX12_clause_120 ?_
              obtain ⟨hi, hF⟩ := hF
              refine go_iast dX12_clause_121 sh_276 hi ?_
              obtain ⟨m37, em37⟩ : ∃ z : Mem, z = wI m35 276 (m35.1 273 13).toNatClampNeg ((m35.1 276 (m35.1 273 13).toNatClampNeg) + 1) := ⟨_, rfl⟩
              rw [← em37]
              have hF := hF m37 em37
              refine go_aload_n dX12_clause_122 rfl ?_
              refine go_getI (k := 10) dX12_clause_123 sh_273 rfl inX12 (Nat.le_of_ble_eq_true rfl) lf_X12_113 rfl ?_
              refine go_bipush (v := 59) dX12_clause_126 (by decide) ?_
              refine go_icmp_eq 133 dX12_clause_128 rfl ⟨fun hc => ?_, fun hc => ?_⟩
              · have hF := hF.1 hc
                refine go_aload_n dX12_clause_133 rfl ?_
                refine go_callV mX12_nextToken dX12_clause_134 lm_X12_187 okX12_nextToken isX12_nextToken sh_273 rfl (As := []) (S := []) rfl rfl (Nat.le_of_ble_eq_true rfl) hF (k_v (fun m38 hF => ?_))
                refine go_iconst (v := 0) dX12_clause_137 (by decide) ?_
                exact go_iret (S := []) dX12_clause_138 rfl ⟨_, rfl, hF⟩
              · have hF := hF.2 hc
                refine go_iconst (v := 1) dX12_clause_131 (by decide) ?_
                exact go_iret (S := []) dX12_clause_132 rfl ⟨_, rfl, hF⟩
            · have hF := hF.2 hc
              refine go_iload dX12_clause_106 rfl ?_
              exact go_iret (S := []) dX12_clause_108 rfl ⟨_, rfl, hF⟩
        · have hF := hF.2 hc
          refine go_bipush (v := 6) dX12_clause_45 (by decide) ?_
          exact go_iret (S := []) dX12_clause_47 rfl ⟨_, rfl, hF⟩
  · have hF := hF.2 hc
    refine go_iconst (v := 1) dX12_clause_9 (by decide) ?_
    exact go_iret (S := []) dX12_clause_10 rfl ⟨_, rfl, hF⟩
theorem vX12_readText (G : GP) (d : Nat)  (m : Mem) (K : Int32 → Mem → Prop) (hF : ∀ m1 : Mem, m1 = wI m 273 13 ((801 : Int32) * (m.1 274 2)) → vp_in (m1.1 273 13) 3204 ∧ ∀ m2 : Mem, m2 = wI m1 276 (m1.1 273 13).toNatClampNeg 0 → ∀ m3 : Mem, m3 = wI m2 273 14 0 → ∀ m4 : Mem, m4 = wI m3 273 20 0 → ∀ m5 : Mem, m5 = wI m4 273 8 0 → Evv G (d + 10) mX12_nextToken [.ref (ga G 273)] m5 (fun m6 => Gw G (d + 11) mX12_readText 43 [.ref (ga G 273), uu] [] m6 (Qi K))) : Evi G (d + 11) mX12_readText [.ref (ga G 273)] m K := by
  refine Ev.go [.ref (ga G 273), uu] (by decide) (Nat.le_of_ble_eq_true rfl) rfl ?_
  refine go_aload_n dX12_readText_0 rfl ?_
  refine go_sipush (v := 801) dX12_readText_1 (by decide) ?_
  refine go_aload_n dX12_readText_4 rfl ?_
  refine go_getR (k := 0) (r := 274) dX12_readText_5 sh_273 rfl inX12 (Nat.le_of_ble_eq_true rfl) lf_X12_7 rfl rfl ?_
  refine go_iconst (v := 2) dX12_readText_8 (by decide) ?_
  refine go_ialdK (k := 2) dX12_readText_9 sh_274 (vp_in_dec (by decide)) (by decide) ?_
  refine go_imul dX12_readText_10 ?_
  refine go_putI (k := 13) dX12_readText_11 sh_273 rfl inX12 (Nat.le_of_ble_eq_true rfl) lf_X12_151 tyX12 tyX12_ok nmX12 rfl rfl (by decide +kernel) ?_
  obtain ⟨m1, em1⟩ : ∃ z : Mem, z = wI m 273 13 ((801 : Int32) * (m.1 274 2)) := ⟨_, rfl⟩
  rw [← em1]
  have hF := hF m1 em1
  refine go_aload_n dX12_readText_14 rfl ?_
  refine go_getR (k := 2) (r := 276) dX12_readText_15 sh_273 rfl inX12 (Nat.le_of_ble_eq_true rfl) lf_X12_16 rfl rfl ?_
  refine go_aload_n dX12_readText_18 rfl ?_
  refine go_getI (k := 13) dX12_readText_19 sh_273 rfl inX12 (Nat.le_of_ble_eq_true rfl) lf_X12_151 rfl ?_
  refine go_iconst (v := 0) dX12_readText_22 (by decide) ?_
  obtain ⟨hi, hF⟩ := hF
  refine go_iast dX12_readText_23 sh_276 hi ?_
  obtain ⟨m2, em2⟩ : ∃ z : Mem, z = wI m1 276 (m1.1 273 13).toNatClampNeg 0 := ⟨_, rfl⟩
  rw [← em2]
  have hF := hF m2 em2
  refine go_aload_n dX12_readText_24 rfl ?_
  refine go_iconst (v := 0) dX12_readText_25 (by decide) ?_
  refine go_putI (k := 14) dX12_readText_26 sh_273 rfl inX12 (Nat.le_of_ble_eq_true rfl) lf_X12_154 tyX12 tyX12_ok nmX12 rfl rfl (by decide +kernel) ?_
  obtain ⟨m3, em3⟩ : ∃ z : Mem, z = wI m2 273 14 0 := ⟨_, rfl⟩
  rw [← em3]
  have hF := hF m3 em3
  refine go_aload_n dX12_readText_29 rfl ?_
  refine go_iconst (v := 0) dX12_readText_30 (by decide) ?_
  refine go_putI (k := 20) dX12_readText_31 sh_273 rfl inX12 (Nat.le_of_ble_eq_true rfl) lf_X12_258 tyX12 tyX12_ok nmX12 rfl rfl (by decide +kernel) ?_
  obtain ⟨m4, em4⟩ : ∃ z : Mem, z = wI m3 273 20 0 := ⟨_, rfl⟩
  rw [← em4]
  have hF := hF m4 em4
  refine go_aload_n dX12_readText_34 rfl ?_
  refine go_iconst (v := 0) dX12_readText_35 (by decide) ?_
  refine go_putI (k := 8) dX12_readText_36 sh_273 rfl inX12 (Nat.le_of_ble_eq_true rfl) lf_X12_103 tyX12 tyX12_ok nmX12 rfl rfl (by decide +kernel) ?_
  obtain ⟨m5, em5⟩ : ∃ z : Mem, z = wI m4 273 8 0 := ⟨_, rfl⟩
  rw [← em5]
  have hF := hF m5 em5
  refine go_aload_n dX12_readText_39 rfl ?_
  refine go_callV mX12_nextToken dX12_readText_40 lm_X12_187 okX12_nextToken isX12_nextToken sh_273 rfl (As := []) (S := []) rfl rfl (Nat.le_of_ble_eq_true rfl) hF (k_v (fun m6 hF => ?_))
  exact hF
theorem vX12_readText_43 (G : GP) (d : Nat) (u1 : Value) (m : Mem) (K : Int32 → Mem → Prop) (hF : (((m.1 273 10) = 0) → K 0 m) ∧ ((¬ (m.1 273 10) = 0) → Evi G (d + 10) mX12_clause [.ref (ga G 273)] m (fun r8 m7 => ((r8 = 0) → Gw G (d + 11) mX12_readText 43 [.ref (ga G 273), .int r8] [] m7 (Qi K)) ∧ ((¬ r8 = 0) → K r8 m7)))) : Gw G (d + 11) mX12_readText 43 [.ref (ga G 273), u1] [] m (Qi K) := by
  refine Gw.weak (L' := [.ref (ga G 273), uu]) ⟨Or.inl rfl, Or.inr rfl, trivial⟩ ?_
  refine go_aload_n dX12_readText_43 rfl ?_
  refine go_getI (k := 10) dX12_readText_44 sh_273 rfl inX12 (Nat.le_of_ble_eq_true rfl) lf_X12_113 rfl ?_
  refine go_if_eq 64 dX12_readText_47 rfl ⟨fun hc => ?_, fun hc => ?_⟩
  · have hF := hF.1 hc
    refine go_iconst (v := 0) dX12_readText_64 (by decide) ?_
    exact go_iret (S := []) dX12_readText_65 rfl ⟨_, rfl, hF⟩
  · have hF := hF.2 hc
    refine go_aload_n dX12_readText_50 rfl ?_
    refine go_callV mX12_clause dX12_readText_51 lm_X12_268 okX12_clause isX12_clause sh_273 rfl (As := []) (S := []) rfl rfl (Nat.le_of_ble_eq_true rfl) hF (k_i (fun r8 m7 hF => ?_))
    refine go_istore_n (L' := [.ref (ga G 273), .int r8]) dX12_readText_54 (Nat.le_of_ble_eq_true rfl) rfl ?_
    refine go_iload_n dX12_readText_55 rfl ?_
    refine go_if_eq 61 dX12_readText_56 rfl ⟨fun hc => ?_, fun hc => ?_⟩
    · have hF := hF.1 hc
      refine go_goto 43 dX12_readText_61 rfl ?_
      exact hF
    · have hF := hF.2 hc
      refine go_iload_n dX12_readText_59 rfl ?_
      exact go_iret (S := []) dX12_readText_60 rfl ⟨_, rfl, hF⟩
theorem vX12_text (G : GP) (d : Nat)  (m : Mem) (K : Int32 → Mem → Prop) (hF : ((¬ (m.1 274 2) = 4) → Evi G (d + 11) mX12_readText [.ref (ga G 273)] m (fun r2 m1 => ∀ m3 : Mem, m3 = wI m1 273 6 r2 → ((¬ (m3.1 273 6) = 0) → ∀ m4 : Mem, m4 = wI m3 273 7 (m3.1 273 9) → ∀ m5 : Mem, m5 = wI m4 273 5 0 → (((m5.1 273 6) = 0) → ∀ m6 : Mem, m6 = wI m5 274 2 ((m5.1 274 2) + 1) → K ((m6.1 274 2) - 1) m6) ∧ ((¬ (m5.1 273 6) = 0) → K (-1) m5)) ∧ (((m3.1 273 6) = 0) → ∀ m7 : Mem, m7 = wI m3 273 7 (-1) → ∀ m8 : Mem, m8 = wI m7 273 5 0 → (((m8.1 273 6) = 0) → ∀ m9 : Mem, m9 = wI m8 274 2 ((m8.1 274 2) + 1) → K ((m9.1 274 2) - 1) m9) ∧ ((¬ (m8.1 273 6) = 0) → K (-1) m8)))) ∧ (((m.1 274 2) = 4) → K (-1) m)) : Evi G (d + 12) mX12_text [.ref (ga G 273)] m K := by
  refine Ev.go [.ref (ga G 273)] (by decide) (Nat.le_of_ble_eq_true rfl) rfl ?_
  refine go_aload_n dX12_text_0 rfl ?_
  refine go_getR (k := 0) (r := 274) dX12_text_1 sh_273 rfl inX12 (Nat.le_of_ble_eq_true rfl) lf_X12_7 rfl rfl ?_
  refine go_iconst (v := 2) dX12_text_4 (by decide) ?_
  refine go_ialdK (k := 2) dX12_text_5 sh_274 (vp_in_dec (by decide)) (by decide) ?_
  refine go_iconst (v := 4) dX12_text_6 (by decide) ?_
  refine go_icmp_ne 12 dX12_text_7 rfl ⟨fun hc => ?_, fun hc => ?_⟩
  · have hF := hF.1 hc
    refine go_aload_n dX12_text_12 rfl ?_
    refine go_aload_n dX12_text_13 rfl ?_
    refine go_callV mX12_readText dX12_text_14 lm_X12_271 okX12_readText isX12_readText sh_273 rfl (As := []) (S := [.ref (ga G 273)]) rfl rfl (Nat.le_of_ble_eq_true rfl) hF (k_i (fun r2 m1 hF => ?_))
    refine go_putI (k := 6) dX12_text_17 sh_273 rfl inX12 (Nat.le_of_ble_eq_true rfl) lf_X12_25 tyX12 tyX12_ok nmX12 rfl rfl (by decide +kernel) ?_
    obtain ⟨m3, em3⟩ : ∃ z : Mem, z = wI m1 273 6 r2 := ⟨_, rfl⟩
    rw [← em3]
    have hF := hF m3 em3
    refine go_aload_n dX12_text_20 rfl ?_
    refine go_aload_n dX12_text_21 rfl ?_
    refine go_getI (k := 6) dX12_text_22 sh_273 rfl inX12 (Nat.le_of_ble_eq_true rfl) lf_X12_25 rfl ?_
    refine go_if_ne 32 dX12_text_25 rfl ⟨fun hc => ?_, fun hc => ?_⟩
    · have hF := hF.1 hc
      refine go_aload_n dX12_text_32 rfl ?_
      refine go_getI (k := 9) dX12_text_33 sh_273 rfl inX12 (Nat.le_of_ble_eq_true rfl) lf_X12_110 rfl ?_
      refine go_putI (k := 7) dX12_text_36 sh_273 rfl inX12 (Nat.le_of_ble_eq_true rfl) lf_X12_29 tyX12 tyX12_ok nmX12 rfl rfl (by decide +kernel) ?_
      obtain ⟨m4, em4⟩ : ∃ z : Mem, z = wI m3 273 7 (m3.1 273 9) := ⟨_, rfl⟩
      rw [← em4]
      have hF := hF m4 em4
      refine go_aload_n dX12_text_39 rfl ?_
      refine go_iconst (v := 0) dX12_text_40 (by decide) ?_
      refine go_putI (k := 5) dX12_text_41 sh_273 rfl inX12 (Nat.le_of_ble_eq_true rfl) lf_X12_96 tyX12 tyX12_ok nmX12 rfl rfl (by decide +kernel) ?_
      obtain ⟨m5, em5⟩ : ∃ z : Mem, z = wI m4 273 5 0 := ⟨_, rfl⟩
      rw [← em5]
      have hF := hF m5 em5
      refine go_aload_n dX12_text_44 rfl ?_
      refine go_getI (k := 6) dX12_text_45 sh_273 rfl inX12 (Nat.le_of_ble_eq_true rfl) lf_X12_25 rfl ?_
      refine go_if_eq 53 dX12_text_48 rfl ⟨fun hc => ?_, fun hc => ?_⟩
      · have hF := hF.1 hc
        refine go_aload_n dX12_text_53 rfl ?_
        refine go_getR (k := 0) (r := 274) dX12_text_54 sh_273 rfl inX12 (Nat.le_of_ble_eq_true rfl) lf_X12_7 rfl rfl ?_
        refine go_iconst (v := 2) dX12_text_57 (by decide) ?_
        refine go_dup2 dX12_text_58 rfl rfl ?_
        refine go_ialdK (k := 2) dX12_text_59 sh_274 (vp_in_dec (by decide)) (by decide) ?_
        refine go_iconst (v := 1) dX12_text_60 (by decide) ?_
        refine go_iadd dX12_text_61 ?_
        refine go_iastK (k := 2) dX12_text_62 sh_274 (vp_in_dec (by decide)) (by decide) ?_
        obtain ⟨m6, em6⟩ : ∃ z : Mem, z = wI m5 274 2 ((m5.1 274 2) + 1) := ⟨_, rfl⟩
        rw [← em6]
        have hF := hF m6 em6
        refine go_aload_n dX12_text_63 rfl ?_
        refine go_getR (k := 0) (r := 274) dX12_text_64 sh_273 rfl inX12 (Nat.le_of_ble_eq_true rfl) lf_X12_7 rfl rfl ?_
        refine go_iconst (v := 2) dX12_text_67 (by decide) ?_
        refine go_ialdK (k := 2) dX12_text_68 sh_274 (vp_in_dec (by decide)) (by decide) ?_
        refine go_iconst (v := 1) dX12_text_69 (by decide) ?_
        refine go_isub dX12_text_70 ?_
        exact go_iret (S := []) dX12_text_71 rfl ⟨_, rfl, hF⟩
      · have hF := hF.2 hc
        refine go_iconst (v := -1) dX12_text_51 (by decide) ?_
        exact go_iret (S := []) dX12_text_52 rfl ⟨_, rfl, hF⟩
    · have hF := hF.2 hc
      refine go_iconst (v := -1) dX12_text_28 (by decide) ?_
      refine go_goto 36 dX12_text_29 rfl ?_
      refine go_putI (k := 7) dX12_text_36 sh_273 rfl inX12 (Nat.le_of_ble_eq_true rfl) lf_X12_29 tyX12 tyX12_ok nmX12 rfl rfl (by decide +kernel) ?_
      obtain ⟨m7, em7⟩ : ∃ z : Mem, z = wI m3 273 7 (-1) := ⟨_, rfl⟩
      rw [← em7]
      have hF := hF m7 em7
      refine go_aload_n dX12_text_39 rfl ?_
      refine go_iconst (v := 0) dX12_text_40 (by decide) ?_
      refine go_putI (k := 5) dX12_text_41 sh_273 rfl inX12 (Nat.le_of_ble_eq_true rfl) lf_X12_96 tyX12 tyX12_ok nmX12 rfl rfl (by decide +kernel) ?_
      obtain ⟨m8, em8⟩ : ∃ z : Mem, z = wI m7 273 5 0 := ⟨_, rfl⟩
      rw [← em8]
      have hF := hF m8 em8
      refine go_aload_n dX12_text_44 rfl ?_
      refine go_getI (k := 6) dX12_text_45 sh_273 rfl inX12 (Nat.le_of_ble_eq_true rfl) lf_X12_25 rfl ?_
      refine go_if_eq 53 dX12_text_48 rfl ⟨fun hc => ?_, fun hc => ?_⟩
      · have hF := hF.1 hc
        refine go_aload_n dX12_text_53 rfl ?_
        refine go_getR (k := 0) (r := 274) dX12_text_54 sh_273 rfl inX12 (Nat.le_of_ble_eq_true rfl) lf_X12_7 rfl rfl ?_
        refine go_iconst (v := 2) dX12_text_57 (by decide) ?_
        refine go_dup2 dX12_text_58 rfl rfl ?_
        refine go_ialdK (k := 2) dX12_text_59 sh_274 (vp_in_dec (by decide)) (by decide) ?_
        refine go_iconst (v := 1) dX12_text_60 (by decide) ?_
        refine go_iadd dX12_text_61 ?_
        refine go_iastK (k := 2) dX12_text_62 sh_274 (vp_in_dec (by decide)) (by decide) ?_
        obtain ⟨m9, em9⟩ : ∃ z : Mem, z = wI m8 274 2 ((m8.1 274 2) + 1) := ⟨_, rfl⟩
        rw [← em9]
        have hF := hF m9 em9
        refine go_aload_n dX12_text_63 rfl ?_
        refine go_getR (k := 0) (r := 274) dX12_text_64 sh_273 rfl inX12 (Nat.le_of_ble_eq_true rfl) lf_X12_7 rfl rfl ?_
        refine go_iconst (v := 2) dX12_text_67 (by decide) ?_
        refine go_ialdK (k := 2) dX12_text_68 sh_274 (vp_in_dec (by decide)) (by decide) ?_
        refine go_iconst (v := 1) dX12_text_69 (by decide) ?_
        refine go_isub dX12_text_70 ?_
        exact go_iret (S := []) dX12_text_71 rfl ⟨_, rfl, hF⟩
      · have hF := hF.2 hc
        refine go_iconst (v := -1) dX12_text_51 (by decide) ?_
        exact go_iret (S := []) dX12_text_52 rfl ⟨_, rfl, hF⟩
  · have hF := hF.2 hc
    refine go_iconst (v := -1) dX12_text_10 (by decide) ?_
    exact go_iret (S := []) dX12_text_11 rfl ⟨_, rfl, hF⟩
theorem vX12_fault (G : GP) (d : Nat) (a0 : Int32) (m : Mem) (K : Int32 → Mem → Prop) (hF : ((¬ a0 = 0) → ((¬ a0 = 1) → K (-1) m) ∧ ((a0 = 1) → K (m.1 273 7) m)) ∧ ((a0 = 0) → K (m.1 273 6) m)) : Evi G (d) mX12_fault [.ref (ga G 273), .int a0] m K := by
  refine Ev.go [.ref (ga G 273), .int a0] (by decide) (Nat.le_of_ble_eq_true rfl) rfl ?_
  refine go_iload_n dX12_fault_0 rfl ?_
  refine go_if_ne 11 dX12_fault_1 rfl ⟨fun hc => ?_, fun hc => ?_⟩
  · have hF := hF.1 hc
    refine go_iload_n dX12_fault_11 rfl ?_
    refine go_iconst (v := 1) dX12_fault_12 (by decide) ?_
    refine go_icmp_ne 23 dX12_fault_13 rfl ⟨fun hc => ?_, fun hc => ?_⟩
    · have hF := hF.1 hc
      refine go_iconst (v := -1) dX12_fault_23 (by decide) ?_
      exact go_iret (S := []) dX12_fault_24 rfl ⟨_, rfl, hF⟩
    · have hF := hF.2 hc
      refine go_aload_n dX12_fault_16 rfl ?_
      refine go_getI (k := 7) dX12_fault_17 sh_273 rfl inX12 (Nat.le_of_ble_eq_true rfl) lf_X12_29 rfl ?_
      refine go_goto 24 dX12_fault_20 rfl ?_
      exact go_iret (S := []) dX12_fault_24 rfl ⟨_, rfl, hF⟩
  · have hF := hF.2 hc
    refine go_aload_n dX12_fault_4 rfl ?_
    refine go_getI (k := 6) dX12_fault_5 sh_273 rfl inX12 (Nat.le_of_ble_eq_true rfl) lf_X12_25 rfl ?_
    refine go_goto 24 dX12_fault_8 rfl ?_
    exact go_iret (S := []) dX12_fault_24 rfl ⟨_, rfl, hF⟩
theorem vX12_by (G : GP) (d : Nat) (a0 : Int32) (m : Mem) (K : Int32 → Mem → Prop) (hF : (((-1) ≤ a0 ∧ a0 ≤ ((m.1 274 2) - 1)) → ∀ m1 : Mem, m1 = wI m 274 3 a0 → K 1 m1) ∧ (¬ ((-1) ≤ a0 ∧ a0 ≤ ((m.1 274 2) - 1)) → K 0 m)) : Evi G (d + 1) mX12_by [.ref (ga G 273), .int a0] m K := by
  refine Ev.go [.ref (ga G 273), .int a0] (by decide) (Nat.le_of_ble_eq_true rfl) rfl ?_
  refine go_iload_n dX12_by_0 rfl ?_
  refine go_iconst (v := -1) dX12_by_1 (by decide) ?_
  refine go_aload_n dX12_by_2 rfl ?_
  refine go_getR (k := 0) (r := 274) dX12_by_3 sh_273 rfl inX12 (Nat.le_of_ble_eq_true rfl) lf_X12_7 rfl rfl ?_
  refine go_iconst (v := 2) dX12_by_6 (by decide) ?_
  refine go_ialdK (k := 2) dX12_by_7 sh_274 (vp_in_dec (by decide)) (by decide) ?_
  refine go_iconst (v := 1) dX12_by_8 (by decide) ?_
  refine go_isub dX12_by_9 ?_
  rcases Classical.em ((-1) ≤ a0 ∧ a0 ≤ ((m.1 274 2) - 1)) with hp | hp
  · have hF := hF.1 hp
    refine go_callS mX12_isIn dX12_by_10 lm_X12_80 okX12_isIn isX12_isIn (As := [.int a0, .int (-1), .int ((m.1 274 2) - 1)]) (S := []) rfl rfl (Nat.le_of_ble_eq_true rfl) (eX12_isIn G _ a0 (-1) ((m.1 274 2) - 1) m (fun r m' => r = 1 ∧ m = m') ⟨fun _ => ⟨rfl, rfl⟩, fun q => absurd hp q⟩) (k_i (fun r m' hr => ?_))
    obtain ⟨hr1, hr2⟩ := hr
    subst hr1
    subst hr2
    refine go_if_ne 18 dX12_by_13 rfl ⟨fun _ => ?_, fun hc => absurd hc (by decide)⟩
    refine go_aload_n dX12_by_18 rfl ?_
    refine go_getR (k := 0) (r := 274) dX12_by_19 sh_273 rfl inX12 (Nat.le_of_ble_eq_true rfl) lf_X12_7 rfl rfl ?_
    refine go_iconst (v := 3) dX12_by_22 (by decide) ?_
    refine go_iload_n dX12_by_23 rfl ?_
    refine go_iastK (k := 3) dX12_by_24 sh_274 (vp_in_dec (by decide)) (by decide) ?_
    obtain ⟨m1, em1⟩ : ∃ z : Mem, z = wI m 274 3 a0 := ⟨_, rfl⟩
    rw [← em1]
    have hF := hF m1 em1
    refine go_iconst (v := 1) dX12_by_25 (by decide) ?_
    exact go_zret (S := []) dX12_by_26 rfl (by decide) ⟨_, rfl, hF⟩
  · have hF := hF.2 hp
    refine go_callS mX12_isIn dX12_by_10 lm_X12_80 okX12_isIn isX12_isIn (As := [.int a0, .int (-1), .int ((m.1 274 2) - 1)]) (S := []) rfl rfl (Nat.le_of_ble_eq_true rfl) (eX12_isIn G _ a0 (-1) ((m.1 274 2) - 1) m (fun r m' => r = 0 ∧ m = m') ⟨fun q => absurd q hp, fun _ => ⟨rfl, rfl⟩⟩) (k_i (fun r m' hr => ?_))
    obtain ⟨hr1, hr2⟩ := hr
    subst hr1
    subst hr2
    refine go_if_ne 18 dX12_by_13 rfl ⟨fun hc => absurd hc (by decide), fun _ => ?_⟩
    refine go_iconst (v := 0) dX12_by_16 (by decide) ?_
    exact go_zret (S := []) dX12_by_17 rfl (by decide) ⟨_, rfl, hF⟩
theorem vX12_two (G : GP) (d : Nat) (a0 : Int32) (a1 : Int64) (a2 : Int64) (m : Mem) (K : Int64 → Mem → Prop) (hF : (a0 = 3 → K (clipV (a1 + a2)) m) ∧ (a0 = 4 → K (clipV (a1 - a2)) m) ∧ (a0 = 5 → K (clipV (a1 * a2)) m) ∧ (¬ a0 = 3 ∧ ¬ a0 = 4 ∧ ¬ a0 = 5 → ((¬ (lg_cmp a2 0) = 0) → ¬ a2 = 0 ∧ K (clipV (a1 / a2)) m) ∧ (((lg_cmp a2 0) = 0) → K 0 m))) : Evl G (d + 1) mX12_two [.int a0, .long a1, .long a2] m K := by
  refine Ev.go [.int a0, .long a1, uu, .long a2, uu] (by decide) (Nat.le_of_ble_eq_true rfl) rfl ?_
  refine go_iload_n dX12_two_0 rfl ?_
  rcases Decidable.em (a0 = 3) with hc0 | hc0
  · have hF := hF.1 hc0
    refine go_tabIn (off := 27) 28 dX12_two_1 (by rw [hc0]; decide) (by rw [hc0]; decide) (by rw [hc0]; rfl) rfl ?_
    refine go_lload_n dX12_two_28 rfl ?_
    refine go_lload_n dX12_two_29 rfl ?_
    refine go_ladd dX12_two_30 ?_
    refine go_callS mX12_clip dX12_two_31 lm_X12_278 okX12_clip isX12_clip (As := [.long (a1 + a2)]) (S := []) rfl rfl (Nat.le_of_ble_eq_true rfl) (eX12_clip G _ (a1 + a2) m (fun r m' => r = clipV (a1 + a2) ∧ m = m') ⟨rfl, rfl⟩) (k_l (fun r m' hr => ?_))
    obtain ⟨hr1, hr2⟩ := hr
    subst hr1
    subst hr2
    exact go_lret (S := []) dX12_two_34 rfl ⟨_, rfl, hF⟩
  rcases Decidable.em (a0 = 4) with hc1 | hc1
  · have hF := hF.2.1 hc1
    refine go_tabIn (off := 34) 35 dX12_two_1 (by rw [hc1]; decide) (by rw [hc1]; decide) (by rw [hc1]; rfl) rfl ?_
    refine go_lload_n dX12_two_35 rfl ?_
    refine go_lload_n dX12_two_36 rfl ?_
    refine go_lsub dX12_two_37 ?_
    refine go_callS mX12_clip dX12_two_38 lm_X12_278 okX12_clip isX12_clip (As := [.long (a1 - a2)]) (S := []) rfl rfl (Nat.le_of_ble_eq_true rfl) (eX12_clip G _ (a1 - a2) m (fun r m' => r = clipV (a1 - a2) ∧ m = m') ⟨rfl, rfl⟩) (k_l (fun r m' hr => ?_))
    obtain ⟨hr1, hr2⟩ := hr
    subst hr1
    subst hr2
    exact go_lret (S := []) dX12_two_41 rfl ⟨_, rfl, hF⟩
  rcases Decidable.em (a0 = 5) with hc2 | hc2
  · have hF := hF.2.2.1 hc2
    refine go_tabIn (off := 41) 42 dX12_two_1 (by rw [hc2]; decide) (by rw [hc2]; decide) (by rw [hc2]; rfl) rfl ?_
    refine go_lload_n dX12_two_42 rfl ?_
    refine go_lload_n dX12_two_43 rfl ?_
    refine go_lmul dX12_two_44 ?_
    refine go_callS mX12_clip dX12_two_45 lm_X12_278 okX12_clip isX12_clip (As := [.long (a1 * a2)]) (S := []) rfl rfl (Nat.le_of_ble_eq_true rfl) (eX12_clip G _ (a1 * a2) m (fun r m' => r = clipV (a1 * a2) ∧ m = m') ⟨rfl, rfl⟩) (k_l (fun r m' hr => ?_))
    obtain ⟨hr1, hr2⟩ := hr
    subst hr1
    subst hr2
    exact go_lret (S := []) dX12_two_48 rfl ⟨_, rfl, hF⟩
  have hF := hF.2.2.2 ⟨hc0, hc1, hc2⟩
  refine go_tabOut 49 dX12_two_1 (tab_out [3, 4, 5] 3 5 a0 (by decide) (by simp only [List.forall_mem_cons, List.not_mem_nil, false_implies, implies_true, and_true]; exact ⟨hc0, hc1, hc2⟩)) rfl ?_
  refine go_lload_n dX12_two_49 rfl ?_
  refine go_lconst (v := 0) dX12_two_50 (by decide) ?_
  refine go_lcmp dX12_two_51 ?_
  refine go_if_ne 59 dX12_two_52 rfl ⟨fun hc => ?_, fun hc => ?_⟩
  · have hF := hF.1 hc
    refine go_lload_n dX12_two_59 rfl ?_
    refine go_lload_n dX12_two_60 rfl ?_
    obtain ⟨h0, hF⟩ := hF
    refine go_ldiv dX12_two_61 h0 ?_
    refine go_callS mX12_clip dX12_two_62 lm_X12_278 okX12_clip isX12_clip (As := [.long (a1 / a2)]) (S := []) rfl rfl (Nat.le_of_ble_eq_true rfl) (eX12_clip G _ (a1 / a2) m (fun r m' => r = clipV (a1 / a2) ∧ m = m') ⟨rfl, rfl⟩) (k_l (fun r m' hr => ?_))
    obtain ⟨hr1, hr2⟩ := hr
    subst hr1
    subst hr2
    exact go_lret (S := []) dX12_two_65 rfl ⟨_, rfl, hF⟩
  · have hF := hF.2 hc
    refine go_lconst (v := 0) dX12_two_55 (by decide) ?_
    refine go_goto 65 dX12_two_56 rfl ?_
    exact go_lret (S := []) dX12_two_65 rfl ⟨_, rfl, hF⟩
theorem vX12_isAsked (G : GP) (d : Nat) (a0 : Int32) (a1 : Int64) (a2 : Int64) (m : Mem) (K : Int32 → Mem → Prop) (hF : ((¬ a0 = 10) → ((¬ a0 = 11) → ((¬ a0 = 12) → ((¬ a0 = 13) → ((¬ a0 = 14) → (((lg_cmp a1 a2) = 0) → K 0 m) ∧ ((¬ (lg_cmp a1 a2) = 0) → K 1 m)) ∧ ((a0 = 14) → ((¬ (lg_cmp a1 a2) = 0) → K 0 m) ∧ (((lg_cmp a1 a2) = 0) → K 1 m))) ∧ ((a0 = 13) → (((lg_cmp a1 a2) < 0) → K 0 m) ∧ ((¬ (lg_cmp a1 a2) < 0) → K 1 m))) ∧ ((a0 = 12) → (((lg_cmp a1 a2) ≤ 0) → K 0 m) ∧ ((¬ (lg_cmp a1 a2) ≤ 0) → K 1 m))) ∧ ((a0 = 11) → ((0 < (lg_cmp a1 a2)) → K 0 m) ∧ ((¬ 0 < (lg_cmp a1 a2)) → K 1 m))) ∧ ((a0 = 10) → ((0 ≤ (lg_cmp a1 a2)) → K 0 m) ∧ ((¬ 0 ≤ (lg_cmp a1 a2)) → K 1 m))) : Evi G (d) mX12_isAsked [.int a0, .long a1, .long a2] m K := by
  refine Ev.go [.int a0, .long a1, uu, .long a2, uu] (by decide) (Nat.le_of_ble_eq_true rfl) rfl ?_
  refine go_iload_n dX12_isAsked_0 rfl ?_
  refine go_bipush (v := 10) dX12_isAsked_1 (by decide) ?_
  refine go_icmp_ne 20 dX12_isAsked_3 rfl ⟨fun hc => ?_, fun hc => ?_⟩
  · have hF := hF.1 hc
    refine go_iload_n dX12_isAsked_20 rfl ?_
    refine go_bipush (v := 11) dX12_isAsked_21 (by decide) ?_
    refine go_icmp_ne 40 dX12_isAsked_23 rfl ⟨fun hc => ?_, fun hc => ?_⟩
    · have hF := hF.1 hc
      refine go_iload_n dX12_isAsked_40 rfl ?_
      refine go_bipush (v := 12) dX12_isAsked_41 (by decide) ?_
      refine go_icmp_ne 60 dX12_isAsked_43 rfl ⟨fun hc => ?_, fun hc => ?_⟩
      · have hF := hF.1 hc
        refine go_iload_n dX12_isAsked_60 rfl ?_
        refine go_bipush (v := 13) dX12_isAsked_61 (by decide) ?_
        refine go_icmp_ne 80 dX12_isAsked_63 rfl ⟨fun hc => ?_, fun hc => ?_⟩
        · have hF := hF.1 hc
          refine go_iload_n dX12_isAsked_80 rfl ?_
          refine go_bipush (v := 14) dX12_isAsked_81 (by decide) ?_
          refine go_icmp_ne 100 dX12_isAsked_83 rfl ⟨fun hc => ?_, fun hc => ?_⟩
          · have hF := hF.1 hc
            refine go_lload_n dX12_isAsked_100 rfl ?_
            refine go_lload_n dX12_isAsked_101 rfl ?_
            refine go_lcmp dX12_isAsked_102 ?_
            refine go_if_eq 110 dX12_isAsked_103 rfl ⟨fun hc => ?_, fun hc => ?_⟩
            · have hF := hF.1 hc
              refine go_iconst (v := 0) dX12_isAsked_110 (by decide) ?_
              exact go_zret (S := []) dX12_isAsked_111 rfl (by decide) ⟨_, rfl, hF⟩
            · have hF := hF.2 hc
              refine go_iconst (v := 1) dX12_isAsked_106 (by decide) ?_
              refine go_goto 111 dX12_isAsked_107 rfl ?_
              exact go_zret (S := []) dX12_isAsked_111 rfl (by decide) ⟨_, rfl, hF⟩
          · have hF := hF.2 hc
            refine go_lload_n dX12_isAsked_86 rfl ?_
            refine go_lload_n dX12_isAsked_87 rfl ?_
            refine go_lcmp dX12_isAsked_88 ?_
            refine go_if_ne 96 dX12_isAsked_89 rfl ⟨fun hc => ?_, fun hc => ?_⟩
            · have hF := hF.1 hc
              refine go_iconst (v := 0) dX12_isAsked_96 (by decide) ?_
              refine go_goto 111 dX12_isAsked_97 rfl ?_
              exact go_zret (S := []) dX12_isAsked_111 rfl (by decide) ⟨_, rfl, hF⟩
            · have hF := hF.2 hc
              refine go_iconst (v := 1) dX12_isAsked_92 (by decide) ?_
              refine go_goto 111 dX12_isAsked_93 rfl ?_
              exact go_zret (S := []) dX12_isAsked_111 rfl (by decide) ⟨_, rfl, hF⟩
        · have hF := hF.2 hc
          refine go_lload_n dX12_isAsked_66 rfl ?_
          refine go_lload_n dX12_isAsked_67 rfl ?_
          refine go_lcmp dX12_isAsked_68 ?_
          refine go_if_lt 76 dX12_isAsked_69 rfl ⟨fun hc => ?_, fun hc => ?_⟩
          · have hF := hF.1 hc
            refine go_iconst (v := 0) dX12_isAsked_76 (by decide) ?_
            refine go_goto 111 dX12_isAsked_77 rfl ?_
            exact go_zret (S := []) dX12_isAsked_111 rfl (by decide) ⟨_, rfl, hF⟩
          · have hF := hF.2 hc
            refine go_iconst (v := 1) dX12_isAsked_72 (by decide) ?_
            refine go_goto 111 dX12_isAsked_73 rfl ?_
            exact go_zret (S := []) dX12_isAsked_111 rfl (by decide) ⟨_, rfl, hF⟩
      · have hF := hF.2 hc
        refine go_lload_n dX12_isAsked_46 rfl ?_
        refine go_lload_n dX12_isAsked_47 rfl ?_
        refine go_lcmp dX12_isAsked_48 ?_
        refine go_if_le 56 dX12_isAsked_49 rfl ⟨fun hc => ?_, fun hc => ?_⟩
        · have hF := hF.1 hc
          refine go_iconst (v := 0) dX12_isAsked_56 (by decide) ?_
          refine go_goto 111 dX12_isAsked_57 rfl ?_
          exact go_zret (S := []) dX12_isAsked_111 rfl (by decide) ⟨_, rfl, hF⟩
        · have hF := hF.2 hc
          refine go_iconst (v := 1) dX12_isAsked_52 (by decide) ?_
          refine go_goto 111 dX12_isAsked_53 rfl ?_
          exact go_zret (S := []) dX12_isAsked_111 rfl (by decide) ⟨_, rfl, hF⟩
    · have hF := hF.2 hc
      refine go_lload_n dX12_isAsked_26 rfl ?_
      refine go_lload_n dX12_isAsked_27 rfl ?_
      refine go_lcmp dX12_isAsked_28 ?_
      refine go_if_gt 36 dX12_isAsked_29 rfl ⟨fun hc => ?_, fun hc => ?_⟩
      · have hF := hF.1 hc
        refine go_iconst (v := 0) dX12_isAsked_36 (by decide) ?_
        refine go_goto 111 dX12_isAsked_37 rfl ?_
        exact go_zret (S := []) dX12_isAsked_111 rfl (by decide) ⟨_, rfl, hF⟩
      · have hF := hF.2 hc
        refine go_iconst (v := 1) dX12_isAsked_32 (by decide) ?_
        refine go_goto 111 dX12_isAsked_33 rfl ?_
        exact go_zret (S := []) dX12_isAsked_111 rfl (by decide) ⟨_, rfl, hF⟩
  · have hF := hF.2 hc
    refine go_lload_n dX12_isAsked_6 rfl ?_
    refine go_lload_n dX12_isAsked_7 rfl ?_
    refine go_lcmp dX12_isAsked_8 ?_
    refine go_if_ge 16 dX12_isAsked_9 rfl ⟨fun hc => ?_, fun hc => ?_⟩
    · have hF := hF.1 hc
      refine go_iconst (v := 0) dX12_isAsked_16 (by decide) ?_
      refine go_goto 111 dX12_isAsked_17 rfl ?_
      exact go_zret (S := []) dX12_isAsked_111 rfl (by decide) ⟨_, rfl, hF⟩
    · have hF := hF.2 hc
      refine go_iconst (v := 1) dX12_isAsked_12 (by decide) ?_
      refine go_goto 111 dX12_isAsked_13 rfl ?_
      exact go_zret (S := []) dX12_isAsked_111 rfl (by decide) ⟨_, rfl, hF⟩
theorem vX12_power (G : GP) (d : Nat) (a0 : Int64) (a1 : Int64) (m : Mem) (K : Int64 → Mem → Prop) (hF : ((0 ≤ (lg_cmp a1 0)) → Gw G (d + 2) mX12_power 14 [.long a0, uu, .long a1, uu, .long 1, uu, .int 0] [] m (Ql K)) ∧ ((¬ 0 ≤ (lg_cmp a1 0)) → K 0 m)) : Evl G (d + 2) mX12_power [.long a0, .long a1] m K := by
  refine Ev.go [.long a0, uu, .long a1, uu, uu, uu, uu] (by decide) (Nat.le_of_ble_eq_true rfl) rfl ?_
  refine go_lload_n dX12_power_0 rfl ?_
  refine go_lconst (v := 0) dX12_power_1 (by decide) ?_
  refine go_lcmp dX12_power_2 ?_
  refine go_if_ge 8 dX12_power_3 rfl ⟨fun hc => ?_, fun hc => ?_⟩
  · have hF := hF.1 hc
    refine go_lconst (v := 1) dX12_power_8 (by decide) ?_
    refine go_lstore (L' := [.long a0, uu, .long a1, uu, .long 1, uu, uu]) dX12_power_9 (Nat.le_of_ble_eq_true rfl) rfl ?_
    refine go_iconst (v := 0) dX12_power_11 (by decide) ?_
    refine go_istore (L' := [.long a0, uu, .long a1, uu, .long 1, uu, .int 0]) dX12_power_12 (Nat.le_of_ble_eq_true rfl) rfl ?_
    exact hF
  · have hF := hF.2 hc
    refine go_lconst (v := 0) dX12_power_6 (by decide) ?_
    exact go_lret (S := []) dX12_power_7 rfl ⟨_, rfl, hF⟩
theorem vX12_power_14 (G : GP) (d : Nat) (l0 : Int64) (u1 : Value) (l2 : Int64) (u3 : Value) (l4 : Int64) (u5 : Value) (l6 : Int32) (m : Mem) (K : Int64 → Mem → Prop) (hF : ((99 ≤ l6) → K l4 m) ∧ ((¬ 99 ≤ l6) → ((0 ≤ (lg_cmp l6.toInt64 l2)) → K l4 m) ∧ ((¬ 0 ≤ (lg_cmp l6.toInt64 l2)) → Evl G (d + 1) mX12_two [.int 5, .long l4, .long l0] m (fun r2 m1 => ∀ x3 : Int32, x3 = l6 + 1 → Gw G (d + 2) mX12_power 14 [.long l0, uu, .long l2, uu, .long r2, uu, .int x3] [] m1 (Ql K))))) : Gw G (d + 2) mX12_power 14 [.long l0, u1, .long l2, u3, .long l4, u5, .int l6] [] m (Ql K) := by
  refine Gw.weak (L' := [.long l0, uu, .long l2, uu, .long l4, uu, .int l6]) ⟨Or.inl rfl, Or.inr rfl, Or.inl rfl, Or.inr rfl, Or.inl rfl, Or.inr rfl, Or.inl rfl, trivial⟩ ?_
  refine go_iload dX12_power_14 rfl ?_
  refine go_bipush (v := 99) dX12_power_16 (by decide) ?_
  refine go_icmp_ge 44 dX12_power_18 rfl ⟨fun hc => ?_, fun hc => ?_⟩
  · have hF := hF.1 hc
    refine go_lload dX12_power_44 rfl ?_
    exact go_lret (S := []) dX12_power_46 rfl ⟨_, rfl, hF⟩
  · have hF := hF.2 hc
    refine go_iload dX12_power_21 rfl ?_
    refine go_i2l dX12_power_23 ?_
    refine go_lload_n dX12_power_24 rfl ?_
    refine go_lcmp dX12_power_25 ?_
    refine go_if_ge 44 dX12_power_26 rfl ⟨fun hc => ?_, fun hc => ?_⟩
    · have hF := hF.1 hc
      refine go_lload dX12_power_44 rfl ?_
      exact go_lret (S := []) dX12_power_46 rfl ⟨_, rfl, hF⟩
    · have hF := hF.2 hc
      refine go_iconst (v := 5) dX12_power_29 (by decide) ?_
      refine go_lload dX12_power_30 rfl ?_
      refine go_lload_n dX12_power_32 rfl ?_
      refine go_callS mX12_two dX12_power_33 lm_X12_282 okX12_two isX12_two (As := [.int 5, .long l4, .long l0]) (S := []) rfl rfl (Nat.le_of_ble_eq_true rfl) hF (k_l (fun r2 m1 hF => ?_))
      refine go_lstore (L' := [.long l0, uu, .long l2, uu, .long r2, uu, .int l6]) dX12_power_36 (Nat.le_of_ble_eq_true rfl) rfl ?_
      obtain ⟨x3, ex3⟩ : ∃ z : Int32, z = l6 + 1 := ⟨_, rfl⟩
      have hF := hF x3 ex3
      refine go_iinc (v := x3) (L' := [.long l0, uu, .long l2, uu, .long r2, uu, .int x3]) dX12_power_38 rfl (by rw [ex3]; rfl) (Nat.le_of_ble_eq_true rfl) rfl ?_
      refine go_goto 14 dX12_power_41 rfl ?_
      exact hF
theorem vX12_isSo (G : GP) (d : Nat) (a0 : Int32) (a1 : Int32) (m : Mem) (K : Int32 → Mem → Prop) (hF : ∀ x1 : Int32, x1 = (((801 : Int32) * a0) + 1) + ((8 : Int32) * a1) → ∀ x2 : Int32, x2 = ((801 : Int32) * a0) + 193 → vp_in (x1 + 1) 3204 ∧ ∀ x3 : Int32, x3 = m.1 276 (x1 + 1).toNatClampNeg → Gw G (d + 3) mX12_isSo 40 [.ref (ga G 273), .int a0, .int a1, .int x1, .int x2, .int 0, .int 0, .int x3, uu, uu] [] m (Qi K)) : Evi G (d + 3) mX12_isSo [.ref (ga G 273), .int a0, .int a1] m K := by
  refine Ev.go [.ref (ga G 273), .int a0, .int a1, uu, uu, uu, uu, uu, uu, uu] (by decide) (Nat.le_of_ble_eq_true rfl) rfl ?_
  refine go_sipush (v := 801) dX12_isSo_0 (by decide) ?_
  refine go_iload_n dX12_isSo_3 rfl ?_
  refine go_imul dX12_isSo_4 ?_
  refine go_iconst (v := 1) dX12_isSo_5 (by decide) ?_
  refine go_iadd dX12_isSo_6 ?_
  refine go_bipush (v := 8) dX12_isSo_7 (by decide) ?_
  refine go_iload_n dX12_isSo_9 rfl ?_
  refine go_imul dX12_isSo_10 ?_
  refine go_iadd dX12_isSo_11 ?_
  refine Gw.namei (fun x1 ex1 => ?_)
  have hF := hF x1 ex1
  refine go_istore_n (L' := [.ref (ga G 273), .int a0, .int a1, .int x1, uu, uu, uu, uu, uu, uu]) dX12_isSo_12 (Nat.le_of_ble_eq_true rfl) rfl ?_
  refine go_sipush (v := 801) dX12_isSo_13 (by decide) ?_
  refine go_iload_n dX12_isSo_16 rfl ?_
  refine go_imul dX12_isSo_17 ?_
  refine go_sipush (v := 193) dX12_isSo_18 (by decide) ?_
  refine go_iadd dX12_isSo_21 ?_
  refine Gw.namei (fun x2 ex2 => ?_)
  have hF := hF x2 ex2
  refine go_istore (L' := [.ref (ga G 273), .int a0, .int a1, .int x1, .int x2, uu, uu, uu, uu, uu]) dX12_isSo_22 (Nat.le_of_ble_eq_true rfl) rfl ?_
  refine go_iconst (v := 0) dX12_isSo_24 (by decide) ?_
  refine go_istore (L' := [.ref (ga G 273), .int a0, .int a1, .int x1, .int x2, .int 0, uu, uu, uu, uu]) dX12_isSo_25 (Nat.le_of_ble_eq_true rfl) rfl ?_
  refine go_iconst (v := 0) dX12_isSo_27 (by decide) ?_
  refine go_istore (L' := [.ref (ga G 273), .int a0, .int a1, .int x1, .int x2, .int 0, .int 0, uu, uu, uu]) dX12_isSo_28 (Nat.le_of_ble_eq_true rfl) rfl ?_
  refine go_aload_n dX12_isSo_30 rfl ?_
  refine go_getR (k := 2) (r := 276) dX12_isSo_31 sh_273 rfl inX12 (Nat.le_of_ble_eq_true rfl) lf_X12_16 rfl rfl ?_
  refine go_iload_n dX12_isSo_34 rfl ?_
  refine go_iconst (v := 1) dX12_isSo_35 (by decide) ?_
  refine go_iadd dX12_isSo_36 ?_
  obtain ⟨hi, hF⟩ := hF
  refine go_iald dX12_isSo_37 sh_276 hi ?_
  refine Gw.namei (fun x3 ex3 => ?_)
  have hF := hF x3 ex3
  refine go_istore (L' := [.ref (ga G 273), .int a0, .int a1, .int x1, .int x2, .int 0, .int 0, .int x3, uu, uu]) dX12_isSo_38 (Nat.le_of_ble_eq_true rfl) rfl ?_
  exact hF
theorem vX12_isSo_40 (G : GP) (d : Nat) (u1 : Value) (u2 : Value) (l3 : Int32) (l4 : Int32) (l5 : Int32) (l6 : Int32) (l7 : Int32) (u8 : Value) (u9 : Value) (m : Mem) (K : Int32 → Mem → Prop) (hF : vp_in (l3 + 2) 3204 ∧ (((m.1 276 (l3 + 2).toNatClampNeg) ≤ l7) → ((m.1 282 0) = 0 ∨ (m.1 282 0) = 1) ∧ K (m.1 282 0) m) ∧ ((¬ (m.1 276 (l3 + 2).toNatClampNeg) ≤ l7) → vp_in (l4 + ((2 : Int32) * l7)) 3204 ∧ ∀ x4 : Int32, x4 = m.1 276 (l4 + ((2 : Int32) * l7)).toNatClampNeg → vp_in ((l4 + ((2 : Int32) * l7)) + 1) 3204 ∧ ∀ x5 : Int32, x5 = m.1 276 ((l4 + ((2 : Int32) * l7)) + 1).toNatClampNeg → ((1 < x4) → ((¬ x4 = 2) → ((10 ≤ x4) → ((20 ≤ x4) → ((¬ x4 = 20) → ∀ x6 : Int32, x6 = l6 + (-1) → ((¬ x4 = 21) → vp_in (x6 - 1) 330 ∧ ((¬ (m.1 282 (x6 - 1).toNatClampNeg) = 0) → vp_in (x6 - 1) 330 ∧ ∀ m7 : Mem, m7 = wI m 282 (x6 - 1).toNatClampNeg (vp_nar .boolean 1) → ∀ x8 : Int32, x8 = l7 + 1 → Gw G (d + 3) mX12_isSo 40 [.ref (ga G 273), uu, uu, .int l3, .int l4, .int l5, .int x6, .int x8, .int x4, .int x5] [] m7 (Qi K)) ∧ (((m.1 282 (x6 - 1).toNatClampNeg) = 0) → vp_in x6 330 ∧ (((m.1 282 x6.toNatClampNeg) = 0) → vp_in (x6 - 1) 330 ∧ ∀ m9 : Mem, m9 = wI m 282 (x6 - 1).toNatClampNeg (vp_nar .boolean 0) → ∀ x10 : Int32, x10 = l7 + 1 → Gw G (d + 3) mX12_isSo 40 [.ref (ga G 273), uu, uu, .int l3, .int l4, .int l5, .int x6, .int x10, .int x4, .int x5] [] m9 (Qi K)) ∧ ((¬ (m.1 282 x6.toNatClampNeg) = 0) → vp_in (x6 - 1) 330 ∧ ∀ m11 : Mem, m11 = wI m 282 (x6 - 1).toNatClampNeg (vp_nar .boolean 1) → ∀ x12 : Int32, x12 = l7 + 1 → Gw G (d + 3) mX12_isSo 40 [.ref (ga G 273), uu, uu, .int l3, .int l4, .int l5, .int x6, .int x12, .int x4, .int x5] [] m11 (Qi K)))) ∧ ((x4 = 21) → vp_in (x6 - 1) 330 ∧ (((m.1 282 (x6 - 1).toNatClampNeg) = 0) → vp_in (x6 - 1) 330 ∧ ∀ m13 : Mem, m13 = wI m 282 (x6 - 1).toNatClampNeg (vp_nar .boolean 0) → ∀ x14 : Int32, x14 = l7 + 1 → Gw G (d + 3) mX12_isSo 40 [.ref (ga G 273), uu, uu, .int l3, .int l4, .int l5, .int x6, .int x14, .int x4, .int x5] [] m13 (Qi K)) ∧ ((¬ (m.1 282 (x6 - 1).toNatClampNeg) = 0) → vp_in x6 330 ∧ (((m.1 282 x6.toNatClampNeg) = 0) → vp_in (x6 - 1) 330 ∧ ∀ m15 : Mem, m15 = wI m 282 (x6 - 1).toNatClampNeg (vp_nar .boolean 0) → ∀ x16 : Int32, x16 = l7 + 1 → Gw G (d + 3) mX12_isSo 40 [.ref (ga G 273), uu, uu, .int l3, .int l4, .int l5, .int x6, .int x16, .int x4, .int x5] [] m15 (Qi K)) ∧ ((¬ (m.1 282 x6.toNatClampNeg) = 0) → vp_in (x6 - 1) 330 ∧ ∀ m17 : Mem, m17 = wI m 282 (x6 - 1).toNatClampNeg (vp_nar .boolean 1) → ∀ x18 : Int32, x18 = l7 + 1 → Gw G (d + 3) mX12_isSo 40 [.ref (ga G 273), uu, uu, .int l3, .int l4, .int l5, .int x6, .int x18, .int x4, .int x5] [] m17 (Qi K))))) ∧ ((x4 = 20) → vp_in (l6 - 1) 330 ∧ ((¬ (m.1 282 (l6 - 1).toNatClampNeg) = 0) → vp_in (l6 - 1) 330 ∧ ∀ m19 : Mem, m19 = wI m 282 (l6 - 1).toNatClampNeg (vp_nar .boolean 0) → ∀ x20 : Int32, x20 = l7 + 1 → Gw G (d + 3) mX12_isSo 40 [.ref (ga G 273), uu, uu, .int l3, .int l4, .int l5, .int l6, .int x20, .int x4, .int x5] [] m19 (Qi K)) ∧ (((m.1 282 (l6 - 1).toNatClampNeg) = 0) → vp_in (l6 - 1) 330 ∧ ∀ m21 : Mem, m21 = wI m 282 (l6 - 1).toNatClampNeg (vp_nar .boolean 1) → ∀ x22 : Int32, x22 = l7 + 1 → Gw G (d + 3) mX12_isSo 40 [.ref (ga G 273), uu, uu, .int l3, .int l4, .int l5, .int l6, .int x22, .int x4, .int x5] [] m21 (Qi K)))) ∧ ((¬ 20 ≤ x4) → ∀ x23 : Int32, x23 = l5 + (-2) → vp_in x23 330 ∧ vp_in (x23 + 1) 330 ∧ Evi G (d + 2) mX12_isAsked [.int x4, .long (m.2.1 281 x23.toNatClampNeg), .long (m.2.1 281 (x23 + 1).toNatClampNeg)] m (fun r25 m24 => vp_in l6 330 ∧ ∀ m26 : Mem, m26 = wI m24 282 l6.toNatClampNeg (vp_nar .boolean r25) → ∀ x27 : Int32, x27 = l6 + 1 → ∀ x28 : Int32, x28 = l7 + 1 → Gw G (d + 3) mX12_isSo 40 [.ref (ga G 273), uu, uu, .int l3, .int l4, .int x23, .int x27, .int x28, .int x4, .int x5] [] m26 (Qi K)))) ∧ ((¬ 10 ≤ x4) → ∀ x29 : Int32, x29 = l5 + (-1) → ((¬ x4 = 7) → vp_in (x29 - 1) 330 ∧ vp_in x29 330 ∧ Evl G (d + 2) mX12_two [.int x4, .long (m.2.1 281 (x29 - 1).toNatClampNeg), .long (m.2.1 281 x29.toNatClampNeg)] m (fun r31 m30 => vp_in (x29 - 1) 330 ∧ ∀ m32 : Mem, m32 = wL m30 281 (x29 - 1).toNatClampNeg r31 → ∀ x33 : Int32, x33 = l7 + 1 → Gw G (d + 3) mX12_isSo 40 [.ref (ga G 273), uu, uu, .int l3, .int l4, .int x29, .int l6, .int x33, .int x4, .int x5] [] m32 (Qi K))) ∧ ((x4 = 7) → vp_in (x29 - 1) 330 ∧ vp_in x29 330 ∧ Evl G (d + 2) mX12_power [.long (m.2.1 281 (x29 - 1).toNatClampNeg), .long (m.2.1 281 x29.toNatClampNeg)] m (fun r35 m34 => vp_in (x29 - 1) 330 ∧ ∀ m36 : Mem, m36 = wL m34 281 (x29 - 1).toNatClampNeg r35 → ∀ x37 : Int32, x37 = l7 + 1 → Gw G (d + 3) mX12_isSo 40 [.ref (ga G 273), uu, uu, .int l3, .int l4, .int x29, .int l6, .int x37, .int x4, .int x5] [] m36 (Qi K))))) ∧ ((x4 = 2) → vp_in (l5 - 1) 330 ∧ vp_in (l5 - 1) 330 ∧ ∀ m38 : Mem, m38 = wL m 281 (l5 - 1).toNatClampNeg (-(m.2.1 281 (l5 - 1).toNatClampNeg)) → ∀ x39 : Int32, x39 = l7 + 1 → Gw G (d + 3) mX12_isSo 40 [.ref (ga G 273), uu, uu, .int l3, .int l4, .int l5, .int l6, .int x39, .int x4, .int x5] [] m38 (Qi K))) ∧ ((¬ 1 < x4) → ((¬ x4 = 0) → vp_in x5 13 ∧ vp_in l5 330 ∧ ∀ m40 : Mem, m40 = wL m 281 l5.toNatClampNeg ((m.1 280 x5.toNatClampNeg).toInt64) → ∀ x41 : Int32, x41 = l5 + 1 → ∀ x42 : Int32, x42 = l7 + 1 → Gw G (d + 3) mX12_isSo 40 [.ref (ga G 273), uu, uu, .int l3, .int l4, .int x41, .int l6, .int x42, .int x4, .int x5] [] m40 (Qi K)) ∧ ((x4 = 0) → vp_in l5 330 ∧ ∀ m43 : Mem, m43 = wL m 281 l5.toNatClampNeg x5.toInt64 → ∀ x44 : Int32, x44 = l5 + 1 → ∀ x45 : Int32, x45 = l7 + 1 → Gw G (d + 3) mX12_isSo 40 [.ref (ga G 273), uu, uu, .int l3, .int l4, .int x44, .int l6, .int x45, .int x4, .int x5] [] m43 (Qi K))))) : Gw G (d + 3) mX12_isSo 40 [.ref (ga G 273), u1, u2, .int l3, .int l4, .int l5, .int l6, .int l7, u8, u9] [] m (Qi K) := by
  refine Gw.weak (L' := [.ref (ga G 273), uu, uu, .int l3, .int l4, .int l5, .int l6, .int l7, uu, uu]) ⟨Or.inl rfl, Or.inr rfl, Or.inr rfl, Or.inl rfl, Or.inl rfl, Or.inl rfl, Or.inl rfl, Or.inl rfl, Or.inr rfl, Or.inr rfl, trivial⟩ ?_
  refine go_iload dX12_isSo_40 rfl ?_
  refine go_aload_n dX12_isSo_42 rfl ?_
  refine go_getR (k := 2) (r := 276) dX12_isSo_43 sh_273 rfl inX12 (Nat.le_of_ble_eq_true rfl) lf_X12_16 rfl rfl ?_
  refine go_iload_n dX12_isSo_46 rfl ?_
  refine go_iconst (v := 2) dX12_isSo_47 (by decide) ?_
  refine go_iadd dX12_isSo_48 ?_
  obtain ⟨hi, hF⟩ := hF
  refine go_iald dX12_isSo_49 sh_276 hi ?_
  refine go_icmp_ge 383 dX12_isSo_50 rfl ⟨fun hc => ?_, fun hc => ?_⟩
  · have hF := hF.1 hc
    refine go_aload_n dX12_isSo_383 rfl ?_
    refine go_getR (k := 23) (r := 282) dX12_isSo_384 sh_273 rfl inX12 (Nat.le_of_ble_eq_true rfl) lf_X12_42 rfl rfl ?_
    refine go_iconst (v := 0) dX12_isSo_387 (by decide) ?_
    refine go_zaldK (k := 0) dX12_isSo_388 sh_282 (vp_in_dec (by decide)) (by decide) ?_
    exact go_zret (S := []) dX12_isSo_389 rfl hF.1 ⟨_, rfl, hF.2⟩
  · have hF := hF.2 hc
    refine go_aload_n dX12_isSo_53 rfl ?_
    refine go_getR (k := 2) (r := 276) dX12_isSo_54 sh_273 rfl inX12 (Nat.le_of_ble_eq_true rfl) lf_X12_16 rfl rfl ?_
    refine go_iload dX12_isSo_57 rfl ?_
    refine go_iconst (v := 2) dX12_isSo_59 (by decide) ?_
    refine go_iload dX12_isSo_60 rfl ?_
    refine go_imul dX12_isSo_62 ?_
    refine go_iadd dX12_isSo_63 ?_
    obtain ⟨hi, hF⟩ := hF
    refine go_iald dX12_isSo_64 sh_276 hi ?_
    refine Gw.namei (fun x4 ex4 => ?_)
    have hF := hF x4 ex4
    refine go_istore (L' := [.ref (ga G 273), uu, uu, .int l3, .int l4, .int l5, .int l6, .int l7, .int x4, uu]) dX12_isSo_65 (Nat.le_of_ble_eq_true rfl) rfl ?_
    refine go_aload_n dX12_isSo_67 rfl ?_
    refine go_getR (k := 2) (r := 276) dX12_isSo_68 sh_273 rfl inX12 (Nat.le_of_ble_eq_true rfl) lf_X12_16 rfl rfl ?_
    refine go_iload dX12_isSo_71 rfl ?_
    refine go_iconst (v := 2) dX12_isSo_73 (by decide) ?_
    refine go_iload dX12_isSo_74 rfl ?_
    refine go_imul dX12_isSo_76 ?_
    refine go_iadd dX12_isSo_77 ?_
    refine go_iconst (v := 1) dX12_isSo_78 (by decide) ?_
    refine go_iadd dX12_isSo_79 ?_
    obtain ⟨hi, hF⟩ := hF
    refine go_iald dX12_isSo_80 sh_276 hi ?_
    refine Gw.namei (fun x5 ex5 => ?_)
    have hF := hF x5 ex5
    refine go_istore (L' := [.ref (ga G 273), uu, uu, .int l3, .int l4, .int l5, .int l6, .int l7, .int x4, .int x5]) dX12_isSo_81 (Nat.le_of_ble_eq_true rfl) rfl ?_
    refine go_iload dX12_isSo_83 rfl ?_
    refine go_iconst (v := 1) dX12_isSo_85 (by decide) ?_
    refine go_icmp_gt 121 dX12_isSo_86 rfl ⟨fun hc => ?_, fun hc => ?_⟩
    · have hF := hF.1 hc
      refine go_iload dX12_isSo_121 rfl ?_
      refine go_iconst (v := 2) dX12_isSo_123 (by decide) ?_
      refine go_icmp_ne 149 dX12_isSo_124 rfl ⟨fun hc => ?_, fun hc => ?_⟩
      · have hF := hF.1 hc
        refine go_iload dX12_isSo_149 rfl ?_
        refine go_bipush (v := 10) dX12_isSo_151 (by decide) ?_
        refine go_icmp_ge 221 dX12_isSo_153 rfl ⟨fun hc => ?_, fun hc => ?_⟩
        · have hF := hF.1 hc
          refine go_iload dX12_isSo_221 rfl ?_
          refine go_bipush (v := 20) dX12_isSo_223 (by decide) ?_
          refine go_icmp_ge 265 dX12_isSo_225 rfl ⟨fun hc => ?_, fun hc => ?_⟩
          · have hF := hF.1 hc
            refine go_iload dX12_isSo_265 rfl ?_
            refine go_bipush (v := 20) dX12_isSo_267 (by decide) ?_
            refine go_icmp_ne 301 dX12_isSo_269 rfl ⟨fun hc => ?_, fun hc => ?_⟩
            · have hF := hF.1 hc
              obtain ⟨x6, ex6⟩ : ∃ z : Int32, z = l6 + (-1) := ⟨_, rfl⟩
              have hF := hF x6 ex6
              refine go_iinc (v := x6) (L' := [.ref (ga G 273), uu, uu, .int l3, .int l4, .int l5, .int x6, .int l7, .int x4, .int x5]) dX12_isSo_301 rfl (by rw [ex6]; rfl) (Nat.le_of_ble_eq_true rfl) rfl ?_
              refine go_aload_n dX12_isSo_304 rfl ?_
              refine go_getR (k := 23) (r := 282) dX12_isSo_305 sh_273 rfl inX12 (Nat.le_of_ble_eq_true rfl) lf_X12_42 rfl rfl ?_
              refine go_iload dX12_isSo_308 rfl ?_
              refine go_iconst (v := 1) dX12_isSo_310 (by decide) ?_
              refine go_isub dX12_isSo_311 ?_
              refine go_iload dX12_isSo_312 rfl ?_
              refine go_bipush (v := 21) dX12_isSo_314 (by decide) ?_
              refine go_icmp_ne 349 dX12_isSo_316 rfl ⟨fun hc => ?_, fun hc => ?_⟩
              · have hF := hF.1 hc
                refine go_aload_n dX12_isSo_349 rfl ?_
                refine go_getR (k := 23) (r := 282) dX12_isSo_350 sh_273 rfl inX12 (Nat.le_of_ble_eq_true rfl) lf_X12_42 rfl rfl ?_
                refine go_iload dX12_isSo_353 rfl ?_
                refine go_iconst (v := 1) dX12_isSo_355 (by decide) ?_
                refine go_isub dX12_isSo_356 ?_
                obtain ⟨hi, hF⟩ := hF
                refine go_zald dX12_isSo_357 sh_282 hi ?_
                refine go_if_ne 371 dX12_isSo_358 rfl ⟨fun hc => ?_, fun hc => ?_⟩
                · have hF := hF.1 hc
                  refine go_iconst (v := 1) dX12_isSo_371 (by decide) ?_
                  refine go_goto 376 dX12_isSo_372 rfl ?_
                  obtain ⟨hi, hF⟩ := hF
                  refine go_zast dX12_isSo_376 sh_282 hi ?_
                  obtain ⟨m7, em7⟩ : ∃ z : Mem, z = wI m 282 (x6 - 1).toNatClampNeg (vp_nar .boolean 1) := ⟨_, rfl⟩
                  rw [← em7]
                  have hF := hF m7 em7
                  obtain ⟨x8, ex8⟩ : ∃ z : Int32, z = l7 + 1 := ⟨_, rfl⟩
                  have hF := hF x8 ex8
                  refine go_iinc (v := x8) (L' := [.ref (ga G 273), uu, uu, .int l3, .int l4, .int l5, .int x6, .int x8, .int x4, .int x5]) dX12_isSo_377 rfl (by rw [ex8]; rfl) (Nat.le_of_ble_eq_true rfl) rfl ?_
                  refine go_goto 40 dX12_isSo_380 rfl ?_
                  exact hF
                · have hF := hF.2 hc
                  refine go_aload_n dX12_isSo_361 rfl ?_
                  refine go_getR (k := 23) (r := 282) dX12_isSo_362 sh_273 rfl inX12 (Nat.le_of_ble_eq_true rfl) lf_X12_42 rfl rfl ?_
                  refine go_iload dX12_isSo_365 rfl ?_
                  obtain ⟨hi, hF⟩ := hF
                  refine go_zald dX12_isSo_367 sh_282 hi ?_
                  refine go_if_eq 375 dX12_isSo_368 rfl ⟨fun hc => ?_, fun hc => ?_⟩
                  · have hF := hF.1 hc
                    refine go_iconst (v := 0) dX12_isSo_375 (by decide) ?_
                    obtain ⟨hi, hF⟩ := hF
                    refine go_zast dX12_isSo_376 sh_282 hi ?_
                    obtain ⟨m9, em9⟩ : ∃ z : Mem, z = wI m 282 (x6 - 1).toNatClampNeg (vp_nar .boolean 0) := ⟨_, rfl⟩
                    rw [← em9]
                    have hF := hF m9 em9
                    obtain ⟨x10, ex10⟩ : ∃ z : Int32, z = l7 + 1 := ⟨_, rfl⟩
                    have hF := hF x10 ex10
                    refine go_iinc (v := x10) (L' := [.ref (ga G 273), uu, uu, .int l3, .int l4, .int l5, .int x6, .int x10, .int x4, .int x5]) dX12_isSo_377 rfl (by rw [ex10]; rfl) (Nat.le_of_ble_eq_true rfl) rfl ?_
                    refine go_goto 40 dX12_isSo_380 rfl ?_
                    exact hF
                  · have hF := hF.2 hc
                    refine go_iconst (v := 1) dX12_isSo_371 (by decide) ?_
                    refine go_goto 376 dX12_isSo_372 rfl ?_
                    obtain ⟨hi, hF⟩ := hF
                    refine go_zast dX12_isSo_376 sh_282 hi ?_
                    obtain ⟨m11, em11⟩ : ∃ z : Mem, z = wI m 282 (x6 - 1).toNatClampNeg (vp_nar .boolean 1) := ⟨_, rfl⟩
                    rw [← em11]
                    have hF := hF m11 em11
                    obtain ⟨x12, ex12⟩ : ∃ z : Int32, z = l7 + 1 := ⟨_, rfl⟩
                    have hF := hF x12 ex12
                    refine go_iinc (v := x12) (L' := [.ref (ga G 273), uu, uu, .int l3, .int l4, .int l5, .int x6, .int x12, .int x4, .int x5]) dX12_isSo_377 rfl (by rw [ex12]; rfl) (Nat.le_of_ble_eq_true rfl) rfl ?_
                    refine go_goto 40 dX12_isSo_380 rfl ?_
                    exact hF
              · have hF := hF.2 hc
                refine go_aload_n dX12_isSo_319 rfl ?_
                refine go_getR (k := 23) (r := 282) dX12_isSo_320 sh_273 rfl inX12 (Nat.le_of_ble_eq_true rfl) lf_X12_42 rfl rfl ?_
                refine go_iload dX12_isSo_323 rfl ?_
                refine go_iconst (v := 1) dX12_isSo_325 (by decide) ?_
                refine go_isub dX12_isSo_326 ?_
                obtain ⟨hi, hF⟩ := hF
                refine go_zald dX12_isSo_327 sh_282 hi ?_
                refine go_if_eq 345 dX12_isSo_328 rfl ⟨fun hc => ?_, fun hc => ?_⟩
                · have hF := hF.1 hc
                  refine go_iconst (v := 0) dX12_isSo_345 (by decide) ?_
                  refine go_goto 376 dX12_isSo_346 rfl ?_
                  obtain ⟨hi, hF⟩ := hF
                  refine go_zast dX12_isSo_376 sh_282 hi ?_
                  obtain ⟨m13, em13⟩ : ∃ z : Mem, z = wI m 282 (x6 - 1).toNatClampNeg (vp_nar .boolean 0) := ⟨_, rfl⟩
                  rw [← em13]
                  have hF := hF m13 em13
                  obtain ⟨x14, ex14⟩ : ∃ z : Int32, z = l7 + 1 := ⟨_, rfl⟩
                  have hF := hF x14 ex14
                  refine go_iinc (v := x14) (L' := [.ref (ga G 273), uu, uu, .int l3, .int l4, .int l5, .int x6, .int x14, .int x4, .int x5]) dX12_isSo_377 rfl (by rw [ex14]; rfl) (Nat.le_of_ble_eq_true rfl) rfl ?_
                  refine go_goto 40 dX12_isSo_380 rfl ?_
                  exact hF
                · have hF := hF.2 hc
                  refine go_aload_n dX12_isSo_331 rfl ?_
                  refine go_getR (k := 23) (r := 282) dX12_isSo_332 sh_273 rfl inX12 (Nat.le_of_ble_eq_true rfl) lf_X12_42 rfl rfl ?_
                  refine go_iload dX12_isSo_335 rfl ?_
                  obtain ⟨hi, hF⟩ := hF
                  refine go_zald dX12_isSo_337 sh_282 hi ?_
                  refine go_if_eq 345 dX12_isSo_338 rfl ⟨fun hc => ?_, fun hc => ?_⟩
                  · have hF := hF.1 hc
                    refine go_iconst (v := 0) dX12_isSo_345 (by decide) ?_
                    refine go_goto 376 dX12_isSo_346 rfl ?_
                    obtain ⟨hi, hF⟩ := hF
                    refine go_zast dX12_isSo_376 sh_282 hi ?_
                    obtain ⟨m15, em15⟩ : ∃ z : Mem, z = wI m 282 (x6 - 1).toNatClampNeg (vp_nar .boolean 0) := ⟨_, rfl⟩
                    rw [← em15]
                    have hF := hF m15 em15
                    obtain ⟨x16, ex16⟩ : ∃ z : Int32, z = l7 + 1 := ⟨_, rfl⟩
                    have hF := hF x16 ex16
                    refine go_iinc (v := x16) (L' := [.ref (ga G 273), uu, uu, .int l3, .int l4, .int l5, .int x6, .int x16, .int x4, .int x5]) dX12_isSo_377 rfl (by rw [ex16]; rfl) (Nat.le_of_ble_eq_true rfl) rfl ?_
                    refine go_goto 40 dX12_isSo_380 rfl ?_
                    exact hF
                  · have hF := hF.2 hc
                    refine go_iconst (v := 1) dX12_isSo_341 (by decide) ?_
                    refine go_goto 376 dX12_isSo_342 rfl ?_
                    obtain ⟨hi, hF⟩ := hF
                    refine go_zast dX12_isSo_376 sh_282 hi ?_
                    obtain ⟨m17, em17⟩ : ∃ z : Mem, z = wI m 282 (x6 - 1).toNatClampNeg (vp_nar .boolean 1) := ⟨_, rfl⟩
                    rw [← em17]
                    have hF := hF m17 em17
                    obtain ⟨x18, ex18⟩ : ∃ z : Int32, z = l7 + 1 := ⟨_, rfl⟩
                    have hF := hF x18 ex18
                    refine go_iinc (v := x18) (L' := [.ref (ga G 273), uu, uu, .int l3, .int l4, .int l5, .int x6, .int x18, .int x4, .int x5]) dX12_isSo_377 rfl (by rw [ex18]; rfl) (Nat.le_of_ble_eq_true rfl) rfl ?_
                    refine go_goto 40 dX12_isSo_380 rfl ?_
                    exact hF
            · have hF := hF.2 hc
              refine go_aload_n dX12_isSo_272 rfl ?_
              refine go_getR (k := 23) (r := 282) dX12_isSo_273 sh_273 rfl inX12 (Nat.le_of_ble_eq_true rfl) lf_X12_42 rfl rfl ?_
              refine go_iload dX12_isSo_276 rfl ?_
              refine go_iconst (v := 1) dX12_isSo_278 (by decide) ?_
              refine go_isub dX12_isSo_279 ?_
              refine go_aload_n dX12_isSo_280 rfl ?_
              refine go_getR (k := 23) (r := 282) dX12_isSo_281 sh_273 rfl inX12 (Nat.le_of_ble_eq_true rfl) lf_X12_42 rfl rfl ?_
              refine go_iload dX12_isSo_284 rfl ?_
              refine go_iconst (v := 1) dX12_isSo_286 (by decide) ?_
              refine go_isub dX12_isSo_287 ?_
              obtain ⟨hi, hF⟩ := hF
              refine go_zald dX12_isSo_288 sh_282 hi ?_
              refine go_if_ne 296 dX12_isSo_289 rfl ⟨fun hc => ?_, fun hc => ?_⟩
              · have hF := hF.1 hc
                refine go_iconst (v := 0) dX12_isSo_296 (by decide) ?_
                obtain ⟨hi, hF⟩ := hF
                refine go_zast dX12_isSo_297 sh_282 hi ?_
                obtain ⟨m19, em19⟩ : ∃ z : Mem, z = wI m 282 (l6 - 1).toNatClampNeg (vp_nar .boolean 0) := ⟨_, rfl⟩
                rw [← em19]
                have hF := hF m19 em19
                refine go_goto 377 dX12_isSo_298 rfl ?_
                obtain ⟨x20, ex20⟩ : ∃ z : Int32, z = l7 + 1 := ⟨_, rfl⟩
                have hF := hF x20 ex20
                refine go_iinc (v := x20) (L' := [.ref (ga G 273), uu, uu, .int l3, .int l4, .int l5, .int l6, .int x20, .int x4, .int x5]) dX12_isSo_377 rfl (by rw [ex20]; rfl) (Nat.le_of_ble_eq_true rfl) rfl ?_
                refine go_goto 40 dX12_isSo_380 rfl ?_
                exact hF
              · have hF := hF.2 hc
                refine go_iconst (v := 1) dX12_isSo_292 (by decide) ?_
                refine go_goto 297 dX12_isSo_293 rfl ?_
                obtain ⟨hi, hF⟩ := hF
                refine go_zast dX12_isSo_297 sh_282 hi ?_
                obtain ⟨m21, em21⟩ : ∃ z : Mem, z = wI m 282 (l6 - 1).toNatClampNeg (vp_nar .boolean 1) := ⟨_, rfl⟩
                rw [← em21]
                have hF := hF m21 em21
                refine go_goto 377 dX12_isSo_298 rfl ?_
                obtain ⟨x22, ex22⟩ : ∃ z : Int32, z = l7 + 1 := ⟨_, rfl⟩
                have hF := hF x22 ex22
                refine go_iinc (v := x22) (L' := [.ref (ga G 273), uu, uu, .int l3, .int l4, .int l5, .int l6, .int x22, .int x4, .int x5]) dX12_isSo_377 rfl (by rw [ex22]; rfl) (Nat.le_of_ble_eq_true rfl) rfl ?_
                refine go_goto 40 dX12_isSo_380 rfl ?_
                exact hF
          · have hF := hF.2 hc
            obtain ⟨x23, ex23⟩ : ∃ z : Int32, z = l5 + (-2) := ⟨_, rfl⟩
            have hF := hF x23 ex23
            refine go_iinc (v := x23) (L' := [.ref (ga G 273), uu, uu, .int l3, .int l4, .int x23, .int l6, .int l7, .int x4, .int x5]) dX12_isSo_228 rfl (by rw [ex23]; rfl) (Nat.le_of_ble_eq_true rfl) rfl ?_
            refine go_aload_n dX12_isSo_231 rfl ?_
            refine go_getR (k := 23) (r := 282) dX12_isSo_232 sh_273 rfl inX12 (Nat.le_of_ble_eq_true rfl) lf_X12_42 rfl rfl ?_
            refine go_iload dX12_isSo_235 rfl ?_
            refine go_iload dX12_isSo_237 rfl ?_
            refine go_aload_n dX12_isSo_239 rfl ?_
            refine go_getR (k := 22) (r := 281) dX12_isSo_240 sh_273 rfl inX12 (Nat.le_of_ble_eq_true rfl) lf_X12_38 rfl rfl ?_
            refine go_iload dX12_isSo_243 rfl ?_
            obtain ⟨hi, hF⟩ := hF
            refine go_lald dX12_isSo_245 sh_281 hi ?_
            refine go_aload_n dX12_isSo_246 rfl ?_
            refine go_getR (k := 22) (r := 281) dX12_isSo_247 sh_273 rfl inX12 (Nat.le_of_ble_eq_true rfl) lf_X12_38 rfl rfl ?_
            refine go_iload dX12_isSo_250 rfl ?_
            refine go_iconst (v := 1) dX12_isSo_252 (by decide) ?_
            refine go_iadd dX12_isSo_253 ?_
            obtain ⟨hi, hF⟩ := hF
            refine go_lald dX12_isSo_254 sh_281 hi ?_
            refine go_callS mX12_isAsked dX12_isSo_255 lm_X12_290 okX12_isAsked isX12_isAsked (As := [.int x4, .long (m.2.1 281 x23.toNatClampNeg), .long (m.2.1 281 (x23 + 1).toNatClampNeg)]) (S := [.int l6, .ref (ga G 282)]) rfl rfl (Nat.le_of_ble_eq_true rfl) hF (k_i (fun r25 m24 hF => ?_))
            obtain ⟨hi, hF⟩ := hF
            refine go_zast dX12_isSo_258 sh_282 hi ?_
            obtain ⟨m26, em26⟩ : ∃ z : Mem, z = wI m24 282 l6.toNatClampNeg (vp_nar .boolean r25) := ⟨_, rfl⟩
            rw [← em26]
            have hF := hF m26 em26
            obtain ⟨x27, ex27⟩ : ∃ z : Int32, z = l6 + 1 := ⟨_, rfl⟩
            have hF := hF x27 ex27
            refine go_iinc (v := x27) (L' := [.ref (ga G 273), uu, uu, .int l3, .int l4, .int x23, .int x27, .int l7, .int x4, .int x5]) dX12_isSo_259 rfl (by rw [ex27]; rfl) (Nat.le_of_ble_eq_true rfl) rfl ?_
            refine go_goto 377 dX12_isSo_262 rfl ?_
            obtain ⟨x28, ex28⟩ : ∃ z : Int32, z = l7 + 1 := ⟨_, rfl⟩
            have hF := hF x28 ex28
            refine go_iinc (v := x28) (L' := [.ref (ga G 273), uu, uu, .int l3, .int l4, .int x23, .int x27, .int x28, .int x4, .int x5]) dX12_isSo_377 rfl (by rw [ex28]; rfl) (Nat.le_of_ble_eq_true rfl) rfl ?_
            refine go_goto 40 dX12_isSo_380 rfl ?_
            exact hF
        · have hF := hF.2 hc
          obtain ⟨x29, ex29⟩ : ∃ z : Int32, z = l5 + (-1) := ⟨_, rfl⟩
          have hF := hF x29 ex29
          refine go_iinc (v := x29) (L' := [.ref (ga G 273), uu, uu, .int l3, .int l4, .int x29, .int l6, .int l7, .int x4, .int x5]) dX12_isSo_156 rfl (by rw [ex29]; rfl) (Nat.le_of_ble_eq_true rfl) rfl ?_
          refine go_aload_n dX12_isSo_159 rfl ?_
          refine go_getR (k := 22) (r := 281) dX12_isSo_160 sh_273 rfl inX12 (Nat.le_of_ble_eq_true rfl) lf_X12_38 rfl rfl ?_
          refine go_iload dX12_isSo_163 rfl ?_
          refine go_iconst (v := 1) dX12_isSo_165 (by decide) ?_
          refine go_isub dX12_isSo_166 ?_
          refine go_iload dX12_isSo_167 rfl ?_
          refine go_bipush (v := 7) dX12_isSo_169 (by decide) ?_
          refine go_icmp_ne 196 dX12_isSo_171 rfl ⟨fun hc => ?_, fun hc => ?_⟩
          · have hF := hF.1 hc
            refine go_iload dX12_isSo_196 rfl ?_
            refine go_aload_n dX12_isSo_198 rfl ?_
            refine go_getR (k := 22) (r := 281) dX12_isSo_199 sh_273 rfl inX12 (Nat.le_of_ble_eq_true rfl) lf_X12_38 rfl rfl ?_
            refine go_iload dX12_isSo_202 rfl ?_
            refine go_iconst (v := 1) dX12_isSo_204 (by decide) ?_
            refine go_isub dX12_isSo_205 ?_
            obtain ⟨hi, hF⟩ := hF
            refine go_lald dX12_isSo_206 sh_281 hi ?_
            refine go_aload_n dX12_isSo_207 rfl ?_
            refine go_getR (k := 22) (r := 281) dX12_isSo_208 sh_273 rfl inX12 (Nat.le_of_ble_eq_true rfl) lf_X12_38 rfl rfl ?_
            refine go_iload dX12_isSo_211 rfl ?_
            obtain ⟨hi, hF⟩ := hF
            refine go_lald dX12_isSo_213 sh_281 hi ?_
            refine go_callS mX12_two dX12_isSo_214 lm_X12_282 okX12_two isX12_two (As := [.int x4, .long (m.2.1 281 (x29 - 1).toNatClampNeg), .long (m.2.1 281 x29.toNatClampNeg)]) (S := [.int (x29 - 1), .ref (ga G 281)]) rfl rfl (Nat.le_of_ble_eq_true rfl) hF (k_l (fun r31 m30 hF => ?_))
            obtain ⟨hi, hF⟩ := hF
            refine go_last dX12_isSo_217 sh_281 hi ?_
            obtain ⟨m32, em32⟩ : ∃ z : Mem, z = wL m30 281 (x29 - 1).toNatClampNeg r31 := ⟨_, rfl⟩
            rw [← em32]
            have hF := hF m32 em32
            refine go_goto 377 dX12_isSo_218 rfl ?_
            obtain ⟨x33, ex33⟩ : ∃ z : Int32, z = l7 + 1 := ⟨_, rfl⟩
            have hF := hF x33 ex33
            refine go_iinc (v := x33) (L' := [.ref (ga G 273), uu, uu, .int l3, .int l4, .int x29, .int l6, .int x33, .int x4, .int x5]) dX12_isSo_377 rfl (by rw [ex33]; rfl) (Nat.le_of_ble_eq_true rfl) rfl ?_
            refine go_goto 40 dX12_isSo_380 rfl ?_
            exact hF
          · have hF := hF.2 hc
            refine go_aload_n dX12_isSo_174 rfl ?_
            refine go_getR (k := 22) (r := 281) dX12_isSo_175 sh_273 rfl inX12 (Nat.le_of_ble_eq_true rfl) lf_X12_38 rfl rfl ?_
            refine go_iload dX12_isSo_178 rfl ?_
            refine go_iconst (v := 1) dX12_isSo_180 (by decide) ?_
            refine go_isub dX12_isSo_181 ?_
            obtain ⟨hi, hF⟩ := hF
            refine go_lald dX12_isSo_182 sh_281 hi ?_
            refine go_aload_n dX12_isSo_183 rfl ?_
            refine go_getR (k := 22) (r := 281) dX12_isSo_184 sh_273 rfl inX12 (Nat.le_of_ble_eq_true rfl) lf_X12_38 rfl rfl ?_
            refine go_iload dX12_isSo_187 rfl ?_
            obtain ⟨hi, hF⟩ := hF
            refine go_lald dX12_isSo_189 sh_281 hi ?_
            refine go_callS mX12_power dX12_isSo_190 lm_X12_286 okX12_power isX12_power (As := [.long (m.2.1 281 (x29 - 1).toNatClampNeg), .long (m.2.1 281 x29.toNatClampNeg)]) (S := [.int (x29 - 1), .ref (ga G 281)]) rfl rfl (Nat.le_of_ble_eq_true rfl) hF (k_l (fun r35 m34 hF => ?_))
            refine go_goto 217 dX12_isSo_193 rfl ?_
            obtain ⟨hi, hF⟩ := hF
            refine go_last dX12_isSo_217 sh_281 hi ?_
            obtain ⟨m36, em36⟩ : ∃ z : Mem, z = wL m34 281 (x29 - 1).toNatClampNeg r35 := ⟨_, rfl⟩
            rw [← em36]
            have hF := hF m36 em36
            refine go_goto 377 dX12_isSo_218 rfl ?_
            obtain ⟨x37, ex37⟩ : ∃ z : Int32, z = l7 + 1 := ⟨_, rfl⟩
            have hF := hF x37 ex37
            refine go_iinc (v := x37) (L' := [.ref (ga G 273), uu, uu, .int l3, .int l4, .int x29, .int l6, .int x37, .int x4, .int x5]) dX12_isSo_377 rfl (by rw [ex37]; rfl) (Nat.le_of_ble_eq_true rfl) rfl ?_
            refine go_goto 40 dX12_isSo_380 rfl ?_
            exact hF
      · have hF := hF.2 hc
        refine go_aload_n dX12_isSo_127 rfl ?_
        refine go_getR (k := 22) (r := 281) dX12_isSo_128 sh_273 rfl inX12 (Nat.le_of_ble_eq_true rfl) lf_X12_38 rfl rfl ?_
        refine go_iload dX12_isSo_131 rfl ?_
        refine go_iconst (v := 1) dX12_isSo_133 (by decide) ?_
        refine go_isub dX12_isSo_134 ?_
        refine go_aload_n dX12_isSo_135 rfl ?_
        refine go_getR (k := 22) (r := 281) dX12_isSo_136 sh_273 rfl inX12 (Nat.le_of_ble_eq_true rfl) lf_X12_38 rfl rfl ?_
        refine go_iload dX12_isSo_139 rfl ?_
        refine go_iconst (v := 1) dX12_isSo_141 (by decide) ?_
        refine go_isub dX12_isSo_142 ?_
        obtain ⟨hi, hF⟩ := hF
        refine go_lald dX12_isSo_143 sh_281 hi ?_
        refine go_lneg dX12_isSo_144 ?_
        obtain ⟨hi, hF⟩ := hF
        refine go_last dX12_isSo_145 sh_281 hi ?_
        obtain ⟨m38, em38⟩ : ∃ z : Mem, z = wL m 281 (l5 - 1).toNatClampNeg (-(m.2.1 281 (l5 - 1).toNatClampNeg)) := ⟨_, rfl⟩
        rw [← em38]
        have hF := hF m38 em38
        refine go_goto 377 dX12_isSo_146 rfl ?_
        obtain ⟨x39, ex39⟩ : ∃ z : Int32, z = l7 + 1 := ⟨_, rfl⟩
        have hF := hF x39 ex39
        refine go_iinc (v := x39) (L' := [.ref (ga G 273), uu, uu, .int l3, .int l4, .int l5, .int l6, .int x39, .int x4, .int x5]) dX12_isSo_377 rfl (by rw [ex39]; rfl) (Nat.le_of_ble_eq_true rfl) rfl ?_
        refine go_goto 40 dX12_isSo_380 rfl ?_
        exact hF
    · have hF := hF.2 hc
      refine go_aload_n dX12_isSo_89 rfl ?_
      refine go_getR (k := 22) (r := 281) dX12_isSo_90 sh_273 rfl inX12 (Nat.le_of_ble_eq_true rfl) lf_X12_38 rfl rfl ?_
      refine go_iload dX12_isSo_93 rfl ?_
      refine go_iload dX12_isSo_95 rfl ?_
      refine go_if_ne 106 dX12_isSo_97 rfl ⟨fun hc => ?_, fun hc => ?_⟩
      · have hF := hF.1 hc
        refine go_aload_n dX12_isSo_106 rfl ?_
        refine go_getR (k := 21) (r := 280) dX12_isSo_107 sh_273 rfl inX12 (Nat.le_of_ble_eq_true rfl) lf_X12_35 rfl rfl ?_
        refine go_iload dX12_isSo_110 rfl ?_
        obtain ⟨hi, hF⟩ := hF
        refine go_iald dX12_isSo_112 sh_280 hi ?_
        refine go_i2l dX12_isSo_113 ?_
        obtain ⟨hi, hF⟩ := hF
        refine go_last dX12_isSo_114 sh_281 hi ?_
        obtain ⟨m40, em40⟩ : ∃ z : Mem, z = wL m 281 l5.toNatClampNeg ((m.1 280 x5.toNatClampNeg).toInt64) := ⟨_, rfl⟩
        rw [← em40]
        have hF := hF m40 em40
        obtain ⟨x41, ex41⟩ : ∃ z : Int32, z = l5 + 1 := ⟨_, rfl⟩
        have hF := hF x41 ex41
        refine go_iinc (v := x41) (L' := [.ref (ga G 273), uu, uu, .int l3, .int l4, .int x41, .int l6, .int l7, .int x4, .int x5]) dX12_isSo_115 rfl (by rw [ex41]; rfl) (Nat.le_of_ble_eq_true rfl) rfl ?_
        refine go_goto 377 dX12_isSo_118 rfl ?_
        obtain ⟨x42, ex42⟩ : ∃ z : Int32, z = l7 + 1 := ⟨_, rfl⟩
        have hF := hF x42 ex42
        refine go_iinc (v := x42) (L' := [.ref (ga G 273), uu, uu, .int l3, .int l4, .int x41, .int l6, .int x42, .int x4, .int x5]) dX12_isSo_377 rfl (by rw [ex42]; rfl) (Nat.le_of_ble_eq_true rfl) rfl ?_
        refine go_goto 40 dX12_isSo_380 rfl ?_
        exact hF
      · have hF := hF.2 hc
        refine go_iload dX12_isSo_100 rfl ?_
        refine go_i2l dX12_isSo_102 ?_
        refine go_goto 114 dX12_isSo_103 rfl ?_
        obtain ⟨hi, hF⟩ := hF
        refine go_last dX12_isSo_114 sh_281 hi ?_
        obtain ⟨m43, em43⟩ : ∃ z : Mem, z = wL m 281 l5.toNatClampNeg x5.toInt64 := ⟨_, rfl⟩
        rw [← em43]
        have hF := hF m43 em43
        obtain ⟨x44, ex44⟩ : ∃ z : Int32, z = l5 + 1 := ⟨_, rfl⟩
        have hF := hF x44 ex44
        refine go_iinc (v := x44) (L' := [.ref (ga G 273), uu, uu, .int l3, .int l4, .int x44, .int l6, .int l7, .int x4, .int x5]) dX12_isSo_115 rfl (by rw [ex44]; rfl) (Nat.le_of_ble_eq_true rfl) rfl ?_
        refine go_goto 377 dX12_isSo_118 rfl ?_
        obtain ⟨x45, ex45⟩ : ∃ z : Int32, z = l7 + 1 := ⟨_, rfl⟩
        have hF := hF x45 ex45
        refine go_iinc (v := x45) (L' := [.ref (ga G 273), uu, uu, .int l3, .int l4, .int x44, .int l6, .int x45, .int x4, .int x5]) dX12_isSo_377 rfl (by rw [ex45]; rfl) (Nat.le_of_ble_eq_true rfl) rfl ?_
        refine go_goto 40 dX12_isSo_380 rfl ?_
        exact hF
theorem vX12_clauseOf (G : GP) (d : Nat) (a0 : Int32) (a1 : Int32) (m : Mem) (K : Int32 → Mem → Prop) (hF : Gw G (d) mX12_clauseOf 2 [.ref (ga G 273), .int a0, .int a1, .int 0] [] m (Qi K)) : Evi G (d) mX12_clauseOf [.ref (ga G 273), .int a0, .int a1] m K := by
  refine Ev.go [.ref (ga G 273), .int a0, .int a1, uu] (by decide) (Nat.le_of_ble_eq_true rfl) rfl ?_
  refine go_iconst (v := 0) dX12_clauseOf_0 (by decide) ?_
  refine go_istore_n (L' := [.ref (ga G 273), .int a0, .int a1, .int 0]) dX12_clauseOf_1 (Nat.le_of_ble_eq_true rfl) rfl ?_
  exact hF
theorem vX12_clauseOf_2 (G : GP) (d : Nat) (l1 : Int32) (l2 : Int32) (l3 : Int32) (m : Mem) (K : Int32 → Mem → Prop) (hF : ((l1 < 0) → K (-1) m) ∧ ((¬ l1 < 0) → vp_in ((801 : Int32) * l1) 3204 ∧ (((m.1 276 ((801 : Int32) * l1).toNatClampNeg) ≤ l3) → K (-1) m) ∧ ((¬ (m.1 276 ((801 : Int32) * l1).toNatClampNeg) ≤ l3) → vp_in ((((801 : Int32) * l1) + 1) + ((8 : Int32) * l3)) 3204 ∧ ((¬ (m.1 276 ((((801 : Int32) * l1) + 1) + ((8 : Int32) * l3)).toNatClampNeg) = l2) → ∀ x1 : Int32, x1 = l3 + 1 → Gw G (d) mX12_clauseOf 2 [.ref (ga G 273), .int l1, .int l2, .int x1] [] m (Qi K)) ∧ (((m.1 276 ((((801 : Int32) * l1) + 1) + ((8 : Int32) * l3)).toNatClampNeg) = l2) → K l3 m)))) : Gw G (d) mX12_clauseOf 2 [.ref (ga G 273), .int l1, .int l2, .int l3] [] m (Qi K) := by
  refine go_iload_n dX12_clauseOf_2 rfl ?_
  refine go_if_lt 49 dX12_clauseOf_3 rfl ⟨fun hc => ?_, fun hc => ?_⟩
  · have hF := hF.1 hc
    refine go_iconst (v := -1) dX12_clauseOf_49 (by decide) ?_
    exact go_iret (S := []) dX12_clauseOf_50 rfl ⟨_, rfl, hF⟩
  · have hF := hF.2 hc
    refine go_iload_n dX12_clauseOf_6 rfl ?_
    refine go_aload_n dX12_clauseOf_7 rfl ?_
    refine go_getR (k := 2) (r := 276) dX12_clauseOf_8 sh_273 rfl inX12 (Nat.le_of_ble_eq_true rfl) lf_X12_16 rfl rfl ?_
    refine go_sipush (v := 801) dX12_clauseOf_11 (by decide) ?_
    refine go_iload_n dX12_clauseOf_14 rfl ?_
    refine go_imul dX12_clauseOf_15 ?_
    obtain ⟨hi, hF⟩ := hF
    refine go_iald dX12_clauseOf_16 sh_276 hi ?_
    refine go_icmp_ge 49 dX12_clauseOf_17 rfl ⟨fun hc => ?_, fun hc => ?_⟩
    · have hF := hF.1 hc
      refine go_iconst (v := -1) dX12_clauseOf_49 (by decide) ?_
      exact go_iret (S := []) dX12_clauseOf_50 rfl ⟨_, rfl, hF⟩
    · have hF := hF.2 hc
      refine go_aload_n dX12_clauseOf_20 rfl ?_
      refine go_getR (k := 2) (r := 276) dX12_clauseOf_21 sh_273 rfl inX12 (Nat.le_of_ble_eq_true rfl) lf_X12_16 rfl rfl ?_
      refine go_sipush (v := 801) dX12_clauseOf_24 (by decide) ?_
      refine go_iload_n dX12_clauseOf_27 rfl ?_
      refine go_imul dX12_clauseOf_28 ?_
      refine go_iconst (v := 1) dX12_clauseOf_29 (by decide) ?_
      refine go_iadd dX12_clauseOf_30 ?_
      refine go_bipush (v := 8) dX12_clauseOf_31 (by decide) ?_
      refine go_iload_n dX12_clauseOf_33 rfl ?_
      refine go_imul dX12_clauseOf_34 ?_
      refine go_iadd dX12_clauseOf_35 ?_
      obtain ⟨hi, hF⟩ := hF
      refine go_iald dX12_clauseOf_36 sh_276 hi ?_
      refine go_iload_n dX12_clauseOf_37 rfl ?_
      refine go_icmp_ne 43 dX12_clauseOf_38 rfl ⟨fun hc => ?_, fun hc => ?_⟩
      · have hF := hF.1 hc
        obtain ⟨x1, ex1⟩ : ∃ z : Int32, z = l3 + 1 := ⟨_, rfl⟩
        have hF := hF x1 ex1
        refine go_iinc (v := x1) (L' := [.ref (ga G 273), .int l1, .int l2, .int x1]) dX12_clauseOf_43 rfl (by rw [ex1]; rfl) (Nat.le_of_ble_eq_true rfl) rfl ?_
        refine go_goto 2 dX12_clauseOf_46 rfl ?_
        exact hF
      · have hF := hF.2 hc
        refine go_iload_n dX12_clauseOf_41 rfl ?_
        exact go_iret (S := []) dX12_clauseOf_42 rfl ⟨_, rfl, hF⟩
theorem vX12_isOver (G : GP) (d : Nat) (a0 : Int32) (a1 : Int32) (a2 : Int32) (m : Mem) (K : Int32 → Mem → Prop) (hF : Evi G (d + 3) mX12_clauseOf [.ref (ga G 273), .int (m.1 274 3), .int 0] m (fun r2 m1 => ((¬ r2 = (-1)) → vp_in ((16 : Int32) + (3 : Int32) * a0) 5968 ∧ ∀ m3 : Mem, m3 = wI m1 280 0 (m1.1 274 ((16 : Int32) + (3 : Int32) * a0).toNatClampNeg) → vp_in (((16 : Int32) + (3 : Int32) * a0) + 1) 5968 ∧ ∀ m4 : Mem, m4 = wI m3 280 1 (m3.1 274 (((16 : Int32) + (3 : Int32) * a0) + 1).toNatClampNeg) → vp_in (((16 : Int32) + (3 : Int32) * a0) + 2) 5968 ∧ ∀ m5 : Mem, m5 = wI m4 280 2 (m4.1 274 (((16 : Int32) + (3 : Int32) * a0) + 2).toNatClampNeg) → ∀ m6 : Mem, m6 = wI m5 280 3 a1 → ∀ m7 : Mem, m7 = wI m6 280 4 (m6.1 274 9) → ∀ m8 : Mem, m8 = wI m7 280 5 (m7.1 274 10) → ∀ m9 : Mem, m9 = wI m8 280 6 a2 → ∀ m10 : Mem, m10 = wI m9 280 7 a0 → Evi G (d + 3) mX12_isSo [.ref (ga G 273), .int (m10.1 274 3), .int r2] m10 (fun r12 m11 => (r12 = 0 ∨ r12 = 1) ∧ K r12 m11)) ∧ ((r2 = (-1)) → vp_in ((16 : Int32) + (3 : Int32) * a0) 5968 ∧ (((m1.1 274 ((16 : Int32) + (3 : Int32) * a0).toNatClampNeg) ≤ (a1 - (m1.1 274 9))) → K 0 m1) ∧ ((¬ (m1.1 274 ((16 : Int32) + (3 : Int32) * a0).toNatClampNeg) ≤ (a1 - (m1.1 274 9))) → K 1 m1)))) : Evi G (d + 4) mX12_isOver [.ref (ga G 273), .int a0, .int a1, .int a2] m K := by
  refine Ev.go [.ref (ga G 273), .int a0, .int a1, .int a2, uu] (by decide) (Nat.le_of_ble_eq_true rfl) rfl ?_
  refine go_aload_n dX12_isOver_0 rfl ?_
  refine go_aload_n dX12_isOver_1 rfl ?_
  refine go_getR (k := 0) (r := 274) dX12_isOver_2 sh_273 rfl inX12 (Nat.le_of_ble_eq_true rfl) lf_X12_7 rfl rfl ?_
  refine go_iconst (v := 3) dX12_isOver_5 (by decide) ?_
  refine go_ialdK (k := 3) dX12_isOver_6 sh_274 (vp_in_dec (by decide)) (by decide) ?_
  refine go_iconst (v := 0) dX12_isOver_7 (by decide) ?_
  refine go_callV mX12_clauseOf dX12_isOver_8 lm_X12_293 okX12_clauseOf isX12_clauseOf sh_273 rfl (As := [.int (m.1 274 3), .int 0]) (S := []) rfl rfl (Nat.le_of_ble_eq_true rfl) hF (k_i (fun r2 m1 hF => ?_))
  refine go_istore (L' := [.ref (ga G 273), .int a0, .int a1, .int a2, .int r2]) dX12_isOver_11 (Nat.le_of_ble_eq_true rfl) rfl ?_
  refine go_iload dX12_isOver_13 rfl ?_
  refine go_iconst (v := -1) dX12_isOver_15 (by decide) ?_
  refine go_icmp_ne 42 dX12_isOver_16 rfl ⟨fun hc => ?_, fun hc => ?_⟩
  · have hF := hF.1 hc
    refine go_aload_n dX12_isOver_42 rfl ?_
    refine go_getR (k := 21) (r := 280) dX12_isOver_43 sh_273 rfl inX12 (Nat.le_of_ble_eq_true rfl) lf_X12_35 rfl rfl ?_
    refine go_iconst (v := 0) dX12_isOver_46 (by decide) ?_
    refine go_aload_n dX12_isOver_47 rfl ?_
    refine go_iload_n dX12_isOver_48 rfl ?_
    obtain ⟨ho, hF⟩ := hF
    refine go_callV mX12_loud dX12_isOver_49 lm_X12_296 okX12_loud isX12_loud sh_273 rfl (As := [.int a0]) (S := [.int 0, .ref (ga G 280)]) rfl rfl (Nat.le_of_ble_eq_true rfl) (eX12_loud G _ a0 m1 (fun r m' => r = m1.1 274 ((16 : Int32) + (3 : Int32) * a0).toNatClampNeg ∧ m1 = m') ho ⟨rfl, rfl⟩) (k_i (fun r m' hr => ?_))
    obtain ⟨hr1, hr2⟩ := hr
    subst hr1
    subst hr2
    refine go_iastK (k := 0) dX12_isOver_52 sh_280 (vp_in_dec (by decide)) (by decide) ?_
    obtain ⟨m3, em3⟩ : ∃ z : Mem, z = wI m1 280 0 (m1.1 274 ((16 : Int32) + (3 : Int32) * a0).toNatClampNeg) := ⟨_, rfl⟩
    rw [← em3]
    have hF := hF m3 em3
    refine go_aload_n dX12_isOver_53 rfl ?_
    refine go_getR (k := 21) (r := 280) dX12_isOver_54 sh_273 rfl inX12 (Nat.le_of_ble_eq_true rfl) lf_X12_35 rfl rfl ?_
    refine go_iconst (v := 1) dX12_isOver_57 (by decide) ?_
    refine go_aload_n dX12_isOver_58 rfl ?_
    refine go_iload_n dX12_isOver_59 rfl ?_
    obtain ⟨ho, hF⟩ := hF
    refine go_callV mX12_pitch dX12_isOver_60 lm_X12_299 okX12_pitch isX12_pitch sh_273 rfl (As := [.int a0]) (S := [.int 1, .ref (ga G 280)]) rfl rfl (Nat.le_of_ble_eq_true rfl) (eX12_pitch G _ a0 m3 (fun r m' => r = m3.1 274 (((16 : Int32) + (3 : Int32) * a0) + 1).toNatClampNeg ∧ m3 = m') ho ⟨rfl, rfl⟩) (k_i (fun r m' hr => ?_))
    obtain ⟨hr1, hr2⟩ := hr
    subst hr1
    subst hr2
    refine go_iastK (k := 1) dX12_isOver_63 sh_280 (vp_in_dec (by decide)) (by decide) ?_
    obtain ⟨m4, em4⟩ : ∃ z : Mem, z = wI m3 280 1 (m3.1 274 (((16 : Int32) + (3 : Int32) * a0) + 1).toNatClampNeg) := ⟨_, rfl⟩
    rw [← em4]
    have hF := hF m4 em4
    refine go_aload_n dX12_isOver_64 rfl ?_
    refine go_getR (k := 21) (r := 280) dX12_isOver_65 sh_273 rfl inX12 (Nat.le_of_ble_eq_true rfl) lf_X12_35 rfl rfl ?_
    refine go_iconst (v := 2) dX12_isOver_68 (by decide) ?_
    refine go_aload_n dX12_isOver_69 rfl ?_
    refine go_iload_n dX12_isOver_70 rfl ?_
    obtain ⟨ho, hF⟩ := hF
    refine go_callV mX12_men dX12_isOver_71 lm_X12_302 okX12_men isX12_men sh_273 rfl (As := [.int a0]) (S := [.int 2, .ref (ga G 280)]) rfl rfl (Nat.le_of_ble_eq_true rfl) (eX12_men G _ a0 m4 (fun r m' => r = m4.1 274 (((16 : Int32) + (3 : Int32) * a0) + 2).toNatClampNeg ∧ m4 = m') ho ⟨rfl, rfl⟩) (k_i (fun r m' hr => ?_))
    obtain ⟨hr1, hr2⟩ := hr
    subst hr1
    subst hr2
    refine go_iastK (k := 2) dX12_isOver_74 sh_280 (vp_in_dec (by decide)) (by decide) ?_
    obtain ⟨m5, em5⟩ : ∃ z : Mem, z = wI m4 280 2 (m4.1 274 (((16 : Int32) + (3 : Int32) * a0) + 2).toNatClampNeg) := ⟨_, rfl⟩
    rw [← em5]
    have hF := hF m5 em5
    refine go_aload_n dX12_isOver_75 rfl ?_
    refine go_getR (k := 21) (r := 280) dX12_isOver_76 sh_273 rfl inX12 (Nat.le_of_ble_eq_true rfl) lf_X12_35 rfl rfl ?_
    refine go_iconst (v := 3) dX12_isOver_79 (by decide) ?_
    refine go_iload_n dX12_isOver_80 rfl ?_
    refine go_iastK (k := 3) dX12_isOver_81 sh_280 (vp_in_dec (by decide)) (by decide) ?_
    obtain ⟨m6, em6⟩ : ∃ z : Mem, z = wI m5 280 3 a1 := ⟨_, rfl⟩
    rw [← em6]
    have hF := hF m6 em6
    refine go_aload_n dX12_isOver_82 rfl ?_
    refine go_getR (k := 21) (r := 280) dX12_isOver_83 sh_273 rfl inX12 (Nat.le_of_ble_eq_true rfl) lf_X12_35 rfl rfl ?_
    refine go_iconst (v := 4) dX12_isOver_86 (by decide) ?_
    refine go_aload_n dX12_isOver_87 rfl ?_
    refine go_getR (k := 0) (r := 274) dX12_isOver_88 sh_273 rfl inX12 (Nat.le_of_ble_eq_true rfl) lf_X12_7 rfl rfl ?_
    refine go_bipush (v := 9) dX12_isOver_91 (by decide) ?_
    refine go_ialdK (k := 9) dX12_isOver_93 sh_274 (vp_in_dec (by decide)) (by decide) ?_
    refine go_iastK (k := 4) dX12_isOver_94 sh_280 (vp_in_dec (by decide)) (by decide) ?_
    obtain ⟨m7, em7⟩ : ∃ z : Mem, z = wI m6 280 4 (m6.1 274 9) := ⟨_, rfl⟩
    rw [← em7]
    have hF := hF m7 em7
    refine go_aload_n dX12_isOver_95 rfl ?_
    refine go_getR (k := 21) (r := 280) dX12_isOver_96 sh_273 rfl inX12 (Nat.le_of_ble_eq_true rfl) lf_X12_35 rfl rfl ?_
    refine go_iconst (v := 5) dX12_isOver_99 (by decide) ?_
    refine go_aload_n dX12_isOver_100 rfl ?_
    refine go_getR (k := 0) (r := 274) dX12_isOver_101 sh_273 rfl inX12 (Nat.le_of_ble_eq_true rfl) lf_X12_7 rfl rfl ?_
    refine go_bipush (v := 10) dX12_isOver_104 (by decide) ?_
    refine go_ialdK (k := 10) dX12_isOver_106 sh_274 (vp_in_dec (by decide)) (by decide) ?_
    refine go_iastK (k := 5) dX12_isOver_107 sh_280 (vp_in_dec (by decide)) (by decide) ?_
    obtain ⟨m8, em8⟩ : ∃ z : Mem, z = wI m7 280 5 (m7.1 274 10) := ⟨_, rfl⟩
    rw [← em8]
    have hF := hF m8 em8
    refine go_aload_n dX12_isOver_108 rfl ?_
    refine go_getR (k := 21) (r := 280) dX12_isOver_109 sh_273 rfl inX12 (Nat.le_of_ble_eq_true rfl) lf_X12_35 rfl rfl ?_
    refine go_bipush (v := 6) dX12_isOver_112 (by decide) ?_
    refine go_iload_n dX12_isOver_114 rfl ?_
    refine go_iastK (k := 6) dX12_isOver_115 sh_280 (vp_in_dec (by decide)) (by decide) ?_
    obtain ⟨m9, em9⟩ : ∃ z : Mem, z = wI m8 280 6 a2 := ⟨_, rfl⟩
    rw [← em9]
    have hF := hF m9 em9
    refine go_aload_n dX12_isOver_116 rfl ?_
    refine go_getR (k := 21) (r := 280) dX12_isOver_117 sh_273 rfl inX12 (Nat.le_of_ble_eq_true rfl) lf_X12_35 rfl rfl ?_
    refine go_bipush (v := 7) dX12_isOver_120 (by decide) ?_
    refine go_iload_n dX12_isOver_122 rfl ?_
    refine go_iastK (k := 7) dX12_isOver_123 sh_280 (vp_in_dec (by decide)) (by decide) ?_
    obtain ⟨m10, em10⟩ : ∃ z : Mem, z = wI m9 280 7 a0 := ⟨_, rfl⟩
    rw [← em10]
    have hF := hF m10 em10
    refine go_aload_n dX12_isOver_124 rfl ?_
    refine go_aload_n dX12_isOver_125 rfl ?_
    refine go_getR (k := 0) (r := 274) dX12_isOver_126 sh_273 rfl inX12 (Nat.le_of_ble_eq_true rfl) lf_X12_7 rfl rfl ?_
    refine go_iconst (v := 3) dX12_isOver_129 (by decide) ?_
    refine go_ialdK (k := 3) dX12_isOver_130 sh_274 (vp_in_dec (by decide)) (by decide) ?_
    refine go_iload dX12_isOver_131 rfl ?_
    refine go_callV mX12_isSo dX12_isOver_133 lm_X12_305 okX12_isSo isX12_isSo sh_273 rfl (As := [.int (m10.1 274 3), .int r2]) (S := []) rfl rfl (Nat.le_of_ble_eq_true rfl) hF (k_i (fun r12 m11 hF => ?_))
    exact go_zret (S := []) dX12_isOver_136 rfl hF.1 ⟨_, rfl, hF.2⟩
  · have hF := hF.2 hc
    refine go_aload_n dX12_isOver_19 rfl ?_
    refine go_iload_n dX12_isOver_20 rfl ?_
    obtain ⟨ho, hF⟩ := hF
    refine go_callV mX12_loud dX12_isOver_21 lm_X12_296 okX12_loud isX12_loud sh_273 rfl (As := [.int a0]) (S := []) rfl rfl (Nat.le_of_ble_eq_true rfl) (eX12_loud G _ a0 m1 (fun r m' => r = m1.1 274 ((16 : Int32) + (3 : Int32) * a0).toNatClampNeg ∧ m1 = m') ho ⟨rfl, rfl⟩) (k_i (fun r m' hr => ?_))
    obtain ⟨hr1, hr2⟩ := hr
    subst hr1
    subst hr2
    refine go_iload_n dX12_isOver_24 rfl ?_
    refine go_aload_n dX12_isOver_25 rfl ?_
    refine go_getR (k := 0) (r := 274) dX12_isOver_26 sh_273 rfl inX12 (Nat.le_of_ble_eq_true rfl) lf_X12_7 rfl rfl ?_
    refine go_bipush (v := 9) dX12_isOver_29 (by decide) ?_
    refine go_ialdK (k := 9) dX12_isOver_31 sh_274 (vp_in_dec (by decide)) (by decide) ?_
    refine go_isub dX12_isOver_32 ?_
    refine go_icmp_le 40 dX12_isOver_33 rfl ⟨fun hc => ?_, fun hc => ?_⟩
    · have hF := hF.1 hc
      refine go_iconst (v := 0) dX12_isOver_40 (by decide) ?_
      exact go_zret (S := []) dX12_isOver_41 rfl (by decide) ⟨_, rfl, hF⟩
    · have hF := hF.2 hc
      refine go_iconst (v := 1) dX12_isOver_36 (by decide) ?_
      refine go_goto 41 dX12_isOver_37 rfl ?_
      exact go_zret (S := []) dX12_isOver_41 rfl (by decide) ⟨_, rfl, hF⟩
theorem vX12_isBeginning (G : GP) (d : Nat) (a0 : Int32) (m : Mem) (K : Int32 → Mem → Prop) (hF : Evi G (d + 3) mX12_clauseOf [.ref (ga G 273), .int (m.1 274 3), .int 2] m (fun r2 m1 => ((¬ r2 = (-1)) → vp_in (((34 : Int32) + (9 : Int32) * a0) + 0) 5968 ∧ ∀ m3 : Mem, m3 = wI m1 280 8 (m1.1 274 (((34 : Int32) + (9 : Int32) * a0) + 0).toNatClampNeg) → vp_in (((34 : Int32) + (9 : Int32) * a0) + 1) 5968 ∧ ∀ m4 : Mem, m4 = wI m3 280 9 (m3.1 274 (((34 : Int32) + (9 : Int32) * a0) + 1).toNatClampNeg) → Evi G (d + 3) mX12_isSo [.ref (ga G 273), .int (m4.1 274 3), .int r2] m4 (fun r6 m5 => (r6 = 0 ∨ r6 = 1) ∧ K r6 m5)) ∧ ((r2 = (-1)) → K 1 m1))) : Evi G (d + 4) mX12_isBeginning [.ref (ga G 273), .int a0] m K := by
  refine Ev.go [.ref (ga G 273), .int a0, uu] (by decide) (Nat.le_of_ble_eq_true rfl) rfl ?_
  refine go_aload_n dX12_isBeginning_0 rfl ?_
  refine go_aload_n dX12_isBeginning_1 rfl ?_
  refine go_getR (k := 0) (r := 274) dX12_isBeginning_2 sh_273 rfl inX12 (Nat.le_of_ble_eq_true rfl) lf_X12_7 rfl rfl ?_
  refine go_iconst (v := 3) dX12_isBeginning_5 (by decide) ?_
  refine go_ialdK (k := 3) dX12_isBeginning_6 sh_274 (vp_in_dec (by decide)) (by decide) ?_
  refine go_iconst (v := 2) dX12_isBeginning_7 (by decide) ?_
  refine go_callV mX12_clauseOf dX12_isBeginning_8 lm_X12_293 okX12_clauseOf isX12_clauseOf sh_273 rfl (As := [.int (m.1 274 3), .int 2]) (S := []) rfl rfl (Nat.le_of_ble_eq_true rfl) hF (k_i (fun r2 m1 hF => ?_))
  refine go_istore_n (L' := [.ref (ga G 273), .int a0, .int r2]) dX12_isBeginning_11 (Nat.le_of_ble_eq_true rfl) rfl ?_
  refine go_iload_n dX12_isBeginning_12 rfl ?_
  refine go_iconst (v := -1) dX12_isBeginning_13 (by decide) ?_
  refine go_icmp_ne 19 dX12_isBeginning_14 rfl ⟨fun hc => ?_, fun hc => ?_⟩
  · have hF := hF.1 hc
    refine go_aload_n dX12_isBeginning_19 rfl ?_
    refine go_getR (k := 21) (r := 280) dX12_isBeginning_20 sh_273 rfl inX12 (Nat.le_of_ble_eq_true rfl) lf_X12_35 rfl rfl ?_
    refine go_bipush (v := 8) dX12_isBeginning_23 (by decide) ?_
    refine go_aload_n dX12_isBeginning_25 rfl ?_
    refine go_iload_n dX12_isBeginning_26 rfl ?_
    refine go_iconst (v := 0) dX12_isBeginning_27 (by decide) ?_
    obtain ⟨ho, hF⟩ := hF
    refine go_callV mX12_of dX12_isBeginning_28 lm_X12_84 okX12_of isX12_of sh_273 rfl (As := [.int a0, .int 0]) (S := [.int 8, .ref (ga G 280)]) rfl rfl (Nat.le_of_ble_eq_true rfl) (eX12_of G _ a0 0 m1 (fun r m' => r = m1.1 274 (((34 : Int32) + (9 : Int32) * a0) + 0).toNatClampNeg ∧ m1 = m') ho ⟨rfl, rfl⟩) (k_i (fun r m' hr => ?_))
    obtain ⟨hr1, hr2⟩ := hr
    subst hr1
    subst hr2
    refine go_iastK (k := 8) dX12_isBeginning_31 sh_280 (vp_in_dec (by decide)) (by decide) ?_
    obtain ⟨m3, em3⟩ : ∃ z : Mem, z = wI m1 280 8 (m1.1 274 (((34 : Int32) + (9 : Int32) * a0) + 0).toNatClampNeg) := ⟨_, rfl⟩
    rw [← em3]
    have hF := hF m3 em3
    refine go_aload_n dX12_isBeginning_32 rfl ?_
    refine go_getR (k := 21) (r := 280) dX12_isBeginning_33 sh_273 rfl inX12 (Nat.le_of_ble_eq_true rfl) lf_X12_35 rfl rfl ?_
    refine go_bipush (v := 9) dX12_isBeginning_36 (by decide) ?_
    refine go_aload_n dX12_isBeginning_38 rfl ?_
    refine go_iload_n dX12_isBeginning_39 rfl ?_
    refine go_iconst (v := 1) dX12_isBeginning_40 (by decide) ?_
    obtain ⟨ho, hF⟩ := hF
    refine go_callV mX12_of dX12_isBeginning_41 lm_X12_84 okX12_of isX12_of sh_273 rfl (As := [.int a0, .int 1]) (S := [.int 9, .ref (ga G 280)]) rfl rfl (Nat.le_of_ble_eq_true rfl) (eX12_of G _ a0 1 m3 (fun r m' => r = m3.1 274 (((34 : Int32) + (9 : Int32) * a0) + 1).toNatClampNeg ∧ m3 = m') ho ⟨rfl, rfl⟩) (k_i (fun r m' hr => ?_))
    obtain ⟨hr1, hr2⟩ := hr
    subst hr1
    subst hr2
    refine go_iastK (k := 9) dX12_isBeginning_44 sh_280 (vp_in_dec (by decide)) (by decide) ?_
    obtain ⟨m4, em4⟩ : ∃ z : Mem, z = wI m3 280 9 (m3.1 274 (((34 : Int32) + (9 : Int32) * a0) + 1).toNatClampNeg) := ⟨_, rfl⟩
    rw [← em4]
    have hF := hF m4 em4
    refine go_aload_n dX12_isBeginning_45 rfl ?_
    refine go_aload_n dX12_isBeginning_46 rfl ?_
    refine go_getR (k := 0) (r := 274) dX12_isBeginning_47 sh_273 rfl inX12 (Nat.le_of_ble_eq_true rfl) lf_X12_7 rfl rfl ?_
    refine go_iconst (v := 3) dX12_isBeginning_50 (by decide) ?_
    refine go_ialdK (k := 3) dX12_isBeginning_51 sh_274 (vp_in_dec (by decide)) (by decide) ?_
    refine go_iload_n dX12_isBeginning_52 rfl ?_
    refine go_callV mX12_isSo dX12_isBeginning_53 lm_X12_305 okX12_isSo isX12_isSo sh_273 rfl (As := [.int (m4.1 274 3), .int r2]) (S := []) rfl rfl (Nat.le_of_ble_eq_true rfl) hF (k_i (fun r6 m5 hF => ?_))
    exact go_zret (S := []) dX12_isBeginning_56 rfl hF.1 ⟨_, rfl, hF.2⟩
  · have hF := hF.2 hc
    refine go_iconst (v := 1) dX12_isBeginning_17 (by decide) ?_
    exact go_zret (S := []) dX12_isBeginning_18 rfl (by decide) ⟨_, rfl, hF⟩
theorem vX12_isFollowing (G : GP) (d : Nat) (a0 : Int32) (a1 : Int32) (a2 : Int32) (a3 : Int32) (m : Mem) (K : Int32 → Mem → Prop) (hF : Evi G (d + 3) mX12_clauseOf [.ref (ga G 273), .int a0, .int 1] m (fun r2 m1 => ((¬ r2 = (-1)) → vp_in (((34 : Int32) + (9 : Int32) * a1) + 0) 5968 ∧ ∀ m3 : Mem, m3 = wI m1 280 8 (m1.1 274 (((34 : Int32) + (9 : Int32) * a1) + 0).toNatClampNeg) → vp_in (((34 : Int32) + (9 : Int32) * a1) + 1) 5968 ∧ ∀ m4 : Mem, m4 = wI m3 280 9 (m3.1 274 (((34 : Int32) + (9 : Int32) * a1) + 1).toNatClampNeg) → vp_in (((34 : Int32) + (9 : Int32) * a2) + 0) 5968 ∧ ∀ m5 : Mem, m5 = wI m4 280 10 (m4.1 274 (((34 : Int32) + (9 : Int32) * a2) + 0).toNatClampNeg) → vp_in (((34 : Int32) + (9 : Int32) * a2) + 1) 5968 ∧ ∀ m6 : Mem, m6 = wI m5 280 11 (m5.1 274 (((34 : Int32) + (9 : Int32) * a2) + 1).toNatClampNeg) → ∀ m7 : Mem, m7 = wI m6 280 12 a3 → Evi G (d + 3) mX12_isSo [.ref (ga G 273), .int a0, .int r2] m7 (fun r9 m8 => (r9 = 0 ∨ r9 = 1) ∧ K r9 m8)) ∧ ((r2 = (-1)) → K 1 m1))) : Evi G (d + 4) mX12_isFollowing [.ref (ga G 273), .int a0, .int a1, .int a2, .int a3] m K := by
  refine Ev.go [.ref (ga G 273), .int a0, .int a1, .int a2, .int a3, uu] (by decide) (Nat.le_of_ble_eq_true rfl) rfl ?_
  refine go_aload_n dX12_isFollowing_0 rfl ?_
  refine go_iload_n dX12_isFollowing_1 rfl ?_
  refine go_iconst (v := 1) dX12_isFollowing_2 (by decide) ?_
  refine go_callV mX12_clauseOf dX12_isFollowing_3 lm_X12_293 okX12_clauseOf isX12_clauseOf sh_273 rfl (As := [.int a0, .int 1]) (S := []) rfl rfl (Nat.le_of_ble_eq_true rfl) hF (k_i (fun r2 m1 hF => ?_))
  refine go_istore (L' := [.ref (ga G 273), .int a0, .int a1, .int a2, .int a3, .int r2]) dX12_isFollowing_6 (Nat.le_of_ble_eq_true rfl) rfl ?_
  refine go_iload dX12_isFollowing_8 rfl ?_
  refine go_iconst (v := -1) dX12_isFollowing_10 (by decide) ?_
  refine go_icmp_ne 16 dX12_isFollowing_11 rfl ⟨fun hc => ?_, fun hc => ?_⟩
  · have hF := hF.1 hc
    refine go_aload_n dX12_isFollowing_16 rfl ?_
    refine go_getR (k := 21) (r := 280) dX12_isFollowing_17 sh_273 rfl inX12 (Nat.le_of_ble_eq_true rfl) lf_X12_35 rfl rfl ?_
    refine go_bipush (v := 8) dX12_isFollowing_20 (by decide) ?_
    refine go_aload_n dX12_isFollowing_22 rfl ?_
    refine go_iload_n dX12_isFollowing_23 rfl ?_
    refine go_iconst (v := 0) dX12_isFollowing_24 (by decide) ?_
    obtain ⟨ho, hF⟩ := hF
    refine go_callV mX12_of dX12_isFollowing_25 lm_X12_84 okX12_of isX12_of sh_273 rfl (As := [.int a1, .int 0]) (S := [.int 8, .ref (ga G 280)]) rfl rfl (Nat.le_of_ble_eq_true rfl) (eX12_of G _ a1 0 m1 (fun r m' => r = m1.1 274 (((34 : Int32) + (9 : Int32) * a1) + 0).toNatClampNeg ∧ m1 = m') ho ⟨rfl, rfl⟩) (k_i (fun r m' hr => ?_))
    obtain ⟨hr1, hr2⟩ := hr
    subst hr1
    subst hr2
    refine go_iastK (k := 8) dX12_isFollowing_28 sh_280 (vp_in_dec (by decide)) (by decide) ?_
    obtain ⟨m3, em3⟩ : ∃ z : Mem, z = wI m1 280 8 (m1.1 274 (((34 : Int32) + (9 : Int32) * a1) + 0).toNatClampNeg) := ⟨_, rfl⟩
    rw [← em3]
    have hF := hF m3 em3
    refine go_aload_n dX12_isFollowing_29 rfl ?_
    refine go_getR (k := 21) (r := 280) dX12_isFollowing_30 sh_273 rfl inX12 (Nat.le_of_ble_eq_true rfl) lf_X12_35 rfl rfl ?_
    refine go_bipush (v := 9) dX12_isFollowing_33 (by decide) ?_
    refine go_aload_n dX12_isFollowing_35 rfl ?_
    refine go_iload_n dX12_isFollowing_36 rfl ?_
    refine go_iconst (v := 1) dX12_isFollowing_37 (by decide) ?_
    obtain ⟨ho, hF⟩ := hF
    refine go_callV mX12_of dX12_isFollowing_38 lm_X12_84 okX12_of isX12_of sh_273 rfl (As := [.int a1, .int 1]) (S := [.int 9, .ref (ga G 280)]) rfl rfl (Nat.le_of_ble_eq_true rfl) (eX12_of G _ a1 1 m3 (fun r m' => r = m3.1 274 (((34 : Int32) + (9 : Int32) * a1) + 1).toNatClampNeg ∧ m3 = m') ho ⟨rfl, rfl⟩) (k_i (fun r m' hr => ?_))
    obtain ⟨hr1, hr2⟩ := hr
    subst hr1
    subst hr2
    refine go_iastK (k := 9) dX12_isFollowing_41 sh_280 (vp_in_dec (by decide)) (by decide) ?_
    obtain ⟨m4, em4⟩ : ∃ z : Mem, z = wI m3 280 9 (m3.1 274 (((34 : Int32) + (9 : Int32) * a1) + 1).toNatClampNeg) := ⟨_, rfl⟩
    rw [← em4]
    have hF := hF m4 em4
    refine go_aload_n dX12_isFollowing_42 rfl ?_
    refine go_getR (k := 21) (r := 280) dX12_isFollowing_43 sh_273 rfl inX12 (Nat.le_of_ble_eq_true rfl) lf_X12_35 rfl rfl ?_
    refine go_bipush (v := 10) dX12_isFollowing_46 (by decide) ?_
    refine go_aload_n dX12_isFollowing_48 rfl ?_
    refine go_iload_n dX12_isFollowing_49 rfl ?_
    refine go_iconst (v := 0) dX12_isFollowing_50 (by decide) ?_
    obtain ⟨ho, hF⟩ := hF
    refine go_callV mX12_of dX12_isFollowing_51 lm_X12_84 okX12_of isX12_of sh_273 rfl (As := [.int a2, .int 0]) (S := [.int 10, .ref (ga G 280)]) rfl rfl (Nat.le_of_ble_eq_true rfl) (eX12_of G _ a2 0 m4 (fun r m' => r = m4.1 274 (((34 : Int32) + (9 : Int32) * a2) + 0).toNatClampNeg ∧ m4 = m') ho ⟨rfl, rfl⟩) (k_i (fun r m' hr => ?_))
    obtain ⟨hr1, hr2⟩ := hr
    subst hr1
    subst hr2
    refine go_iastK (k := 10) dX12_isFollowing_54 sh_280 (vp_in_dec (by decide)) (by decide) ?_
    obtain ⟨m5, em5⟩ : ∃ z : Mem, z = wI m4 280 10 (m4.1 274 (((34 : Int32) + (9 : Int32) * a2) + 0).toNatClampNeg) := ⟨_, rfl⟩
    rw [← em5]
    have hF := hF m5 em5
    refine go_aload_n dX12_isFollowing_55 rfl ?_
    refine go_getR (k := 21) (r := 280) dX12_isFollowing_56 sh_273 rfl inX12 (Nat.le_of_ble_eq_true rfl) lf_X12_35 rfl rfl ?_
    refine go_bipush (v := 11) dX12_isFollowing_59 (by decide) ?_
    refine go_aload_n dX12_isFollowing_61 rfl ?_
    refine go_iload_n dX12_isFollowing_62 rfl ?_
    refine go_iconst (v := 1) dX12_isFollowing_63 (by decide) ?_
    obtain ⟨ho, hF⟩ := hF
    refine go_callV mX12_of dX12_isFollowing_64 lm_X12_84 okX12_of isX12_of sh_273 rfl (As := [.int a2, .int 1]) (S := [.int 11, .ref (ga G 280)]) rfl rfl (Nat.le_of_ble_eq_true rfl) (eX12_of G _ a2 1 m5 (fun r m' => r = m5.1 274 (((34 : Int32) + (9 : Int32) * a2) + 1).toNatClampNeg ∧ m5 = m') ho ⟨rfl, rfl⟩) (k_i (fun r m' hr => ?_))
    obtain ⟨hr1, hr2⟩ := hr
    subst hr1
    subst hr2
    refine go_iastK (k := 11) dX12_isFollowing_67 sh_280 (vp_in_dec (by decide)) (by decide) ?_
    obtain ⟨m6, em6⟩ : ∃ z : Mem, z = wI m5 280 11 (m5.1 274 (((34 : Int32) + (9 : Int32) * a2) + 1).toNatClampNeg) := ⟨_, rfl⟩
    rw [← em6]
    have hF := hF m6 em6
    refine go_aload_n dX12_isFollowing_68 rfl ?_
    refine go_getR (k := 21) (r := 280) dX12_isFollowing_69 sh_273 rfl inX12 (Nat.le_of_ble_eq_true rfl) lf_X12_35 rfl rfl ?_
    refine go_bipush (v := 12) dX12_isFollowing_72 (by decide) ?_
    refine go_iload dX12_isFollowing_74 rfl ?_
    refine go_iastK (k := 12) dX12_isFollowing_76 sh_280 (vp_in_dec (by decide)) (by decide) ?_
    obtain ⟨m7, em7⟩ : ∃ z : Mem, z = wI m6 280 12 a3 := ⟨_, rfl⟩
    rw [← em7]
    have hF := hF m7 em7
    refine go_aload_n dX12_isFollowing_77 rfl ?_
    refine go_iload_n dX12_isFollowing_78 rfl ?_
    refine go_iload dX12_isFollowing_79 rfl ?_
    refine go_callV mX12_isSo dX12_isFollowing_81 lm_X12_305 okX12_isSo isX12_isSo sh_273 rfl (As := [.int a0, .int r2]) (S := []) rfl rfl (Nat.le_of_ble_eq_true rfl) hF (k_i (fun r9 m8 hF => ?_))
    exact go_zret (S := []) dX12_isFollowing_84 rfl hF.1 ⟨_, rfl, hF.2⟩
  · have hF := hF.2 hc
    refine go_iconst (v := 1) dX12_isFollowing_14 (by decide) ?_
    exact go_zret (S := []) dX12_isFollowing_15 rfl (by decide) ⟨_, rfl, hF⟩
theorem vX12_keep (G : GP) (d : Nat)  (m : Mem) (K : Mem → Prop) (hF : ((¬ (m.1 274 4) = 30) → ∀ x1 : Int32, x1 = (188 : Int32) + ((30 : Int32) * (m.1 274 4)) → Gw G (d) mX12_keep 72 [.ref (ga G 273), .int x1, .int 0] [] m (Qv K)) ∧ (((m.1 274 4) = 30) → Gw G (d) mX12_keep 13 [.ref (ga G 273), .int 0, uu] [] m (Qv K))) : Evv G (d) mX12_keep [.ref (ga G 273)] m K := by
  refine Ev.go [.ref (ga G 273), uu, uu] (by decide) (Nat.le_of_ble_eq_true rfl) rfl ?_
  refine go_aload_n dX12_keep_0 rfl ?_
  refine go_getR (k := 0) (r := 274) dX12_keep_1 sh_273 rfl inX12 (Nat.le_of_ble_eq_true rfl) lf_X12_7 rfl rfl ?_
  refine go_iconst (v := 4) dX12_keep_4 (by decide) ?_
  refine go_ialdK (k := 4) dX12_keep_5 sh_274 (vp_in_dec (by decide)) (by decide) ?_
  refine go_bipush (v := 30) dX12_keep_6 (by decide) ?_
  refine go_icmp_ne 56 dX12_keep_8 rfl ⟨fun hc => ?_, fun hc => ?_⟩
  · have hF := hF.1 hc
    refine go_sipush (v := 188) dX12_keep_56 (by decide) ?_
    refine go_bipush (v := 30) dX12_keep_59 (by decide) ?_
    refine go_aload_n dX12_keep_61 rfl ?_
    refine go_getR (k := 0) (r := 274) dX12_keep_62 sh_273 rfl inX12 (Nat.le_of_ble_eq_true rfl) lf_X12_7 rfl rfl ?_
    refine go_iconst (v := 4) dX12_keep_65 (by decide) ?_
    refine go_ialdK (k := 4) dX12_keep_66 sh_274 (vp_in_dec (by decide)) (by decide) ?_
    refine go_imul dX12_keep_67 ?_
    refine go_iadd dX12_keep_68 ?_
    refine Gw.namei (fun x1 ex1 => ?_)
    have hF := hF x1 ex1
    refine go_istore_n (L' := [.ref (ga G 273), .int x1, uu]) dX12_keep_69 (Nat.le_of_ble_eq_true rfl) rfl ?_
    refine go_iconst (v := 0) dX12_keep_70 (by decide) ?_
    refine go_istore_n (L' := [.ref (ga G 273), .int x1, .int 0]) dX12_keep_71 (Nat.le_of_ble_eq_true rfl) rfl ?_
    exact hF
  · have hF := hF.2 hc
    refine go_iconst (v := 0) dX12_keep_11 (by decide) ?_
    refine go_istore_n (L' := [.ref (ga G 273), .int 0, uu]) dX12_keep_12 (Nat.le_of_ble_eq_true rfl) rfl ?_
    exact hF
theorem vX12_keep_72 (G : GP) (d : Nat) (l1 : Int32) (l2 : Int32) (m : Mem) (K : Mem → Prop) (hF : ((3 ≤ l2) → Gw G (d) mX12_keep 121 [.ref (ga G 273), .int l1, .int 0] [] m (Qv K)) ∧ ((¬ 3 ≤ l2) → vp_in ((8 : Int32) + l2) 5968 ∧ vp_in (l1 + l2) 5968 ∧ ∀ m2 : Mem, m2 = wI m 274 (l1 + l2).toNatClampNeg (m.1 274 ((8 : Int32) + l2).toNatClampNeg) → vp_in ((12 : Int32) + l2) 5968 ∧ vp_in ((l1 + 3) + l2) 5968 ∧ ∀ m3 : Mem, m3 = wI m2 274 ((l1 + 3) + l2).toNatClampNeg (m2.1 274 ((12 : Int32) + l2).toNatClampNeg) → ∀ x4 : Int32, x4 = l2 + 1 → Gw G (d) mX12_keep 72 [.ref (ga G 273), .int l1, .int x4] [] m3 (Qv K))) : Gw G (d) mX12_keep 72 [.ref (ga G 273), .int l1, .int l2] [] m (Qv K) := by
  refine go_iload_n dX12_keep_72 rfl ?_
  refine go_iconst (v := 3) dX12_keep_73 (by decide) ?_
  refine go_icmp_ge 119 dX12_keep_74 rfl ⟨fun hc => ?_, fun hc => ?_⟩
  · have hF := hF.1 hc
    refine go_iconst (v := 0) dX12_keep_119 (by decide) ?_
    refine go_istore_n (L' := [.ref (ga G 273), .int l1, .int 0]) dX12_keep_120 (Nat.le_of_ble_eq_true rfl) rfl ?_
    exact hF
  · have hF := hF.2 hc
    refine go_aload_n dX12_keep_77 rfl ?_
    refine go_getR (k := 0) (r := 274) dX12_keep_78 sh_273 rfl inX12 (Nat.le_of_ble_eq_true rfl) lf_X12_7 rfl rfl ?_
    refine go_iload_n dX12_keep_81 rfl ?_
    refine go_iload_n dX12_keep_82 rfl ?_
    refine go_iadd dX12_keep_83 ?_
    refine go_aload_n dX12_keep_84 rfl ?_
    refine go_getR (k := 0) (r := 274) dX12_keep_85 sh_273 rfl inX12 (Nat.le_of_ble_eq_true rfl) lf_X12_7 rfl rfl ?_
    refine go_bipush (v := 8) dX12_keep_88 (by decide) ?_
    refine go_iload_n dX12_keep_90 rfl ?_
    refine go_iadd dX12_keep_91 ?_
    obtain ⟨hi, hF⟩ := hF
    refine go_iald dX12_keep_92 sh_274 hi ?_
    obtain ⟨hi, hF⟩ := hF
    refine go_iast dX12_keep_93 sh_274 hi ?_
    obtain ⟨m2, em2⟩ : ∃ z : Mem, z = wI m 274 (l1 + l2).toNatClampNeg (m.1 274 ((8 : Int32) + l2).toNatClampNeg) := ⟨_, rfl⟩
    rw [← em2]
    have hF := hF m2 em2
    refine go_aload_n dX12_keep_94 rfl ?_
    refine go_getR (k := 0) (r := 274) dX12_keep_95 sh_273 rfl inX12 (Nat.le_of_ble_eq_true rfl) lf_X12_7 rfl rfl ?_
    refine go_iload_n dX12_keep_98 rfl ?_
    refine go_iconst (v := 3) dX12_keep_99 (by decide) ?_
    refine go_iadd dX12_keep_100 ?_
    refine go_iload_n dX12_keep_101 rfl ?_
    refine go_iadd dX12_keep_102 ?_
    refine go_aload_n dX12_keep_103 rfl ?_
    refine go_getR (k := 0) (r := 274) dX12_keep_104 sh_273 rfl inX12 (Nat.le_of_ble_eq_true rfl) lf_X12_7 rfl rfl ?_
    refine go_bipush (v := 12) dX12_keep_107 (by decide) ?_
    refine go_iload_n dX12_keep_109 rfl ?_
    refine go_iadd dX12_keep_110 ?_
    obtain ⟨hi, hF⟩ := hF
    refine go_iald dX12_keep_111 sh_274 hi ?_
    obtain ⟨hi, hF⟩ := hF
    refine go_iast dX12_keep_112 sh_274 hi ?_
    obtain ⟨m3, em3⟩ : ∃ z : Mem, z = wI m2 274 ((l1 + 3) + l2).toNatClampNeg (m2.1 274 ((12 : Int32) + l2).toNatClampNeg) := ⟨_, rfl⟩
    rw [← em3]
    have hF := hF m3 em3
    obtain ⟨x4, ex4⟩ : ∃ z : Int32, z = l2 + 1 := ⟨_, rfl⟩
    have hF := hF x4 ex4
    refine go_iinc (v := x4) (L' := [.ref (ga G 273), .int l1, .int x4]) dX12_keep_113 rfl (by rw [ex4]; rfl) (Nat.le_of_ble_eq_true rfl) rfl ?_
    refine go_goto 72 dX12_keep_116 rfl ?_
    exact hF
theorem vX12_keep_13 (G : GP) (d : Nat) (l1 : Int32) (u2 : Value) (m : Mem) (K : Mem → Prop) (hF : ((870 ≤ l1) → ∀ m5 : Mem, m5 = wI m 274 4 ((m.1 274 4) - 1) → ∀ x6 : Int32, x6 = (188 : Int32) + ((30 : Int32) * (m5.1 274 4)) → Gw G (d) mX12_keep 72 [.ref (ga G 273), .int x6, .int 0] [] m5 (Qv K)) ∧ ((¬ 870 ≤ l1) → vp_in ((218 : Int32) + l1) 5968 ∧ vp_in ((188 : Int32) + l1) 5968 ∧ ∀ m7 : Mem, m7 = wI m 274 ((188 : Int32) + l1).toNatClampNeg (m.1 274 ((218 : Int32) + l1).toNatClampNeg) → ∀ x8 : Int32, x8 = l1 + 1 → Gw G (d) mX12_keep 13 [.ref (ga G 273), .int x8, uu] [] m7 (Qv K))) : Gw G (d) mX12_keep 13 [.ref (ga G 273), .int l1, u2] [] m (Qv K) := by
  refine Gw.weak (L' := [.ref (ga G 273), .int l1, uu]) ⟨Or.inl rfl, Or.inl rfl, Or.inr rfl, trivial⟩ ?_
  refine go_iload_n dX12_keep_13 rfl ?_
  refine go_sipush (v := 870) dX12_keep_14 (by decide) ?_
  refine go_icmp_ge 46 dX12_keep_17 rfl ⟨fun hc => ?_, fun hc => ?_⟩
  · have hF := hF.1 hc
    refine go_aload_n dX12_keep_46 rfl ?_
    refine go_getR (k := 0) (r := 274) dX12_keep_47 sh_273 rfl inX12 (Nat.le_of_ble_eq_true rfl) lf_X12_7 rfl rfl ?_
    refine go_iconst (v := 4) dX12_keep_50 (by decide) ?_
    refine go_dup2 dX12_keep_51 rfl rfl ?_
    refine go_ialdK (k := 4) dX12_keep_52 sh_274 (vp_in_dec (by decide)) (by decide) ?_
    refine go_iconst (v := 1) dX12_keep_53 (by decide) ?_
    refine go_isub dX12_keep_54 ?_
    refine go_iastK (k := 4) dX12_keep_55 sh_274 (vp_in_dec (by decide)) (by decide) ?_
    obtain ⟨m5, em5⟩ : ∃ z : Mem, z = wI m 274 4 ((m.1 274 4) - 1) := ⟨_, rfl⟩
    rw [← em5]
    have hF := hF m5 em5
    refine go_sipush (v := 188) dX12_keep_56 (by decide) ?_
    refine go_bipush (v := 30) dX12_keep_59 (by decide) ?_
    refine go_aload_n dX12_keep_61 rfl ?_
    refine go_getR (k := 0) (r := 274) dX12_keep_62 sh_273 rfl inX12 (Nat.le_of_ble_eq_true rfl) lf_X12_7 rfl rfl ?_
    refine go_iconst (v := 4) dX12_keep_65 (by decide) ?_
    refine go_ialdK (k := 4) dX12_keep_66 sh_274 (vp_in_dec (by decide)) (by decide) ?_
    refine go_imul dX12_keep_67 ?_
    refine go_iadd dX12_keep_68 ?_
    refine Gw.namei (fun x6 ex6 => ?_)
    have hF := hF x6 ex6
    refine go_istore_n (L' := [.ref (ga G 273), .int x6, uu]) dX12_keep_69 (Nat.le_of_ble_eq_true rfl) rfl ?_
    refine go_iconst (v := 0) dX12_keep_70 (by decide) ?_
    refine go_istore_n (L' := [.ref (ga G 273), .int x6, .int 0]) dX12_keep_71 (Nat.le_of_ble_eq_true rfl) rfl ?_
    exact hF
  · have hF := hF.2 hc
    refine go_aload_n dX12_keep_20 rfl ?_
    refine go_getR (k := 0) (r := 274) dX12_keep_21 sh_273 rfl inX12 (Nat.le_of_ble_eq_true rfl) lf_X12_7 rfl rfl ?_
    refine go_sipush (v := 188) dX12_keep_24 (by decide) ?_
    refine go_iload_n dX12_keep_27 rfl ?_
    refine go_iadd dX12_keep_28 ?_
    refine go_aload_n dX12_keep_29 rfl ?_
    refine go_getR (k := 0) (r := 274) dX12_keep_30 sh_273 rfl inX12 (Nat.le_of_ble_eq_true rfl) lf_X12_7 rfl rfl ?_
    refine go_sipush (v := 218) dX12_keep_33 (by decide) ?_
    refine go_iload_n dX12_keep_36 rfl ?_
    refine go_iadd dX12_keep_37 ?_
    obtain ⟨hi, hF⟩ := hF
    refine go_iald dX12_keep_38 sh_274 hi ?_
    obtain ⟨hi, hF⟩ := hF
    refine go_iast dX12_keep_39 sh_274 hi ?_
    obtain ⟨m7, em7⟩ : ∃ z : Mem, z = wI m 274 ((188 : Int32) + l1).toNatClampNeg (m.1 274 ((218 : Int32) + l1).toNatClampNeg) := ⟨_, rfl⟩
    rw [← em7]
    have hF := hF m7 em7
    obtain ⟨x8, ex8⟩ : ∃ z : Int32, z = l1 + 1 := ⟨_, rfl⟩
    have hF := hF x8 ex8
    refine go_iinc (v := x8) (L' := [.ref (ga G 273), .int x8, uu]) dX12_keep_40 rfl (by rw [ex8]; rfl) (Nat.le_of_ble_eq_true rfl) rfl ?_
    refine go_goto 13 dX12_keep_43 rfl ?_
    exact hF
theorem vX12_keep_121 (G : GP) (d : Nat) (l1 : Int32) (l2 : Int32) (m : Mem) (K : Mem → Prop) (hF : ((24 ≤ l2) → ∀ m9 : Mem, m9 = wI m 274 4 ((m.1 274 4) + 1) → K m9) ∧ ((¬ 24 ≤ l2) → vp_in ((164 : Int32) + l2) 5968 ∧ vp_in ((l1 + 6) + l2) 5968 ∧ ∀ m10 : Mem, m10 = wI m 274 ((l1 + 6) + l2).toNatClampNeg (m.1 274 ((164 : Int32) + l2).toNatClampNeg) → ∀ x11 : Int32, x11 = l2 + 1 → Gw G (d) mX12_keep 121 [.ref (ga G 273), .int l1, .int x11] [] m10 (Qv K))) : Gw G (d) mX12_keep 121 [.ref (ga G 273), .int l1, .int l2] [] m (Qv K) := by
  refine go_iload_n dX12_keep_121 rfl ?_
  refine go_bipush (v := 24) dX12_keep_122 (by decide) ?_
  refine go_icmp_ge 154 dX12_keep_124 rfl ⟨fun hc => ?_, fun hc => ?_⟩
  · have hF := hF.1 hc
    refine go_aload_n dX12_keep_154 rfl ?_
    refine go_getR (k := 0) (r := 274) dX12_keep_155 sh_273 rfl inX12 (Nat.le_of_ble_eq_true rfl) lf_X12_7 rfl rfl ?_
    refine go_iconst (v := 4) dX12_keep_158 (by decide) ?_
    refine go_dup2 dX12_keep_159 rfl rfl ?_
    refine go_ialdK (k := 4) dX12_keep_160 sh_274 (vp_in_dec (by decide)) (by decide) ?_
    refine go_iconst (v := 1) dX12_keep_161 (by decide) ?_
    refine go_iadd dX12_keep_162 ?_
    refine go_iastK (k := 4) dX12_keep_163 sh_274 (vp_in_dec (by decide)) (by decide) ?_
    obtain ⟨m9, em9⟩ : ∃ z : Mem, z = wI m 274 4 ((m.1 274 4) + 1) := ⟨_, rfl⟩
    rw [← em9]
    have hF := hF m9 em9
    exact go_vret (S := []) dX12_keep_164 rfl ⟨rfl, hF⟩
  · have hF := hF.2 hc
    refine go_aload_n dX12_keep_127 rfl ?_
    refine go_getR (k := 0) (r := 274) dX12_keep_128 sh_273 rfl inX12 (Nat.le_of_ble_eq_true rfl) lf_X12_7 rfl rfl ?_
    refine go_iload_n dX12_keep_131 rfl ?_
    refine go_bipush (v := 6) dX12_keep_132 (by decide) ?_
    refine go_iadd dX12_keep_134 ?_
    refine go_iload_n dX12_keep_135 rfl ?_
    refine go_iadd dX12_keep_136 ?_
    refine go_aload_n dX12_keep_137 rfl ?_
    refine go_getR (k := 0) (r := 274) dX12_keep_138 sh_273 rfl inX12 (Nat.le_of_ble_eq_true rfl) lf_X12_7 rfl rfl ?_
    refine go_sipush (v := 164) dX12_keep_141 (by decide) ?_
    refine go_iload_n dX12_keep_144 rfl ?_
    refine go_iadd dX12_keep_145 ?_
    obtain ⟨hi, hF⟩ := hF
    refine go_iald dX12_keep_146 sh_274 hi ?_
    obtain ⟨hi, hF⟩ := hF
    refine go_iast dX12_keep_147 sh_274 hi ?_
    obtain ⟨m10, em10⟩ : ∃ z : Mem, z = wI m 274 ((l1 + 6) + l2).toNatClampNeg (m.1 274 ((164 : Int32) + l2).toNatClampNeg) := ⟨_, rfl⟩
    rw [← em10]
    have hF := hF m10 em10
    obtain ⟨x11, ex11⟩ : ∃ z : Int32, z = l2 + 1 := ⟨_, rfl⟩
    have hF := hF x11 ex11
    refine go_iinc (v := x11) (L' := [.ref (ga G 273), .int l1, .int x11]) dX12_keep_148 rfl (by rw [ex11]; rfl) (Nat.le_of_ble_eq_true rfl) rfl ?_
    refine go_goto 121 dX12_keep_151 rfl ?_
    exact hF
