/-! charAt AND indexOf OF THE CONSTANTS -/
section StrMeth
variable {G : GP} {aK aV : Nat → Nat}
theorem eJ0_isLatin1 (hz : StrG G aK aV) (d i : Nat) (hi : i < 2) (m : Mem) (K : Int32 → Mem → Prop) (hK : K 1 m) : Evi G d mJ0_isLatin1_aae02 [.ref (aK i)] m K := by
  refine Ev.go [.ref (aK i)] (by decide) (Nat.le_of_ble_eq_true rfl) rfl ?_
  refine go_cmpS hz rfl dJ0_isLatin1_aae02_0 ?_
  refine go_if_eq 17 dJ0_isLatin1_aae02_3 rfl ⟨fun hc => absurd hc (by decide), fun _ => ?_⟩
  refine go_aload_n dJ0_isLatin1_aae02_6 rfl ?_
  refine go_codS hz hi rfl dJ0_isLatin1_aae02_7 ?_
  refine go_if_ne 17 dJ0_isLatin1_aae02_10 rfl ⟨fun hc => absurd rfl hc, fun _ => ?_⟩
  refine go_iconst (v := 1) dJ0_isLatin1_aae02_13 (by decide) ?_
  refine go_goto 18 dJ0_isLatin1_aae02_14 rfl ?_
  exact go_zret (S := []) dJ0_isLatin1_aae02_18 rfl (by decide) ⟨_, rfl, hK⟩
theorem eJ0_coder (hz : StrG G aK aV) (d i : Nat) (hi : i < 2) (m : Mem) (K : Int32 → Mem → Prop) (hK : K 0 m) : Evi G d mJ0_coder_7d493 [.ref (aK i)] m K := by
  refine Ev.go [.ref (aK i)] (by decide) (Nat.le_of_ble_eq_true rfl) rfl ?_
  refine go_cmpS hz rfl dJ0_coder_7d493_0 ?_
  refine go_if_eq 13 dJ0_coder_7d493_3 rfl ⟨fun hc => absurd hc (by decide), fun _ => ?_⟩
  refine go_aload_n dJ0_coder_7d493_6 rfl ?_
  refine go_codS hz hi rfl dJ0_coder_7d493_7 ?_
  refine go_goto 14 dJ0_coder_7d493_10 rfl ?_
  exact go_nret (S := []) dJ0_coder_7d493_14 rfl (by decide) ⟨_, rfl, hK⟩
theorem eJ0_length (hz : StrG G aK aV) (d : Nat) (m : Mem) (K : Int32 → Mem → Prop) (hK : K 13 m) : Evi G (d + 1) mJ0_length_8abf5 [.ref (aK 1)] m K := by
  refine Ev.go [.ref (aK 1)] (by decide) (Nat.le_of_ble_eq_true rfl) rfl ?_
  refine go_aload_n dJ0_length_8abf5_0 rfl ?_
  refine go_valS hz (by omega) rfl dJ0_length_8abf5_1 ?_
  refine go_tlenS hz (by omega) dJ0_length_8abf5_4 ?_
  refine go_aload_n dJ0_length_8abf5_5 rfl ?_
  refine go_callVS hz (by omega) mJ0_coder_7d493 dJ0_length_8abf5_6 lm_J0_335 okJ0_coder_7d493 isJ0_coder_7d493 rfl (As := []) (S := [.int (nI (lnS.getD 1 0))]) rfl rfl (Nat.le_of_ble_eq_true rfl) (eJ0_coder hz d 1 (by omega) m (fun r m' => r = 0 ∧ m = m') ⟨rfl, rfl⟩) (k_i (fun r m' hr => ?_))
  obtain ⟨hr1, hr2⟩ := hr
  subst hr1 hr2
  refine go_ishr dJ0_length_8abf5_9 ?_
  refine go_iret (S := []) dJ0_length_8abf5_10 rfl ⟨_, rfl, ?_⟩
  rw [show nI (lnS.getD 1 0) >>> ((0 : Int32) &&& 31) = 13 by decide]
  exact hK
theorem eJ3_checkIndexN (d k n : Nat) (hk : k < n) (hn : n < 1000) (m : Mem) (K : Int32 → Mem → Prop) (hK : K (nI k) m) : Evi G d mJ3_checkIndex_8e157 [.int (nI k), .int (nI n), .null] m K := by
  refine Ev.go [.int (nI k), .int (nI n), .null] (by decide) (Nat.le_of_ble_eq_true rfl) rfl ?_
  refine go_iload_n dJ3_checkIndex_8e157_0 rfl ?_
  refine go_if_lt 9 dJ3_checkIndex_8e157_1 rfl ⟨fun hc => absurd hc (neg_nI k (by omega)), fun _ => ?_⟩
  refine go_iload_n dJ3_checkIndex_8e157_4 rfl ?_
  refine go_iload_n dJ3_checkIndex_8e157_5 rfl ?_
  refine go_icmp_lt 16 dJ3_checkIndex_8e157_6 rfl ⟨fun _ => ?_, fun hc => absurd ((lt_nI (by omega) (by omega)).mpr hk) hc⟩
  refine go_iload_n dJ3_checkIndex_8e157_16 rfl ?_
  exact go_iret (S := []) dJ3_checkIndex_8e157_17 rfl ⟨_, rfl, hK⟩
theorem eJ3_checkIndexR (d k n t : Nat) (hk : k < n) (hn : n < 1000) (m : Mem) (K : Int32 → Mem → Prop) (hK : K (nI k) m) : Evi G d mJ3_checkIndex_8e157 [.int (nI k), .int (nI n), .ref t] m K := by
  refine Ev.go [.int (nI k), .int (nI n), .ref t] (by decide) (Nat.le_of_ble_eq_true rfl) rfl ?_
  refine go_iload_n dJ3_checkIndex_8e157_0 rfl ?_
  refine go_if_lt 9 dJ3_checkIndex_8e157_1 rfl ⟨fun hc => absurd hc (neg_nI k (by omega)), fun _ => ?_⟩
  refine go_iload_n dJ3_checkIndex_8e157_4 rfl ?_
  refine go_iload_n dJ3_checkIndex_8e157_5 rfl ?_
  refine go_icmp_lt 16 dJ3_checkIndex_8e157_6 rfl ⟨fun _ => ?_, fun hc => absurd ((lt_nI (by omega) (by omega)).mpr hk) hc⟩
  refine go_iload_n dJ3_checkIndex_8e157_16 rfl ?_
  exact go_iret (S := []) dJ3_checkIndex_8e157_17 rfl ⟨_, rfl, hK⟩
theorem eJ0_checkIndex (hz : StrG G aK aV) (d k n : Nat) (hk : k < n) (hn : n < 1000) (m : Mem) (K : Mem → Prop) (hK : K m) : Evv G (d + 1) mJ0_checkIndex_df160 [.int (nI k), .int (nI n)] m K := by
  refine Ev.go [.int (nI k), .int (nI n)] (by decide) (Nat.le_of_ble_eq_true rfl) rfl ?_
  refine go_iload_n dJ0_checkIndex_df160_0 rfl ?_
  refine go_iload_n dJ0_checkIndex_df160_1 rfl ?_
  refine go_fmtS hz rfl dJ0_checkIndex_df160_2 ?_ (fun t => ?_)
  · refine go_callS mJ3_checkIndex_8e157 dJ0_checkIndex_df160_5 lm_J0_1059 okJ3_checkIndex_8e157 isJ3_checkIndex_8e157 (As := [.int (nI k), .int (nI n), .null]) (S := []) rfl rfl (Nat.le_of_ble_eq_true rfl) (eJ3_checkIndexN d k n hk hn m (fun r m' => m = m') rfl) (k_i (fun r m' hr => ?_))
    subst hr
    refine go_pop dJ0_checkIndex_df160_8 rfl ?_
    exact go_vret (S := []) dJ0_checkIndex_df160_9 rfl ⟨rfl, hK⟩
  · refine go_callS mJ3_checkIndex_8e157 dJ0_checkIndex_df160_5 lm_J0_1059 okJ3_checkIndex_8e157 isJ3_checkIndex_8e157 (As := [.int (nI k), .int (nI n), .ref t]) (S := []) rfl rfl (Nat.le_of_ble_eq_true rfl) (eJ3_checkIndexR d k n t hk hn m (fun r m' => m = m') rfl) (k_i (fun r m' hr => ?_))
    subst hr
    refine go_pop dJ0_checkIndex_df160_8 rfl ?_
    exact go_vret (S := []) dJ0_checkIndex_df160_9 rfl ⟨rfl, hK⟩
theorem kw_ch : ∀ k, k < 184 → (((((byS.getD 0 []).getD k 0) &&& 255).toUInt32 % 65536).toInt32 = nI (kwN.getD k 0) ∧ narrow .char (.int (nI (kwN.getD k 0))) = .int (nI (kwN.getD k 0))) := by decide +kernel
theorem eJ1_charAt (hz : StrG G aK aV) (d k : Nat) (hk : k < 184) (m : Mem) (K : Int32 → Mem → Prop) (hK : K (nI (kwN.getD k 0)) m) : Evi G (d + 2) mJ1_charAt_3b067 [.ref (aV 0), .int (nI k)] m K := by
  obtain ⟨c1, c2⟩ := kw_ch k hk
  refine Ev.go [.ref (aV 0), .int (nI k)] (by decide) (Nat.le_of_ble_eq_true rfl) rfl ?_
  refine go_iload_n dJ1_charAt_3b067_0 rfl ?_
  refine go_aload_n dJ1_charAt_3b067_1 rfl ?_
  refine go_tlenS hz (by omega) dJ1_charAt_3b067_2 ?_
  refine go_callS mJ0_checkIndex_df160 dJ1_charAt_3b067_3 lm_J1_9 okJ0_checkIndex_df160 isJ0_checkIndex_df160 (As := [.int (nI k), .int (nI 184)]) (S := []) rfl rfl (Nat.le_of_ble_eq_true rfl) (eJ0_checkIndex hz d k 184 hk (by omega) m (fun m' => m = m') rfl) (k_v (fun m' hr => ?_))
  subst hr
  refine go_aload_n dJ1_charAt_3b067_6 rfl ?_
  refine go_iload_n dJ1_charAt_3b067_7 rfl ?_
  refine go_tbS hz (by omega) dJ1_charAt_3b067_8 (in_nI (show k < lnS.getD 0 0 from hk) (show lnS.getD 0 0 < 2147483648 by decide)) ?_
  refine go_sipush (v := 255) dJ1_charAt_3b067_9 (by decide) ?_
  refine go_iand dJ1_charAt_3b067_12 ?_
  refine go_i2c dJ1_charAt_3b067_13 ?_
  rw [show (nI k).toNatClampNeg = k from tn_nI (by omega), c1]
  exact go_nret (S := []) dJ1_charAt_3b067_14 rfl c2 ⟨_, rfl, hK⟩
theorem eJ0_charAt (hz : StrG G aK aV) (d k : Nat) (hk : k < 184) (m : Mem) (K : Int32 → Mem → Prop) (hK : K (nI (kwN.getD k 0)) m) : Evi G (d + 3) mJ0_charAt_5068e [.ref (aK 0), .int (nI k)] m K := by
  obtain ⟨c1, c2⟩ := kw_ch k hk
  refine Ev.go [.ref (aK 0), .int (nI k)] (by decide) (Nat.le_of_ble_eq_true rfl) rfl ?_
  refine go_aload_n dJ0_charAt_5068e_0 rfl ?_
  refine go_callVS hz (by omega) mJ0_isLatin1_aae02 dJ0_charAt_5068e_1 lm_J0_492 okJ0_isLatin1_aae02 isJ0_isLatin1_aae02 rfl (As := []) (S := []) rfl rfl (Nat.le_of_ble_eq_true rfl) (eJ0_isLatin1 hz (d + 2) 0 (by omega) m (fun r m' => r = 1 ∧ m = m') ⟨rfl, rfl⟩) (k_i (fun r m' hr => ?_))
  obtain ⟨hr1, hr2⟩ := hr
  subst hr1 hr2
  refine go_if_eq 16 dJ0_charAt_5068e_4 rfl ⟨fun hc => absurd hc (by decide), fun _ => ?_⟩
  refine go_aload_n dJ0_charAt_5068e_7 rfl ?_
  refine go_valS hz (by omega) rfl dJ0_charAt_5068e_8 ?_
  refine go_iload_n dJ0_charAt_5068e_11 rfl ?_
  refine go_callS mJ1_charAt_3b067 dJ0_charAt_5068e_12 lm_J0_495 okJ1_charAt_3b067 isJ1_charAt_3b067 (As := [.ref (aV 0), .int (nI k)]) (S := []) rfl rfl (Nat.le_of_ble_eq_true rfl) (eJ1_charAt hz d k hk m (fun r m' => r = nI (kwN.getD k 0) ∧ m = m') ⟨rfl, rfl⟩) (k_i (fun r m' hr => ?_))
  obtain ⟨hr1, hr2⟩ := hr
  subst hr1 hr2
  exact go_nret (S := []) dJ0_charAt_5068e_15 rfl c2 ⟨_, rfl, hK⟩
theorem eJ1_canEncode (d v : Nat) (hv : v < 256) (m : Mem) (K : Int32 → Mem → Prop) (hK : K 1 m) : Evi G d mJ1_canEncode_9a6ad [.int (nI v)] m K := by
  refine Ev.go [.int (nI v)] (by decide) (Nat.le_of_ble_eq_true rfl) rfl ?_
  refine go_iload_n dJ1_canEncode_9a6ad_0 rfl ?_
  refine go_if_lt 15 dJ1_canEncode_9a6ad_1 rfl ⟨fun hc => absurd hc (neg_nI v (by omega)), fun _ => ?_⟩
  refine go_iload_n dJ1_canEncode_9a6ad_4 rfl ?_
  refine go_sipush (v := 255) dJ1_canEncode_9a6ad_5 (by decide) ?_
  refine go_icmp_gt 15 dJ1_canEncode_9a6ad_8 rfl ⟨fun hc => absurd ((lt_nI (a := 255) (by omega) (by omega)).mp hc) (by omega), fun _ => ?_⟩
  refine go_iconst (v := 1) dJ1_canEncode_9a6ad_11 (by decide) ?_
  refine go_goto 16 dJ1_canEncode_9a6ad_12 rfl ?_
  exact go_zret (S := []) dJ1_canEncode_9a6ad_16 rfl (by decide) ⟨_, rfl, hK⟩
theorem sg_eq : ∀ v, v < 256 → ∀ j, j < 13 → ((byS.getD 1 []).getD j 0 = (nI v).toInt8.toInt32 ↔ sgN.getD j 0 = v) := by decide +kernel
theorem sg_in : ∀ v, v < 256 → ((∃ j, j < 13 ∧ sgN.getD j 0 = v) ↔ v ∈ sgL) := by decide +kernel
theorem eJ1_indexOfChar (hz : StrG G aK aV) (d v : Nat) (hv : v < 256) (m : Mem) (K : Int32 → Mem → Prop) (h1 : v ∈ sgL → ∀ j, j < 13 → K (nI j) m) (h0 : ¬ v ∈ sgL → K (-1) m) : Evi G d mJ1_indexOfChar_4cfef [.ref (aV 1), .int (nI v), .int 0, .int 13] m K := by
  refine Ev.go [.ref (aV 1), .int (nI v), .int 0, .int 13, uu, uu] (by decide) (Nat.le_of_ble_eq_true rfl) rfl ?_
  refine go_iload_n dJ1_indexOfChar_4cfef_0 rfl ?_
  refine go_i2b dJ1_indexOfChar_4cfef_1 ?_
  refine go_istore dJ1_indexOfChar_4cfef_2 (by decide) rfl ?_
  refine go_iload_n dJ1_indexOfChar_4cfef_4 rfl ?_
  refine go_istore dJ1_indexOfChar_4cfef_5 (by decide) rfl ?_
  have lp : ∀ (f j : Nat), j + f = 13 → (∀ i, i < j → sgN.getD i 0 ≠ v) → Gw G d mJ1_indexOfChar_4cfef 7 [.ref (aV 1), .int (nI v), .int 0, .int 13, .int (nI v).toInt8.toInt32, .int (nI j)] [] m (Qi K) := by
    intro f
    induction f with
    | zero =>
      intro j e hj
      have : j = 13 := by omega
      subst this
      refine go_iload dJ1_indexOfChar_4cfef_7 rfl ?_
      refine go_iload_n dJ1_indexOfChar_4cfef_9 rfl ?_
      refine go_icmp_ge 31 dJ1_indexOfChar_4cfef_10 rfl ⟨fun _ => ?_, fun hc => absurd ((le_nI (a := 13) (b := 13) (by omega) (by omega)).mpr (Nat.le_refl _)) hc⟩
      refine go_iconst (v := -1) dJ1_indexOfChar_4cfef_31 (by decide) ?_
      exact go_iret (S := []) dJ1_indexOfChar_4cfef_32 rfl ⟨_, rfl, h0 (fun z => by
        obtain ⟨i, i1, i2⟩ := (sg_in v hv).mpr z
        exact hj i i1 i2)⟩
    | succ f ih =>
      intro j e hj
      refine go_iload dJ1_indexOfChar_4cfef_7 rfl ?_
      refine go_iload_n dJ1_indexOfChar_4cfef_9 rfl ?_
      refine go_icmp_ge 31 dJ1_indexOfChar_4cfef_10 rfl ⟨fun hc => absurd ((le_nI (a := 13) (b := j) (by omega) (by omega)).mp hc) (by omega), fun _ => ?_⟩
      refine go_aload_n dJ1_indexOfChar_4cfef_13 rfl ?_
      refine go_iload dJ1_indexOfChar_4cfef_14 rfl ?_
      refine go_tbS hz (by omega) dJ1_indexOfChar_4cfef_16 (in_nI (show j < lnS.getD 1 0 from (show j < 13 by omega)) (show lnS.getD 1 0 < 2147483648 by decide)) ?_
      refine go_iload dJ1_indexOfChar_4cfef_17 rfl ?_
      rw [show (nI j).toNatClampNeg = j from tn_nI (by omega)]
      refine go_icmp_ne 25 dJ1_indexOfChar_4cfef_19 rfl ⟨fun hc => ?_, fun hc => ?_⟩
      · refine go_iinc (v := nI (j + 1)) dJ1_indexOfChar_4cfef_25 rfl (nI_succ j).symm (by decide) rfl ?_
        refine go_goto 7 dJ1_indexOfChar_4cfef_28 rfl ?_
        refine ih (j + 1) (by omega) (fun i hi => ?_)
        by_cases q : i = j
        · rw [q]; exact fun y => hc ((sg_eq v hv j (by omega)).mpr y)
        · exact hj i (by omega)
      · refine go_iload dJ1_indexOfChar_4cfef_22 rfl ?_
        exact go_iret (S := []) dJ1_indexOfChar_4cfef_24 rfl ⟨_, rfl, h1 ((sg_in v hv).mp ⟨j, by omega, (sg_eq v hv j (by omega)).mp hc⟩) j (by omega)⟩
  exact lp 13 0 (by omega) (fun i hi => absurd hi (Nat.not_lt_zero i))
theorem eJ1_indexOf (hz : StrG G aK aV) (d v : Nat) (hv : v < 256) (m : Mem) (K : Int32 → Mem → Prop) (h1 : v ∈ sgL → ∀ j, j < 13 → K (nI j) m) (h0 : ¬ v ∈ sgL → K (-1) m) : Evi G (d + 1) mJ1_indexOf_4cfef [.ref (aV 1), .int (nI v), .int 0, .int 13] m K := by
  refine Ev.go [.ref (aV 1), .int (nI v), .int 0, .int 13] (by decide) (Nat.le_of_ble_eq_true rfl) rfl ?_
  refine go_iload_n dJ1_indexOf_4cfef_0 rfl ?_
  refine go_callS mJ1_canEncode_9a6ad dJ1_indexOf_4cfef_1 lm_J1_88 okJ1_canEncode_9a6ad isJ1_canEncode_9a6ad (As := [.int (nI v)]) (S := []) rfl rfl (Nat.le_of_ble_eq_true rfl) (eJ1_canEncode d v hv m (fun r m' => r = 1 ∧ m = m') ⟨rfl, rfl⟩) (k_i (fun r m' hr => ?_))
  obtain ⟨hr1, hr2⟩ := hr
  subst hr1 hr2
  refine go_if_ne 9 dJ1_indexOf_4cfef_4 rfl ⟨fun _ => ?_, fun hc => absurd hc (by decide)⟩
  refine go_iload_n dJ1_indexOf_4cfef_9 rfl ?_
  refine go_iconst (v := 0) dJ1_indexOf_4cfef_10 (by decide) ?_
  refine go_mmax dJ1_indexOf_4cfef_11 lm_J1_92 (Nat.le_of_ble_eq_true rfl) ?_
  rw [show imax 0 0 = 0 by decide]
  refine go_istore_n dJ1_indexOf_4cfef_14 (by decide) rfl ?_
  refine go_iload_n dJ1_indexOf_4cfef_15 rfl ?_
  refine go_aload_n dJ1_indexOf_4cfef_16 rfl ?_
  refine go_tlenS hz (by omega) dJ1_indexOf_4cfef_17 ?_
  refine go_mmin dJ1_indexOf_4cfef_18 lm_J1_38 (Nat.le_of_ble_eq_true rfl) ?_
  rw [show imin 13 (nI (lnS.getD 1 0)) = 13 by decide]
  refine go_istore_n dJ1_indexOf_4cfef_21 (by decide) rfl ?_
  refine go_iload_n dJ1_indexOf_4cfef_22 rfl ?_
  refine go_iload_n dJ1_indexOf_4cfef_23 rfl ?_
  refine go_icmp_lt 29 dJ1_indexOf_4cfef_24 rfl ⟨fun _ => ?_, fun hc => absurd (by decide) hc⟩
  refine go_aload_n dJ1_indexOf_4cfef_29 rfl ?_
  refine go_iload_n dJ1_indexOf_4cfef_30 rfl ?_
  refine go_iload_n dJ1_indexOf_4cfef_31 rfl ?_
  refine go_iload_n dJ1_indexOf_4cfef_32 rfl ?_
  refine go_callS mJ1_indexOfChar_4cfef dJ1_indexOf_4cfef_33 lm_J1_95 okJ1_indexOfChar_4cfef isJ1_indexOfChar_4cfef (As := [.ref (aV 1), .int (nI v), .int 0, .int 13]) (S := []) rfl rfl (Nat.le_of_ble_eq_true rfl) (eJ1_indexOfChar hz d v hv m (fun r m' => K r m') h1 h0) (k_i (fun r m' hr => ?_))
  exact go_iret (S := []) dJ1_indexOf_4cfef_36 rfl ⟨_, rfl, hr⟩
theorem eJ0_indexOf2 (hz : StrG G aK aV) (d v : Nat) (hv : v < 256) (m : Mem) (K : Int32 → Mem → Prop) (h1 : v ∈ sgL → ∀ j, j < 13 → K (nI j) m) (h0 : ¬ v ∈ sgL → K (-1) m) : Evi G (d + 2) mJ0_indexOf_7cf53 [.ref (aK 1), .int (nI v), .int 0] m K := by
  refine Ev.go [.ref (aK 1), .int (nI v), .int 0] (by decide) (Nat.le_of_ble_eq_true rfl) rfl ?_
  refine go_aload_n dJ0_indexOf_7cf53_0 rfl ?_
  refine go_callVS hz (by omega) mJ0_isLatin1_aae02 dJ0_indexOf_7cf53_1 lm_J0_492 okJ0_isLatin1_aae02 isJ0_isLatin1_aae02 rfl (As := []) (S := []) rfl rfl (Nat.le_of_ble_eq_true rfl) (eJ0_isLatin1 hz (d + 1) 1 (by omega) m (fun r m' => r = 1 ∧ m = m') ⟨rfl, rfl⟩) (k_i (fun r m' hr => ?_))
  obtain ⟨hr1, hr2⟩ := hr
  subst hr1 hr2
  refine go_if_eq 23 dJ0_indexOf_7cf53_4 rfl ⟨fun hc => absurd hc (by decide), fun _ => ?_⟩
  refine go_aload_n dJ0_indexOf_7cf53_7 rfl ?_
  refine go_valS hz (by omega) rfl dJ0_indexOf_7cf53_8 ?_
  refine go_iload_n dJ0_indexOf_7cf53_11 rfl ?_
  refine go_iload_n dJ0_indexOf_7cf53_12 rfl ?_
  refine go_aload_n dJ0_indexOf_7cf53_13 rfl ?_
  refine go_callVS hz (by omega) mJ0_length_8abf5 dJ0_indexOf_7cf53_14 lm_J0_505 okJ0_length_8abf5 isJ0_length_8abf5 rfl (As := []) (S := [.int 0, .int (nI v), .ref (aV 1)]) rfl rfl (Nat.le_of_ble_eq_true rfl) (eJ0_length hz d m (fun r m' => r = 13 ∧ m = m') ⟨rfl, rfl⟩) (k_i (fun r m' hr => ?_))
  obtain ⟨hr1, hr2⟩ := hr
  subst hr1 hr2
  refine go_callS mJ1_indexOf_4cfef dJ0_indexOf_7cf53_17 lm_J0_637 okJ1_indexOf_4cfef isJ1_indexOf_4cfef (As := [.ref (aV 1), .int (nI v), .int 0, .int 13]) (S := []) rfl rfl (Nat.le_of_ble_eq_true rfl) (eJ1_indexOf hz d v hv m (fun r m' => K r m') h1 h0) (k_i (fun r m' hr => ?_))
  refine go_goto 36 dJ0_indexOf_7cf53_20 rfl ?_
  exact go_iret (S := []) dJ0_indexOf_7cf53_36 rfl ⟨_, rfl, hr⟩
theorem eJ0_indexOf (hz : StrG G aK aV) (d v : Nat) (hv : v < 256) (m : Mem) (K : Int32 → Mem → Prop) (h1 : v ∈ sgL → ∀ j, j < 13 → K (nI j) m) (h0 : ¬ v ∈ sgL → K (-1) m) : Evi G (d + 3) mJ0_indexOf_0f7a4 [.ref (aK 1), .int (nI v)] m K := by
  refine Ev.go [.ref (aK 1), .int (nI v)] (by decide) (Nat.le_of_ble_eq_true rfl) rfl ?_
  refine go_aload_n dJ0_indexOf_0f7a4_0 rfl ?_
  refine go_iload_n dJ0_indexOf_0f7a4_1 rfl ?_
  refine go_iconst (v := 0) dJ0_indexOf_0f7a4_2 (by decide) ?_
  refine go_callVS hz (by omega) mJ0_indexOf_7cf53 dJ0_indexOf_0f7a4_3 lm_J0_633 okJ0_indexOf_7cf53 isJ0_indexOf_7cf53 rfl (As := [.int (nI v), .int 0]) (S := []) rfl rfl (Nat.le_of_ble_eq_true rfl) (eJ0_indexOf2 hz d v hv m (fun r m' => K r m') h1 h0) (k_i (fun r m' hr => ?_))
  exact go_iret (S := []) dJ0_indexOf_0f7a4_6 rfl ⟨_, rfl, hr⟩
end StrMeth
