/-! FROM THE ENTRY TO THE LOOP -/
theorem callEndL {G : GP} {p : Program} {e : Env} {R : Room} {s : State} {m : MethodId} {args : Array Value} {below : List Frame} {meth : Method} {c : Code} {H : Heap} {locs : List Loc} {cells slots ct st pc : Nat} {ls : Array Slot} {st0 S : List Value} {as : Array Value} {Q' : Nat → Mem → Prop} {Q : State → Prop} (hS : va_S (gA G) s.heap H locs) (hr : va_Run p (gl G) e R s m args below meth c H locs cells slots ct st (F0 m pc ls st0) S (QcC G Q' as) (gA G)) (kk : ∀ (n' : Nat) (m' : Mem) (H1 : Heap) (locs1 : List Loc), Q' n' m' → Fz n' m' → va_P (gD G) vwCl (wsC G n' m') H1 → va_S (gA G) s.heap H1 locs1 → W p (gl G) e R s m args below meth c H1 locs1 (cells + ct) (slots + st) Q (F0 m (pc + 3) ls S)) : W p (gl G) e R s m args below meth c H locs cells slots Q (F0 m pc ls st0) := by
  intro T hT X
  obtain ⟨v, st₀, t, T', Lc, h0, X', hL, e1, e2, ⟨n', m', hv, hk, hP', hF', hFr⟩, stp⟩ := hr T hT X
  cases hv
  obtain ⟨hz, hkk⟩ := hFr
  rw [h0] at hz hkk
  obtain ⟨t2, a1, b1⟩ := kk n' m' T'.heap (locs ++ Lc) hk hF' (by rw [e1]; exact hP')
    ⟨Nat.le_trans hS.1 (by rw [e1]; exact hz), fun q h1 h2 => by rw [e1, hkk q (Nat.lt_of_lt_of_le h1 hS.1) h2]; exact hS.2.1 q h1 h2, fun q hq => by
      rcases List.mem_append.mp hq with h | h
      · exact hS.2.2 q h
      · exact hL q h⟩ T' rfl X'
  exact ⟨t2, stp t2 a1, b1⟩
theorem whole_walk {p : Program} {e : Env} {s : State} {m : MethodId} {below : List Frame} {meth : Method} {c : Code} {b L : Nat} {xs : Nat → Int32} (hL : L ≤ 3584) (C0 : lw_At p s m meth c b L xs) (G : GP) (aK aV : Nat → Nat) (eA : ∀ q, gA G q ↔ s.heap.size ≤ q) (ega : ∀ c, ga G c = s.heap.size + c) (hK : va_K (gD G) vwCl (tyO G) s) (hGW : GW G) (hZ : gZ G s s.heap) (hStr : StrG G aK aV) (hov5 : ∀ (U : State) (H : Heap), gZ G U H → va_AO RX5 U) (hov8 : ∀ (U : State) (H : Heap), gZ G U H → va_AO RX8 U) : W p (gl G) e room_1 s m #[Value.ref b] below meth c s.heap [] 0 0 (lw_Z below #[Value.ref b] s) (entryFrame m ([Value.ref b] : List Value).toArray 4) := by
  obtain ⟨hx, hb, hr, hml, hown, hts, hX, hbl, hlocks, hgv⟩ := id C0
  have htg : ∀ w ∈ tblG, w.before #[Value.ref b] s = true := fun w hw => hts w (List.mem_filter.mp hw).1
  have hCon : ConG G := ⟨fun c => by rw [ega c, ega 0]; omega, fun q => by rw [eA, ega 0]; exact Iff.rfl⟩
  have hCl : Cl G p s m meth c b L xs := ⟨C0, hK, hZ, hGW, fun q h => (eA q).mp h, fun h => by have := (eA b).mp h; omega⟩
  have hCt : Ct G lwM p s m #[Value.ref b] meth c := hCl.ct
  have hall := all_cases G (ScS_of hStr)
  rw [lg_entry_eq]
  have hl := lvp_ent [.ref b] (n := 4) (L := [.ref b, uu, uu, uu]) (Nat.le_of_ble_eq_true rfl) rfl
  generalize (lg_sl [Value.ref b] ++ List.replicate (4 - (lg_sl [Value.ref b]).length) Slot.unset).toArray = ls at hl ⊢
  obtain ⟨m00, em⟩ : ∃ z : Mem, z = ((fun _ _ => 0), (fun _ _ => 0), (fun _ _ => 0)) := ⟨_, rfl⟩
  have hF0 : Fz 0 m00 := fun c _ => by rw [em]; exact ⟨rfl, rfl, rfl⟩
  have hP0 : va_P (gD G) vwCl (wsC G 0 m00) s.heap := fun k q h => by simp [wsC] at h
  have hS0 : va_S (gA G) s.heap s.heap [] := va_S.rf
  have g0 := ega 0
  have g1 := ega 1
  have hz0 : s.heap.size = ga G 0 := by omega
  have hKn := hK.1 11 (RX11, TX11, 8) rfl
  refine W.newcK hx hb hown (htg _ lcl_L_7) (htg _ lin_X11) (htg _ wi_X11) rfl dL_law_0 (Nat.le_of_ble_eq_true rfl) (Nat.le_of_ble_eq_true rfl) hKn.2.1 hz0 fun H1 kC' hkC e1 z1 o1 => ?_
  have o1' : ∀ q : Nat, q < s.heap.size → H1[q]? = s.heap[q]? := fun q hq => o1 q (by omega)
  have hP1 : va_P (gD G) vwCl (wsC G 1 m00) H1 := grow_P hP0 hz0 o1' (by
    rw [cC_of sh_0, kC_obj (by omega), fC_zero hF0]
    exact ⟨_, rfl, (u_born tyX11 htg inX11 hKn hkC e1 tyX11_ok).to (by decide)⟩)
  have hS1 : va_S (gA G) s.heap H1 [] := grow_S hS0 (by omega) o1'
  have hz1 : H1.size = ga G 1 := by omega
  refine lv_dup hx hb dL_law_3 rfl ?_
  refine callEndL (G := G) (ct := 272) (st := 19708) (Q' := fun n' m' => n' = 273 ∧ MC 0 273 m') hS1 (va_runI (R := room_1) (y := yX11_init) (bytes := cX11_init) (maxL := 2) (n := 0) (As := []) (rest := [.ref (ga G 0)]) (Ts := tblG) ⟨hx, hb, hml, hown, htg⟩ (eX11_init G 0 hov5 hov8 m00 hF0 (fun n' m' => n' = 273 ∧ MC 0 273 m') (fun m' q1 q2 => ⟨rfl, q1⟩)) ⟨callB_of 0 htg (goodM okX11_init) rfl rfl rfl (htg _ okX11_init.1) (htg _ lml_9) okX11_init.2.2.1 ⟨Nat.le_of_ble_eq_true rfl, Nat.le_of_ble_eq_true rfl⟩, rfl, htg _ imX11_init⟩ ⟨PcC_blind _, PcC_here hCt hCon hP1 hz1 hF0.up hS1 _⟩ rfl rfl hl.1 rfl (lv_room (Nat.le_of_ble_eq_true rfl)) dL_law_4 ⟨Nat.le_of_ble_eq_true rfl, Nat.le_of_ble_eq_true rfl⟩) (fun n' m1 H2 locs2 hq hF2 hP2 hS2 => ?_)
  obtain ⟨en, hM1⟩ := hq
  subst en
  refine lv_astore_n hx hb dL_law_7 rfl (lvp_has hl) (by decide) rfl (fun ls1 h1 => ?_)
  have hl1 : lvp ls1 4 [.ref b, .ref (ga G 0), uu, uu] := (show st1 [.ref b, uu, uu, uu] 1 (.ref (ga G 0)) = [.ref b, .ref (ga G 0), uu, uu] from rfl) ▸ lvp_f1 h1
  intro T hT X
  have g273 := ega 273
  have g274 := ega 274
  have hz2 : H2.size = ga G 273 := Gc_size (cu := 0 + 1 + 272) hT X hCon hP2 hS2 (by omega) (by omega)
  refine (?_ : W p (gl G) e room_1 s m #[Value.ref b] below meth c H2 locs2 (0 + 1 + 272) (0 + 8 + 19708) (lw_Z below #[Value.ref b] s) (F0 m 8 ls1 [])) T hT X
  have hKm := hK.1 12 (RX12, TX12, 35) rfl
  refine W.newcK hx hb hown (htg _ lcl_L_10) (htg _ lin_X12) (htg _ wi_X12) rfl dL_law_8 (Nat.le_of_ble_eq_true rfl) (Nat.le_of_ble_eq_true rfl) hKm.2.1 hz2 fun H3 kM hkM e3 z3 o3 => ?_
  have o3' : ∀ q : Nat, q < H2.size → H3[q]? = H2[q]? := fun q hq => o3 q (by omega)
  have hP3 : va_P (gD G) vwCl (wsC G 274 m1) H3 := grow_P hP2 hz2 o3' (by
    rw [cC_of sh_273, kC_obj (by omega), fC_zero hF2]
    exact ⟨_, rfl, (u_born tyX12 htg inX12 hKm hkM e3 tyX12_ok).to (by decide)⟩)
  have hS3 : va_S (gA G) s.heap H3 locs2 := grow_S hS2 (by omega) o3'
  have hz3 : H3.size = ga G 274 := by omega
  refine lv_dup hx hb dL_law_11 rfl ?_
  refine callEndL (G := G) (ct := 19) (st := 26609) (Q' := fun n' m' => n' = 293 ∧ MO m' ∧ ∀ q, q < 273 → Eq3 m1 m' q) hS3 (va_runI (R := room_1) (y := yX12_init) (bytes := cX12_init) (maxL := 1) (n := 0) (As := []) (rest := [.ref (ga G 273)]) (Ts := tblG) ⟨hx, hb, hml, hown, htg⟩ (eX12_init G 0 m1 hF2 hM1 (fun n' m' => n' = 293 ∧ MO m' ∧ ∀ q, q < 273 → Eq3 m1 m' q) (fun m' q1 q2 => ⟨rfl, q1, q2⟩)) ⟨callB_of 0 htg (goodM okX12_init) rfl rfl rfl (htg _ okX12_init.1) (htg _ lml_12) okX12_init.2.2.1 ⟨Nat.le_of_ble_eq_true rfl, Nat.le_of_ble_eq_true rfl⟩, rfl, htg _ imX12_init⟩ ⟨PcC_blind _, PcC_here hCt hCon hP3 hz3 hF2.up hS3 _⟩ rfl rfl hl1.1 rfl (lv_room (Nat.le_of_ble_eq_true rfl)) dL_law_12 ⟨Nat.le_of_ble_eq_true rfl, Nat.le_of_ble_eq_true rfl⟩) (fun n' m2 H4 locs4 hq hF4 hP4 hS4 => ?_)
  obtain ⟨en, hMO, hEq⟩ := hq
  subst en
  refine lv_astore_n hx hb dL_law_15 rfl (lvp_has hl1) (by decide) rfl (fun ls2 h2 => ?_)
  have hl2 : lvp ls2 4 [.ref b, .ref (ga G 0), .ref (ga G 273), uu] := (show st1 [.ref b, .ref (ga G 0), uu, uu] 2 (.ref (ga G 273)) = [.ref b, .ref (ga G 0), .ref (ga G 273), uu] from rfl) ▸ lvp_f1 h2
  refine lv_iconst hx hb dL_law_16 (v := 0) (by decide) ?_
  refine lv_istore_n hx hb dL_law_17 rfl (lvp_has hl2) (by decide) rfl (fun ls3 h3 => ?_)
  have hl3 : lvp ls3 4 [.ref b, .ref (ga G 0), .ref (ga G 273), .int 0] := (show st1 [.ref b, .ref (ga G 0), .ref (ga G 273), uu] 3 (.int 0) = [.ref b, .ref (ga G 0), .ref (ga G 273), .int 0] from rfl) ▸ lvp_f1 h3
  have hlow : MC 0 273 m2 := hM1.eq (fun q b1 b2 => hEq q b2)
  have hfull : FullR m2 := fun q hq => by
    rcases Nat.lt_or_ge q 273 with z | z
    · exact (hlow q (Nat.zero_le _) z).2.2
    · exact (hMO.2.2.2 q z hq).2
  have hInv : Inv TXc 0 m2.1 := Inv_start (fun q h1 h2 h3 => by
    rcases Nat.lt_or_ge q 273 with z | z
    · exact (hlow q (Nat.zero_le _) z).1
    · exact hMO.1 q z h1 h2 h3) hMO.2.1 hMO.2.2.1
  refine W.widen (k := 600000) (n := 7302250) (by omega) (by omega) ?_
  exact law_loop G hall b L xs hL L 0 m2 (by omega) (by omega) hInv p e s m below meth c H4 locs4 ls3 hCl ((full_P hfull _).mp hP4) hS4 hl3
theorem whole_start {p : Program} {e : Env} {s : State} {m : MethodId} {below : List Frame} {meth : Method} {c : Code} (l : Launch) {b L : Nat} {xs : Nat → Int32} (hL : L ≤ 3584) (C0 : lw_At p s m meth c b L xs) : W p l e room_1 s m #[Value.ref b] below meth c s.heap [] 0 0 (lw_Z below #[Value.ref b] s) (entryFrame m ([Value.ref b] : List Value).toArray 4) := by
  obtain ⟨hx, hb, hr, hml, hown, hts, hX, hbl, hlocks, hgv⟩ := id C0
  have htg : ∀ w ∈ tblG, w.before #[Value.ref b] s = true := fun w hw => hts w (List.mem_filter.mp hw).1
  obtain ⟨hA5, hA8⟩ := AO_start hts
  obtain ⟨dC, dI, hcl⟩ := cls_start htg
  obtain ⟨gyf, hgy⟩ := row_start htg hA5 hA8
  obtain ⟨aK, aV, hZS⟩ := ZS_start (A := fun q => s.heap.size ≤ q) hgv hts (fun a h z => by omega)
  exact whole_walk hL C0 (l, (dC, dI), gyf, (fun c => s.heap.size + c), (fun q => s.heap.size ≤ q), (fun U H => ZS aK aV (fun q => s.heap.size ≤ q) U H ∧ va_AO RX5 U ∧ va_AO RX8 U)) aK aV (fun q => Iff.rfl) (fun c => rfl) ⟨hcl, hgy⟩ ⟨fun i j _ _ e => (by
      have e' : s.heap.size + i = s.heap.size + j := e
      omega), fun i _ => (show s.heap.size ≤ s.heap.size + i by omega), fun u U H hW hz => ⟨hz.1.warm hW, va_AO.moved hW.alike hz.2.1, va_AO.moved hW.alike hz.2.2⟩, fun U H H1 hle hk hz => ⟨hz.1.kept hk, hz.2⟩⟩ ⟨hZS, hA5, hA8⟩ (fun U H h => h.1) (fun U H h => h.2.1) (fun U H h => h.2.2)
