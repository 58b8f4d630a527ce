/-! ALL CELLS ARE MADE: the growing world is the whole one -/
def okR (t : Nat × Nat × List Nat) : Bool := if t.1 < 13 then (List.range 40).all (fun k => (FT t.1).getD k 0 != 2 || t.2.2.getD k 0 != 0) else if 104 ≤ t.1 then (List.range t.2.1).all (fun k => t.2.2.getD k 0 != 0) else true
theorem allR : ∀ t ∈ SH, okR t = true := by
  have h : SH.all okR = true := by decide +kernel
  exact List.all_eq_true.mp h
theorem FT_len : ∀ k, k < 13 → (FT k).length ≤ 40 := by decide
def FullR (m : Mem) : Prop := ∀ c, c < 293 → m.2.2 c = Mr c
theorem full_at {G : GP} {m : Mem} {c : Nat} (hc : c < 293) (h : m.2.2 c = Mr c) (H : Heap) : va_at (gD G) vwCl (ga G c, cC G m c) H ↔ va_at (gD G) vwCl (ga G c, cE G m c) H := by
  obtain ⟨⟨kd, len, refs⟩, ht⟩ : ∃ t, SH[c]? = some t := ⟨_, List.getElem?_eq_getElem (show c < SH.length by rw [SH_len]; exact hc)⟩
  have ho := allR _ (List.mem_of_getElem? ht)
  rw [Mr_of ht] at h
  rw [cC_of ht, cE_of ht]
  by_cases h1 : kd < 13
  · have e : fC G m c kd = fE G refs m c kd := by
      unfold fC fE
      refine List.map_congr_left (fun k hk => ?_)
      have hk1 := List.mem_range.mp hk
      have hk2 := FT_len kd h1
      unfold eC eF
      by_cases q0 : (FT kd).getD k 0 = 0
      · rw [if_pos q0, if_pos q0]
      · rw [if_neg q0, if_neg q0]
        by_cases q1 : (FT kd).getD k 0 = 1
        · rw [if_pos q1, if_pos q1]
        · rw [if_neg q1, if_neg q1]
          by_cases q2 : (FT kd).getD k 0 = 2
          · rw [if_pos q2]
            unfold okR at ho
            rw [if_pos h1] at ho
            have h3 := List.all_eq_true.mp ho k (List.mem_range.mpr (by omega))
            have h4 : refs.getD k 0 ≠ 0 := by
              intro z
              simp only [q2, z] at h3
              exact absurd h3 (by decide)
            rw [h, if_neg h4]
          · rw [if_neg q2]
    rw [kC_obj h1, cK_obj h1, e]
  · by_cases h2 : kd = 103
    · unfold kC cK; rw [if_neg h1, if_neg h1, if_pos h2, if_pos h2]
    · by_cases h3 : kd < 103
      · unfold kC cK; rw [if_neg h1, if_neg h1, if_neg h2, if_neg h2, if_pos h3, if_pos h3]
      · unfold kC cK
        rw [if_neg h1, if_neg h1, if_neg h2, if_neg h2, if_neg h3, if_neg h3]
        show H[ga G c]? = some (vp_cell _ _) ↔ H[ga G c]? = some (vp_cell _ _)
        rw [vp_cell_q, vp_cell_q]
        have e : arrV (gy G (kd - 100)) len (fun j => va_rf (rC G m c j)) = arrV (gy G (kd - 100)) len (fun j => va_rf (some (ga G (refs.getD j 0)))) := by
          unfold arrV
          congr 1
          congr 1
          funext j
          unfold okR at ho
          rw [if_neg h1, if_pos (show 104 ≤ kd by omega)] at ho
          have h4 := List.all_eq_true.mp ho j.1 (List.mem_range.mpr j.2)
          have h5 : refs.getD j.1 0 ≠ 0 := by
            intro z
            simp only [z] at h4
            exact absurd h4 (by decide)
          show va_rf (rC G m c j.1) = va_rf (some (ga G (refs.getD j.1 0)))
          have h6 : rC G m c j.1 = some (ga G (refs.getD j.1 0)) := by
            unfold rC
            rw [h]
            exact if_neg h5
          rw [h6]
        rw [e]
theorem full_P {G : GP} {m : Mem} (h : FullR m) (H : Heap) : va_P (gD G) vwCl (wsC G 293 m) H ↔ va_P (gD G) vwCl (wsO G m) H := by
  constructor
  · intro hP k q hq
    have hk := (List.getElem?_eq_some_iff.mp hq).1
    have hk2 : k < 293 := by rw [wsO, List.length_map, List.length_range, SH_len] at hk; exact hk
    rw [wsO_get G m (by rw [SH_len]; exact hk2)] at hq
    cases hq
    exact (full_at hk2 (h k hk2) H).mp (hP k _ (wsC_get G m hk2))
  · intro hP k q hq
    have hk2 : k < 293 := by have := (List.getElem?_eq_some_iff.mp hq).1; rw [wsC_len] at this; exact this
    rw [wsC_get G m hk2] at hq
    cases hq
    exact (full_at hk2 (h k hk2) H).mpr (hP k _ (wsO_get G m (by rw [SH_len]; exact hk2)))
theorem co_callE {G : GP} {d : Nat} {y : MD} {ct st pc : Nat} {L S : List Value} {cu su : Nat} {m : Mem} {Q : Nat → Mem → Prop} {K : Mem → Prop} (y' : MD) {idx nA : Nat} {As st0 : List Value} (dg : decode y.2.1 pc = .ok (.invokestatic idx, 3)) (hfull : FullR m) (hk : Cond.methodLink y.1.cls idx y'.1 ∈ tblG) (ok : okM y' nA) (ok2 : Cond.static y'.1 ∈ tblG) (hst0 : st0 = As.reverse ++ S) (hA : As.length = nA) (hrm : (S.map fun v => v.category).sum ≤ 8) (hcu : cu ≤ ct) (hsu : su ≤ st) (E : Evv G d y' As m K) (kk : ∀ m', K m' → FullR m' ∧ Fz 293 m' ∧ Gc G (d + 1) y ct st (pc + 3) L S 293 cu su m' Q) : Gc G (d + 1) y ct st pc L st0 293 cu su m Q := by
  intro p e s me args below meth c0 H locs ls C hi hcg hP hH hF hS hl T hT X
  obtain ⟨hx, hb, hr0, hlk, hml, hown, hts, hK, hN, hZ, hG⟩ := id C
  have hPO := (full_P hfull H).mp hP
  have hr : va_Run p (gl G) e (rmC (d + 1) ct st) s me args below meth c0 H locs cu su 0 0 (F0 me pc ls st0) S (QcO G (fun v m' => v = none ∧ K m') As.toArray) (gA G) := va_runS (R := rmC (d + 1) ct st) (As := As) (rest := S) (Ts := tblG) ⟨hx, hb, hml, hown, hts⟩ E ⟨callB_of nA hts (goodM ok) rfl rfl rfl (hts _ ok.1) (hts _ hk) ok.2.2.1 (rm_in ok.2.2.2), hts _ ok2⟩ ⟨PcO_blind G _ m, PcO_here C hPO hS _⟩ rfl hA hl.1 hst0 (lv_room hrm) dg ⟨hcu, hsu⟩
  obtain ⟨v, st₀, t, T', Lc, h0, X', hL, e1, e2, ⟨v', m', hv, ⟨hv2, hk2⟩, hP', hFr⟩, stp⟩ := hr T hT X
  cases hv
  subst hv2
  obtain ⟨hz, hkk⟩ := hFr
  rw [h0] at hz hkk
  obtain ⟨hf1, hf2, kg⟩ := kk m' hk2
  obtain ⟨t2, a1, b1⟩ := kg p e s me args below meth c0 T'.heap (locs ++ Lc) ls C hi hcg ((full_P hf1 _).mpr (by rw [e1]; exact hP')) hH hf2
    ⟨Nat.le_trans hS.1 (by rw [e1]; exact hz), fun q h1 h2 => by rw [e1, hkk q (Nat.lt_of_lt_of_le h1 hS.1) h2]; exact hS.2.1 q h1 h2, fun q hq => by
      rcases List.mem_append.mp hq with h | h
      · exact hS.2.2 q h
      · exact hL q h⟩ hl T' rfl X'
  exact ⟨t2, stp t2 a1, b1⟩
theorem qX12_copyM (G : GP) (d : Nat) (m : Mem) (K : Mem → Prop) (hK : ∀ m' : Mem, (∀ k, k < 5968 → m'.1 275 k = m.1 274 k) → (∀ k, 5968 ≤ k → m'.1 275 k = m.1 275 k) → (∀ q, q ≠ 275 → m'.1 q = m.1 q) → m'.2 = m.2 → K m') : Evv G d mX12_copy [.ref (ga G 274), .ref (ga G 275)] m K := by
  refine vX12_copy G d 274 5968 sh_274 275 5968 sh_275 m K ?_
  have lp : ∀ (f i : Nat) (m' : Mem), i + f = 5968 → (∀ k, k < i → m'.1 275 k = m.1 274 k) → (∀ k, i ≤ k → m'.1 275 k = m.1 275 k) → (∀ q, q ≠ 275 → m'.1 q = m.1 q) → m'.2 = m.2 → Gw G d mX12_copy 2 [.ref (ga G 274), .ref (ga G 275), .int (nI i)] [] m' (Qv K) := by
    intro f
    induction f with
    | zero =>
      intro i m' e h1 h2 h3 h4
      have : i = 5968 := by omega
      subst this
      exact vX12_copy_2 G d 274 5968 sh_274 275 5968 sh_275 _ m' K ⟨fun _ => hK m' h1 h2 h3 h4, fun z => absurd ((le_nI (a := 5968) (b := 5968) (by omega) (by omega)).mpr (Nat.le_refl _)) z⟩
    | succ f ih =>
      intro i m' e h1 h2 h3 h4
      refine vX12_copy_2 G d 274 5968 sh_274 275 5968 sh_275 _ m' K ⟨fun z => absurd ((le_nI (a := 5968) (b := i) (by omega) (by omega)).mp z) (by omega), fun _ => ⟨in_nI (by omega) (by omega), in_nI (by omega) (by omega), fun m1 e1 x2 e2 => ?_⟩⟩
      rw [show (nI i).toNatClampNeg = i from tn_nI (by omega), h3 274 (by omega)] at e1
      rw [e2, ← nI_succ]
      refine ih (i + 1) m1 (by omega) (fun k hk => ?_) (fun k hk => ?_) (fun q hq => by rw [e1, wI_n _ _ _ hq]; exact h3 q hq) (by rw [e1]; exact h4)
      · rw [e1, wI_s]
        by_cases q : k = i
        · rw [q, upd_s]
        · rw [upd_n _ _ q]; exact h1 k (by omega)
      · rw [e1, wI_s, upd_n _ _ (by omega)]; exact h2 k (by omega)
  exact lp 5968 0 m (by omega) (fun k hk => absurd hk (Nat.not_lt_zero k)) (fun _ _ => rfl) (fun _ _ => rfl) rfl
