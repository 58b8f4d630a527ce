-- ===== undo: the row =====
def uf (a : Nat → Int32) (s : Nat) : Nat → Int32 := pt (pt (pt (upd a 4 (nI s)) (fun j => a (188 + 30 * s + j)) 8 3) (fun j => a (191 + 30 * s + j)) 12 3) (fun j => a (194 + 30 * s + j)) 164 24
theorem uf_4 (a : Nat → Int32) (s : Nat) : uf a s 4 = nI s := by
  unfold uf
  rw [pt_out (by omega), pt_out (by omega), pt_out (by omega), upd_s]
theorem uf_0 {a : Nat → Int32} {s r : Nat} (hr : r < 3) : uf a s (8 + r) = a (188 + 30 * s + r) := by
  unfold uf
  rw [pt_out (by omega), pt_out (by omega), pt_in (by omega) (by omega)]
  exact congrArg a (by omega)
theorem uf_1 {a : Nat → Int32} {s r : Nat} (hr : r < 3) : uf a s (12 + r) = a (191 + 30 * s + r) := by
  unfold uf
  rw [pt_out (by omega), pt_in (by omega) (by omega)]
  exact congrArg a (by omega)
theorem uf_2 {a : Nat → Int32} {s r : Nat} (hr : r < 24) : uf a s (164 + r) = a (194 + 30 * s + r) := by
  unfold uf
  rw [pt_in (by omega) (by omega)]
  exact congrArg a (by omega)
theorem uf_n {a : Nat → Int32} {s i : Nat} (h4 : i ≠ 4) (h : i < 8 ∨ i = 11 ∨ (15 ≤ i ∧ i < 164) ∨ 188 ≤ i) : uf a s i = a i := by
  unfold uf
  rw [pt_out (by omega), pt_out (by omega), pt_out (by omega), upd_n _ _ h4]
theorem qX12_undo (G : GP) (d : Nat) (m : Mem) (K : Int32 → Mem → Prop) (hn : bd (m.1 274 4) 0 30) (h0 : tn (m.1 274 4) = 0 → K (-1) m) (hK : ∀ s, tn (m.1 274 4) = s + 1 → K (nI s) (wA m 274 (uf (m.1 274) s))) : Evi G d mX12_undo [.ref (ga G 273)] m K := by
  obtain ⟨e1, -, e3⟩ := hn.is (by omega)
  refine vX12_undo G d m K ⟨fun q => ?_, fun q => ?_⟩
  · obtain ⟨s, hs⟩ : ∃ s, tn (m.1 274 4) = s + 1 := by
      refine ⟨tn (m.1 274 4) - 1, ?_⟩
      rcases Nat.eq_zero_or_pos (tn (m.1 274 4)) with z | z
      · exact absurd (e1.trans (congrArg nI z)) q
      · omega
    have hK := hK s hs
    rintro _ rfl
    have e4 : m.1 274 4 - 1 = nI s := by
      rw [e1, hs]
      exact sub_nI (a := s + 1) (b := 1) (by omega)
    rw [e4, wI_s, upd_s]
    rintro _ rfl
    have ex : (188 : Int32) + ((30 : Int32) * nI s) = nI (188 + 30 * s) := by simp only [lit, pk_mul, nI_add]
    rw [ex]
    have w0 : wI m 274 4 (nI s) = wA m 274 (upd (m.1 274) 4 (nI s)) := rfl
    rw [w0]
    generalize ha : m.1 274 = a at *
    have x1 : ∀ i : Nat, nI (188 + 30 * s) + nI i = nI (188 + 30 * s + i) := fun i => nI_add _ _
    have x3 : ∀ i : Nat, (nI (188 + 30 * s) + 3) + nI i = nI (191 + 30 * s + i) := fun i => by
      simp only [lit, nI_add]
      exact congrArg nI (by omega)
    have x6 : ∀ i : Nat, (nI (188 + 30 * s) + 6) + nI i = nI (194 + 30 * s + i) := fun i => by
      simp only [lit, nI_add]
      exact congrArg nI (by omega)
    have a8 : ∀ i : Nat, (8 : Int32) + nI i = nI (8 + i) := fun i => nI_add 8 i
    have a12 : ∀ i : Nat, (12 : Int32) + nI i = nI (12 + i) := fun i => nI_add 12 i
    have a164 : ∀ i : Nat, (164 : Int32) + nI i = nI (164 + i) := fun i => nI_add 164 i
    have A : Gw G d mX12_undo 37 [.ref (ga G 273), .int (nI (188 + 30 * s)), .int (nI 0)] [] (wA m 274 (pt (pt (upd a 4 (nI s)) (fun j => a (188 + 30 * s + j)) 8 0) (fun j => a (191 + 30 * s + j)) 12 0)) (Qi K) := by
      refine loopD (P := fun i => Gw G d mX12_undo 37 [.ref (ga G 273), .int (nI (188 + 30 * s)), .int (nI i)] [] (wA m 274 (pt (pt (upd a 4 (nI s)) (fun j => a (188 + 30 * s + j)) 8 i) (fun j => a (191 + 30 * s + j)) 12 i)) (Qi K)) 3 ?_ ?_
      · intro i hi h
        refine vX12_undo_37 G d _ (nI i) _ K ⟨fun hc => ?_, fun _ => ?_⟩
        · have hc : nI 3 ≤ nI i := hc
          rw [le_nI (by omega) (by omega)] at hc
          omega
        · rw [a8, a12, x1, x3, tn_nI (by omega), tn_nI (by omega), tn_nI (by omega), tn_nI (by omega)]
          refine ⟨in_nI (by omega) (by omega), in_nI (by omega) (by omega), ?_⟩
          rintro _ rfl
          refine ⟨in_nI (by omega) (by omega), in_nI (by omega) (by omega), ?_⟩
          rintro _ rfl
          rintro _ rfl
          rw [nI_1]
          have r1 : (wA m 274 (pt (pt (upd a 4 (nI s)) (fun j => a (188 + 30 * s + j)) 8 i) (fun j => a (191 + 30 * s + j)) 12 i)).1 274 (188 + 30 * s + i) = a (188 + 30 * s + i) := by
            rw [wA_s, pt_out (by omega), pt_out (by omega), upd_n _ _ (by omega)]
          rw [r1, wI_wA, wI_wA, wA_s, upd_n _ _ (by omega), pt_out (by omega), pt_out (by omega), upd_n _ _ (by omega), pt_upd _ _ _ (by omega), pt_succ (upd a 4 (nI s)) (fun j => a (188 + 30 * s + j)), pt_succ _ (fun j => a (191 + 30 * s + j))]
          exact h
      · refine vX12_undo_37 G d _ (nI 3) _ K ⟨fun _ => ?_, fun hc => absurd ((le_nI (a := 3) (b := 3) (by omega) (by omega)).mpr (Nat.le_refl 3)) hc⟩
        generalize hcdef : pt (pt (upd a 4 (nI s)) (fun j => a (188 + 30 * s + j)) 8 3) (fun j => a (191 + 30 * s + j)) 12 3 = c
        have c194 : ∀ j, j < 24 → c (194 + 30 * s + j) = a (194 + 30 * s + j) := fun j hj => by
          rw [← hcdef, pt_out (by omega), pt_out (by omega), upd_n _ _ (by omega)]
        have Bq : Gw G d mX12_undo 86 [.ref (ga G 273), .int (nI (188 + 30 * s)), .int (nI 0)] [] (wA m 274 (pt c (fun j => a (194 + 30 * s + j)) 164 0)) (Qi K) := by
          refine loopD (P := fun i => Gw G d mX12_undo 86 [.ref (ga G 273), .int (nI (188 + 30 * s)), .int (nI i)] [] (wA m 274 (pt c (fun j => a (194 + 30 * s + j)) 164 i)) (Qi K)) 24 ?_ ?_
          · intro i hi h
            refine vX12_undo_86 G d _ (nI i) _ K ⟨fun hc => ?_, fun _ => ?_⟩
            · have hc : nI 24 ≤ nI i := hc
              rw [le_nI (by omega) (by omega)] at hc
              omega
            · rw [a164, x6, tn_nI (by omega), tn_nI (by omega)]
              refine ⟨in_nI (by omega) (by omega), in_nI (by omega) (by omega), ?_⟩
              rintro _ rfl
              rintro _ rfl
              rw [nI_1, wA_s, pt_out (by omega), c194 i hi, wI_wA, pt_succ c (fun j => a (194 + 30 * s + j))]
              exact h
          · refine vX12_undo_86 G d _ (nI 24) _ K ⟨fun _ => ?_, fun hc => absurd ((le_nI (a := 24) (b := 24) (by omega) (by omega)).mpr (Nat.le_refl 24)) hc⟩
            have hu : pt c (fun j => a (194 + 30 * s + j)) 164 24 = uf a s := by rw [← hcdef]; rfl
            rw [hu, wA_s, uf_4]
            exact hK
        rw [pt_0] at Bq
        exact Bq
    rw [pt_0, pt_0] at A
    exact A
  · refine h0 ?_
    rw [e1] at q
    have q : nI (tn (m.1 274 4)) = nI 0 := q
    rw [eq_nI (by omega) (by omega)] at q
    exact q
theorem WF.undo {a : Nat → Int32} (h : WF a) {s : Nat} (hs : tn (a 4) = s + 1) : WF (uf a s) := by
  have hn := (h.ns.is (by omega)).2.2
  have lo : ∀ i, i ≠ 4 → (i < 8 ∨ i = 11 ∨ (15 ≤ i ∧ i < 164) ∨ 188 ≤ i) → uf a s i = a i := fun i h1 h2 => uf_n h1 h2
  have b0 := (h.nb.is (by omega)).2.2
  have b1 := (h.nw.is (by omega)).2.2
  have b5 := (h.nl.is (by omega)).2.2
  have bt : ∀ t, t < 2 → tn (a (6 + t)) ≤ 12 := fun t ht => ((h.tl t ht).is (by omega)).2.2
  have bl : ∀ w, w < tn (a 1) → tn (a (36 + 9 * w)) ≤ 4 := fun w hw => ((h.len w hw).is (by omega)).2.2
  have k4 : tn (uf a s 4) = s := by rw [uf_4]; exact tn_nI (by omega)
  have l0 := lo 0 (by omega) (by omega)
  have l1 := lo 1 (by omega) (by omega)
  have l2 := lo 2 (by omega) (by omega)
  have l3 := lo 3 (by omega) (by omega)
  have l5 := lo 5 (by omega) (by omega)
  have l11 := lo 11 (by omega) (by omega)
  refine ⟨by rw [l0]; exact h.nb, by rw [l1]; exact h.nw, by rw [l2]; exact h.nt, by rw [l3, l2]; exact h.ru, ⟨s, by omega, by omega, uf_4 a s⟩, by rw [l5]; exact h.nl, ?_, by rw [l11]; exact h.hd, ?_, ?_, ?_, ?_, ?_, ?_, ?_, ?_, ?_, ?_, ?_, ?_, ?_, ?_, ?_, ?_, ?_⟩
  · intro t ht
    rw [lo _ (by omega) (by omega)]
    exact h.tl t ht
  · rw [l0]; intro b hb; rw [lo _ (by omega) (by omega)]; exact h.loud b hb
  · rw [l0]; intro b hb; rw [lo _ (by omega) (by omega)]; exact h.pitch b hb
  · rw [l0]; intro b hb; rw [lo _ (by omega) (by omega)]; exact h.men b hb
  · rw [l1]; intro b hb; rw [lo _ (by omega) (by omega)]; exact h.kind b hb
  · rw [l1]; intro b hb; rw [lo _ (by omega) (by omega)]; exact h.means b hb
  · rw [l1]; intro b hb; rw [lo _ (by omega) (by omega)]; exact h.len b hb
  · rw [l1, l0]; intro q k hq hk
    rw [lo _ (by omega) (by omega)] at hk
    have := bl q hq
    rw [lo _ (by omega) (by omega)]; exact h.str q k hq hk
  · rw [l1]; intro q k hq hk h4
    rw [lo _ (by omega) (by omega)] at hk
    rw [lo _ (by omega) (by omega)]; exact h.non q k hq hk h4
  · rw [l1]; intro b hb; rw [lo _ (by omega) (by omega)]; exact h.wei b hb
  · rw [l1]; intro b hb; rw [lo _ (by omega) (by omega)]; exact h.has b hb
  · rw [l1, l5]; intro b hb; rw [lo _ (by omega) (by omega)]; exact h.li0 b hb
  · rw [l1, l5]; intro b hb; rw [lo _ (by omega) (by omega)]; exact h.li1 b hb
  · rw [l0]; intro t k ht hk
    rw [lo _ (by omega) (by omega)] at hk
    have := bt t ht
    rw [lo _ (by omega) (by omega)]; exact h.tow t k ht hk
  · rw [l0]
    exact (h.sp s (by omega)).tr (fun r hr => uf_0 hr) (fun r hr => uf_1 hr) (fun r hr => uf_2 hr)
  · intro i hi
    rw [k4] at hi
    rw [l0]
    exact (h.sp i (by omega)).tr (fun r hr => lo _ (by omega) (by omega)) (fun r hr => lo _ (by omega) (by omega)) (fun r hr => lo _ (by omega) (by omega))
  · intro i hi
    rw [k4] at hi
    rw [lo _ (by omega) (by omega), lo _ (by omega) (by omega)]
    exact h.w1 i (by omega)
  · intro i hi
    rw [k4] at hi
    have o := uf_1 (a := a) (s := s) (r := 1) (by omega)
    rw [show 191 + 30 * s + 1 = 222 + 30 * i by omega] at o
    rw [lo _ (by omega) (by omega), o]
    exact h.w1 i (by omega)
