-- ===== the kept row =====
def kh (a : Nat → Int32) : Nat := if tn (a 4) = 30 then 1 else 0
theorem ks_lt {a : Nat → Int32} (h : tn (a 4) ≤ 30) : ks a < 30 ∧ ks a + kh a = tn (a 4) := by
  unfold ks kh
  by_cases e : tn (a 4) = 30
  · rw [if_pos e, if_pos e]; omega
  · rw [if_neg e, if_neg e]; omega
theorem kb_lo {a : Nat → Int32} {i : Nat} (h : i < 188 ∨ 1058 ≤ i) (h4 : i ≠ 4) : kb a i = a i := by
  unfold kb
  by_cases e : tn (a 4) = 30
  · rw [if_pos e, upd_n _ _ h4, pt_out (by omega)]
  · rw [if_neg e]
theorem kb_st {a : Nat → Int32} {j r : Nat} (hj : j < 29 ∨ kh a = 0) (hr : r < 30) : kb a (188 + 30 * j + r) = a (188 + 30 * (j + kh a) + r) := by
  unfold kb kh at *
  by_cases e : tn (a 4) = 30
  · rw [if_pos e] at hj ⊢
    rw [if_pos e, upd_n _ _ (by omega), pt_in (by omega) (by omega)]
    exact congrArg a (by omega)
  · rw [if_neg e, if_neg e]
    rfl
theorem kp_lo {b : Nat → Int32} {s i : Nat} (h : i < 188 + 30 * s ∨ 218 + 30 * s ≤ i) (h4 : i ≠ 4) : kp b s i = b i := by
  unfold kp
  rw [upd_n _ _ h4, pt_out (by omega), pt_out (by omega), pt_out (by omega)]
theorem keepF_lo {a : Nat → Int32} (hn : tn (a 4) ≤ 30) {i : Nat} (h : i < 188 ∨ 1088 ≤ i) (h4 : i ≠ 4) : keepF a i = a i := by
  have := (ks_lt hn).1
  unfold keepF
  rw [kp_lo (by omega) h4, kb_lo (by omega) h4]
theorem keepF_4 (a : Nat → Int32) : keepF a 4 = nI (ks a + 1) := by
  unfold keepF kp
  exact upd_s _ _ _
theorem keepF_old {a : Nat → Int32} (hn : tn (a 4) ≤ 30) {j r : Nat} (hj : j < ks a) (hr : r < 30) : keepF a (188 + 30 * j + r) = a (188 + 30 * (j + kh a) + r) := by
  have := (ks_lt hn).1
  unfold keepF
  rw [kp_lo (by omega) (by omega), kb_st (by omega) hr]
theorem keepF_n0 {a : Nat → Int32} {r : Nat} (hr : r < 3) : keepF a (188 + 30 * ks a + r) = a (8 + r) := by
  unfold keepF kp
  rw [upd_n _ _ (by omega), pt_out (by omega), pt_out (by omega), pt_in (by omega) (by omega), kb_lo (by omega) (by omega)]
  exact congrArg a (by omega)
theorem keepF_n1 {a : Nat → Int32} {r : Nat} (hr : r < 3) : keepF a (191 + 30 * ks a + r) = a (12 + r) := by
  unfold keepF kp
  rw [upd_n _ _ (by omega), pt_out (by omega), pt_in (by omega) (by omega), kb_lo (by omega) (by omega)]
  exact congrArg a (by omega)
theorem keepF_n2 {a : Nat → Int32} {r : Nat} (hr : r < 24) : keepF a (194 + 30 * ks a + r) = a (164 + r) := by
  unfold keepF kp
  rw [upd_n _ _ (by omega), pt_in (by omega) (by omega), kb_lo (by omega) (by omega)]
  exact congrArg a (by omega)
theorem WFs.tr {a a' : Nat → Int32} {nb p0 p1 p2 q0 q1 q2 : Nat} (h : WFs a nb p0 p1 p2) (e0 : ∀ r, r < 3 → a' (q0 + r) = a (p0 + r)) (e1 : ∀ r, r < 3 → a' (q1 + r) = a (p1 + r)) (e2 : ∀ r, r < 24 → a' (q2 + r) = a (p2 + r)) : WFs a' nb q0 q1 q2 := by
  have x0 : a' q0 = a p0 := e0 0 (by omega)
  have x1 : a' q1 = a p1 := e1 0 (by omega)
  have hnr := (h.nr.is (by omega)).2.2
  refine ⟨by rw [x0]; exact h.wind, by rw [e0 1 (by omega)]; exact h.frost, by rw [e0 2 (by omega)]; exact h.hour, by rw [x1]; exact h.x, by rw [e1 1 (by omega)]; exact h.wr, by rw [e1 2 (by omega)]; exact h.nr, ?_⟩
  intro k hk
  rw [e1 2 (by omega)] at hk
  rw [e2 k (by omega)]
  exact h.row k hk
theorem RS.tr {f : Nat → Nat → Int32} {c : Nat} {a a' : Nat → Int32} {p0 p1 p2 q0 q1 q2 : Nat} (h : RS f c a p0 p1 p2) (hnr : tn (a (p1 + 2)) ≤ 24) (e0 : ∀ r, r < 3 → a' (q0 + r) = a (p0 + r)) (e1 : ∀ r, r < 3 → a' (q1 + r) = a (p1 + r)) (e2 : ∀ r, r < 24 → a' (q2 + r) = a (p2 + r)) (eb : ∀ i, 1088 ≤ i → a' i = a i) : RS f c a' q0 q1 q2 := by
  have x0 : a' q0 = a p0 := e0 0 (by omega)
  have x1 : a' q1 = a p1 := e1 0 (by omega)
  refine ⟨by rw [x0]; exact h.wind, by rw [e0 1 (by omega)]; exact h.frost, by rw [e0 2 (by omega)]; exact h.hour, by rw [x1]; exact h.x, by rw [e1 2 (by omega)]; exact h.nr, ?_, by rw [e1 1 (by omega)]; exact h.sun, ?_⟩
  · intro k hk
    rw [e1 2 (by omega)] at hk
    rw [e2 k (by omega)]
    exact h.row k hk
  · intro i j hi hj
    rw [e1 1 (by omega)] at hi ⊢
    rw [eb _ (by omega)]
    exact h.pag i j hi hj
theorem WF.keep {a : Nat → Int32} (h : WF a) : WF (keepF a) := by
  have hn := (h.ns.is (by omega)).2.2
  obtain ⟨k30, kks⟩ := ks_lt hn
  have lo : ∀ i, i < 188 → i ≠ 4 → keepF a i = a i := fun i h1 h2 => keepF_lo hn (by omega) h2
  have b0 := (h.nb.is (by omega)).2.2
  have b1 := (h.nw.is (by omega)).2.2
  have b5 := (h.nl.is (by omega)).2.2
  have bt : ∀ t, t < 2 → tn (a (6 + t)) ≤ 12 := fun t ht => ((h.tl t ht).is (by omega)).2.2
  have bl : ∀ w, w < tn (a 1) → tn (a (36 + 9 * w)) ≤ 4 := fun w hw => ((h.len w hw).is (by omega)).2.2
  have k4 : tn (keepF a 4) = ks a + 1 := by rw [keepF_4]; exact tn_nI (by omega)
  have l0 := lo 0 (by omega) (by omega)
  have l1 := lo 1 (by omega) (by omega)
  have l2 := lo 2 (by omega) (by omega)
  have l3 := lo 3 (by omega) (by omega)
  have l5 := lo 5 (by omega) (by omega)
  have l11 := lo 11 (by omega) (by omega)
  have l13 := lo 13 (by omega) (by omega)
  refine ⟨by rw [l0]; exact h.nb, by rw [l1]; exact h.nw, by rw [l2]; exact h.nt, by rw [l3, l2]; exact h.ru, ⟨ks a + 1, by omega, by omega, keepF_4 a⟩, by rw [l5]; exact h.nl, ?_, by rw [l11]; exact h.hd, ?_, ?_, ?_, ?_, ?_, ?_, ?_, ?_, ?_, ?_, ?_, ?_, ?_, ?_, ?_, ?_, ?_⟩
  · intro t ht
    rw [lo _ (by omega) (by omega)]
    exact h.tl t ht
  · rw [l0]; intro b hb; rw [lo _ (by omega) (by omega)]; exact h.loud b hb
  · rw [l0]; intro b hb; rw [lo _ (by omega) (by omega)]; exact h.pitch b hb
  · rw [l0]; intro b hb; rw [lo _ (by omega) (by omega)]; exact h.men b hb
  · rw [l1]; intro b hb; rw [lo _ (by omega) (by omega)]; exact h.kind b hb
  · rw [l1]; intro b hb; rw [lo _ (by omega) (by omega)]; exact h.means b hb
  · rw [l1]; intro b hb; rw [lo _ (by omega) (by omega)]; exact h.len b hb
  · rw [l1, l0]; intro q k hq hk
    rw [lo _ (by omega) (by omega)] at hk
    have := bl q hq
    rw [lo _ (by omega) (by omega)]; exact h.str q k hq hk
  · rw [l1]; intro q k hq hk h4
    rw [lo _ (by omega) (by omega)] at hk
    rw [lo _ (by omega) (by omega)]; exact h.non q k hq hk h4
  · rw [l1]; intro b hb; rw [lo _ (by omega) (by omega)]; exact h.wei b hb
  · rw [l1]; intro b hb; rw [lo _ (by omega) (by omega)]; exact h.has b hb
  · rw [l1, l5]; intro b hb; rw [lo _ (by omega) (by omega)]; exact h.li0 b hb
  · rw [l1, l5]; intro b hb; rw [lo _ (by omega) (by omega)]; exact h.li1 b hb
  · rw [l0]; intro t k ht hk
    rw [lo _ (by omega) (by omega)] at hk
    have := bt t ht
    rw [lo _ (by omega) (by omega)]; exact h.tow t k ht hk
  · rw [l0]
    exact h.now.tr (fun r hr => lo _ (by omega) (by omega)) (fun r hr => lo _ (by omega) (by omega)) (fun r hr => lo _ (by omega) (by omega))
  · intro i hi
    rw [k4] at hi
    rw [l0]
    rcases Nat.lt_or_ge i (ks a) with hlt | hge
    · refine (h.sp (i + kh a) (by omega)).tr (fun r hr => keepF_old hn hlt (by omega)) (fun r hr => ?_) (fun r hr => ?_)
      · have := keepF_old hn hlt (r := 3 + r) (by omega)
        rw [show 188 + 30 * i + (3 + r) = 191 + 30 * i + r by omega, show 188 + 30 * (i + kh a) + (3 + r) = 191 + 30 * (i + kh a) + r by omega] at this
        exact this
      · have := keepF_old hn hlt (r := 6 + r) (by omega)
        rw [show 188 + 30 * i + (6 + r) = 194 + 30 * i + r by omega, show 188 + 30 * (i + kh a) + (6 + r) = 194 + 30 * (i + kh a) + r by omega] at this
        exact this
    · have : i = ks a := by omega
      subst this
      exact h.now.tr (fun r hr => keepF_n0 hr) (fun r hr => keepF_n1 hr) (fun r hr => keepF_n2 hr)
  · intro i hi
    rw [k4] at hi
    have o1 := keepF_old hn (j := i) (r := 4) (by omega) (by omega)
    rw [show 188 + 30 * i + 4 = 192 + 30 * i by omega, show 188 + 30 * (i + kh a) + 4 = 192 + 30 * (i + kh a) by omega] at o1
    rw [o1]
    rcases Nat.lt_or_ge (i + 1) (ks a) with hlt | hge
    · have o2 := keepF_old hn (j := i + 1) (r := 4) hlt (by omega)
      rw [show 188 + 30 * (i + 1) + 4 = 222 + 30 * i by omega, show 188 + 30 * (i + 1 + kh a) + 4 = 222 + 30 * (i + kh a) by omega] at o2
      rw [o2]
      exact h.w1 (i + kh a) (by omega)
    · have o2 := keepF_n1 (a := a) (r := 1) (by omega)
      rw [show 191 + 30 * ks a + 1 = 222 + 30 * i by omega] at o2
      rw [o2]
      exact h.w2 (i + kh a) (by omega)
  · intro i hi
    rw [k4] at hi
    have o2 := keepF_n1 (a := a) (r := 1) (by omega)
    rw [show 191 + 30 * ks a + 1 = 192 + 30 * i by omega] at o2
    rw [o2, l13]
    show tn (a 13) ≤ tn (a 13) ∧ tn (a 13) ≤ tn (a 13) + 40
    omega
