theorem WF.pass1 {a : Nat → Int32} {hh ww ff xx : Int32} (h : WF a) (h0 : bd hh 0 9999) (h1 : bd ww 0 9) (h2 : bd ff 0 9) (h3 : bd xx 0 30340) : WF (upd (upd (upd (upd a 10 hh) 8 ww) 9 ff) 12 xx) := by
  have b0 := (h.nb.is (by omega)).2.2
  have b1 := (h.nw.is (by omega)).2.2
  have b2 := (h.nt.is (by omega)).2.2
  have b4 := (h.ns.is (by omega)).2.2
  have b5 := (h.nl.is (by omega)).2.2
  have b6 : tn (a 6) ≤ 12 := ((h.tl 0 (by omega)).is (by omega)).2.2
  have b7 : tn (a 7) ≤ 12 := ((h.tl 1 (by omega)).is (by omega)).2.2
  have bt : ∀ t, t < 2 → tn (a (6 + t)) ≤ 12 := fun t ht => ((h.tl t ht).is (by omega)).2.2
  unfold WF WFs
  simp +contextual (disch := omega) only [upd_n, upd_s]
  refine ⟨h.nb, h.nw, h.nt, h.ru, h.ns, h.nl, h.tl, h.hd, h.loud, h.pitch, h.men, h.kind, h.means, h.len, h.str, h.non, h.wei, h.has, h.li0, h.li1, h.tow, ⟨h1, h2, h0, h3, h.now.wr, h.now.nr, h.now.row⟩, h.sp, h.w1, h.w2⟩
theorem RC.pass1 {f g : Nat → Nat → Int32} {a : Nat → Int32} {hh ww ff xx : Int32} (r : RC f 0 a) (h : WF a) (h1 : g 12 = upd (upd (upd (upd (f 12) 2 hh) 0 ww) 1 ff) 3 xx) (hg : ∀ c, 1 ≤ c → c ≤ 113 → c ≠ 12 → g c = f c) : RC g 0 (upd (upd (upd (upd a 10 hh) 8 ww) 9 ff) 12 xx) := by
  have b0 := (h.nb.is (by omega)).2.2
  have b1 := (h.nw.is (by omega)).2.2
  have b2 := (h.nt.is (by omega)).2.2
  have b4 := (h.ns.is (by omega)).2.2
  have b5 := (h.nl.is (by omega)).2.2
  have b6 : tn (a 6) ≤ 12 := ((h.tl 0 (by omega)).is (by omega)).2.2
  have b7 : tn (a 7) ≤ 12 := ((h.tl 1 (by omega)).is (by omega)).2.2
  have bt : ∀ t, t < 2 → tn (a (6 + t)) ≤ 12 := fun t ht => ((h.tl t ht).is (by omega)).2.2
  unfold RC RS
  simp +contextual (disch := omega) only [upd_n, upd_s, hg, h1, Nat.add_zero]
  refine ⟨r.nb, r.nw, r.loud, r.pitch, r.men, r.kind, r.means, r.len, r.str, r.wei, r.has, r.nl, r.li0, r.li1, r.tl, r.tow, r.hd, r.nt, r.ru, ⟨True.intro, True.intro, True.intro, True.intro, r.now.nr, r.now.row, r.now.sun, r.now.pag⟩, r.ns, r.al, r.sp⟩
theorem isA_s {m m' : Mem} {c k : Nat} {v : Int32} (h : m' = wA m c (m'.1 c)) : wI m' c k v = wA m c ((wI m' c k v).1 c) := by
  rw [wI_s]
  have h1 := wI_wA m c k (m'.1 c) v
  rw [← h] at h1
  exact h1
def tun (x : Nat) : Nat := (x * 313 + 199) % 30341
def frv (f x : Nat) : Nat := min 9 (f + x % 3 - 1)
def passF (a : Nat → Int32) : Nat → Int32 := upd (upd (upd (upd a 10 (nI (tn (a 10) + 1))) 8 (nI (tn (a 12) % 10))) 9 (nI (frv (tn (a 9)) (tun (tn (a 12)))))) 12 (nI (tun (tun (tn (a 12)))))
theorem tun_lt (x : Nat) : tun x < 30341 := Nat.mod_lt _ (by omega)
theorem WF.pass {a : Nat → Int32} (h : WF a) (hh : tn (a 10) < 9999) : WF (passF a) := by
  have h10 := h.now.hour.is (by omega)
  have t2 := tun_lt (tun (tn (a 12)))
  exact h.pass1 ⟨_, by omega, by omega, rfl⟩ ⟨_, by omega, by omega, rfl⟩ ⟨_, by omega, by unfold frv; omega, rfl⟩ ⟨_, by omega, by omega, rfl⟩
theorem tun_nI {x : Nat} (hx : x ≤ 30340) : ((nI x * 313) + 199) - ((nI x * 313) + 199) / 30341 * 30341 = nI (tun x) := by
  have e : nI x * 313 + 199 = nI (x * 313 + 199) := by simp only [lit, pk_mul, nI_add]
  rw [e]
  exact rem_nI (a := x * 313 + 199) (b := 30341) (by omega) (by omega) (by omega)
theorem tun_lN {x : Nat} (hx : x ≤ 30340) : ((((nI x).toInt64 * 313) + 199) - (((nI x).toInt64 * 313) + 199) / 30341 * 30341).toInt32 = nI (tun x) := by
  have e : (nI x).toInt64 * 313 + 199 = lN (x * 313 + 199) := by
    rw [nI_l (by omega)]
    exact (congrArg (· + (199 : Int64)) (lN_mul x 313)).trans (lN_add _ 199)
  rw [e]
  have e2 : lN (x * 313 + 199) - lN (x * 313 + 199) / 30341 * 30341 = lN (tun x) := pk_lRem (a := x * 313 + 199) (b := 30341) (by omega) (by omega) (by omega)
  rw [e2, lN_i]
theorem frost_nI {f x : Nat} (hf : f ≤ 9) (hx : x < 3) : imax 0 (imin 9 ((nI f + nI x) - 1)) = nI (min 9 (f + x - 1)) := by
  have : ∀ f' : Fin 10, ∀ x' : Fin 3, imax 0 (imin 9 ((nI f'.val + nI x'.val) - 1)) = nI (min 9 (f'.val + x'.val - 1)) := by decide +kernel
  exact this ⟨f, by omega⟩ ⟨x, hx⟩
/-- the class's hour, beside the model's row -/
theorem kC_pass (G : GP) (d : Nat) (m : Mem) (a : Nat → Int32) (K : Mem → Prop) (r : RC m.1 0 a) (h : WF a) (hh : tn (a 10) < 9999) (hK : ∀ m' : Mem, RC m'.1 0 (passF a) → FrS m.1 m'.1 → K m') : Evv G (d + 1) mX5_passHour [.ref (ga G 12)] m K := by
  have q10 := h.now.hour.is (by omega)
  have q9 := h.now.frost.is (by omega)
  have q12 := h.now.x.is (by omega)
  have f2 : m.1 12 2 = nI (tn (a 10)) := (show m.1 12 2 = a 10 from r.now.hour).trans q10.1
  have f1 : m.1 12 1 = nI (tn (a 9)) := (show m.1 12 1 = a 9 from r.now.frost).trans q9.1
  have f3 : m.1 12 3 = nI (tn (a 12)) := (show m.1 12 3 = a 12 from r.now.x).trans q12.1
  have b12 : tn (a 12) ≤ 30340 := q12.2.2
  have b9 : tn (a 9) ≤ 9 := q9.2.2
  have t1 := tun_lt (tn (a 12))
  refine vX5_passHour G d m K ?_
  rintro m1 e1 m2 e2
  refine vX5_turn G d m2 _ ?_
  rintro m3 e3 m4 e4
  refine vX5_turn G d m4 _ ?_
  rintro m5 e5
  have c1 : m1.1 12 = upd (m.1 12) 2 (nI (tn (a 10) + 1)) := by rw [e1, wI_s, f2, nI_1]
  have c2 : m2.1 12 = upd (m1.1 12) 0 (nI (tn (a 12) % 10)) := by
    rw [e2, wI_s]
    have g3 : m1.1 12 3 = nI (tn (a 12)) := by rw [c1, upd_n _ _ (by omega), f3]
    rw [g3]
    exact congrArg _ (rem_nI (a := tn (a 12)) (b := 10) (by omega) (by omega) (by omega))
  have c3 : m3.1 12 = upd (m2.1 12) 3 (nI (tun (tn (a 12)))) := by
    rw [e3, wI_s]
    have g3 : m2.1 12 3 = nI (tn (a 12)) := by rw [c2, c1, upd_n _ _ (by omega), upd_n _ _ (by omega), f3]
    rw [g3, tun_nI b12]
  have c4 : m4.1 12 = upd (m3.1 12) 1 (nI (frv (tn (a 9)) (tun (tn (a 12))))) := by
    rw [e4, wI_s]
    have g1 : m3.1 12 1 = nI (tn (a 9)) := by rw [c3, c2, c1]; simp (disch := omega) only [upd_n]; exact f1
    have g3 : m3.1 12 3 = nI (tun (tn (a 12))) := by rw [c3, upd_s]
    have g4 : nI (tun (tn (a 12))) - nI (tun (tn (a 12))) / 3 * 3 = nI (tun (tn (a 12)) % 3) := rem_nI (a := tun (tn (a 12))) (b := 3) (by omega) (by omega) (by omega)
    rw [g1, g3, g4, frost_nI b9 (by omega)]
    rfl
  have c5 : m5.1 12 = upd (m4.1 12) 3 (nI (tun (tun (tn (a 12))))) := by
    rw [e5, wI_s]
    have g3 : m4.1 12 3 = nI (tun (tn (a 12))) := by rw [c4, c3]; simp (disch := omega) only [upd_n, upd_s]
    rw [g3, tun_nI (by omega)]
  have fr : ∀ c, c ≠ 12 → m5.1 c = m.1 c := fun c hc => by rw [e5, wI_n _ _ _ hc, e4, wI_n _ _ _ hc, e3, wI_n _ _ _ hc, e2, wI_n _ _ _ hc, e1, wI_n _ _ _ hc]
  refine hK m5 (r.pass1 h ?_ (fun c h1 h2 h3 => fr c h3)) (fun c hc => fr c (by omega))
  rw [c5, c4, c3, c2, c1]
  funext k
  unfold upd
  by_cases k3 : k = 3
  · simp [k3]
  · by_cases k1 : k = 1
    · simp [k1]
    · by_cases k0 : k = 0
      · simp [k0]
      · by_cases k2 : k = 2
        · simp [k2]
        · simp [k0, k1, k2, k3]
/-- the model's hour -/
theorem qX12_pass (G : GP) (d : Nat) (m : Mem) (K : Mem → Prop) (h : WF (m.1 274)) (hK : K (wA m 274 (passF (m.1 274)))) : Evv G (d + 2) mX12_pass [.ref (ga G 273)] m K := by
  have q10 := h.now.hour.is (by omega)
  have q9 := h.now.frost.is (by omega)
  have q12 := h.now.x.is (by omega)
  generalize ha : m.1 274 = a at *
  have b12 : tn (a 12) ≤ 30340 := q12.2.2
  have b9 : tn (a 9) ≤ 9 := q9.2.2
  have t1 := tun_lt (tn (a 12))
  have x10 : a 10 = nI (tn (a 10)) := q10.1
  have x9 : a 9 = nI (tn (a 9)) := q9.1
  have x12 : a 12 = nI (tn (a 12)) := q12.1
  refine vX12_pass G d m K ?_
  rintro m1 e1
  have c1 : m1.1 274 = upd a 10 (nI (tn (a 10) + 1)) := by
    rw [e1, wI_s, ha, x10, nI_1, ← x10]
  refine vX12_drawn G d 10 m1 _ ⟨by decide, ?_⟩
  rintro y1 ey1
  have v1 : y1 = nI (tn (a 12) % 10) := by
    have g : m1.1 274 12 = nI (tn (a 12)) := by rw [c1, upd_n _ _ (by omega)]; exact x12
    rw [ey1, g]
    exact rem_nI (a := tn (a 12)) (b := 10) (by omega) (by omega) (by omega)
  refine vX12_anew G d m1 _ ?_
  rintro m2 e2
  have c2 : m2.1 274 = upd (upd a 10 (nI (tn (a 10) + 1))) 12 (nI (tun (tn (a 12)))) := by
    have g : m1.1 274 12 = nI (tn (a 12)) := by rw [c1, upd_n _ _ (by omega)]; exact x12
    rw [e2, wI_s, g, tun_lN b12, c1]
  rintro m4 e4
  have c4 : m4.1 274 = upd (upd (upd a 10 (nI (tn (a 10) + 1))) 12 (nI (tun (tn (a 12))))) 8 (nI (tn (a 12) % 10)) := by
    rw [e4, wI_s, c2, v1]
  refine vX12_drawn G d 3 m4 _ ⟨by decide, ?_⟩
  rintro y2 ey2
  have v2 : y2 = nI (tun (tn (a 12)) % 3) := by
    have g : m4.1 274 12 = nI (tun (tn (a 12))) := by rw [c4]; simp (disch := omega) only [upd_n, upd_s]
    rw [ey2, g]
    exact rem_nI (a := tun (tn (a 12))) (b := 3) (by omega) (by omega) (by omega)
  refine vX12_anew G d m4 _ ?_
  rintro m5 e5
  have c5 : m5.1 274 = upd (m4.1 274) 12 (nI (tun (tun (tn (a 12))))) := by
    have g : m4.1 274 12 = nI (tun (tn (a 12))) := by rw [c4]; simp (disch := omega) only [upd_n, upd_s]
    rw [e5, wI_s, g, tun_lN (by omega)]
  rintro x7 e7
  have g9 : m4.1 274 9 = nI (tn (a 9)) := by rw [c4]; simp (disch := omega) only [upd_n]; exact x9
  rw [g9, v2] at e7
  have fin : ∀ v : Int32, v = nI (frv (tn (a 9)) (tun (tn (a 12)))) → K (wI m5 274 9 v) := by
    rintro v rfl
    have hm : wI m5 274 9 (nI (frv (tn (a 9)) (tun (tn (a 12))))) = wA m 274 (passF a) := by
      have i1 : m1 = wA m 274 (m1.1 274) := by rw [e1]; exact isA_s (wA_id m 274).symm
      have i2 : m2 = wA m 274 (m2.1 274) := by rw [e2]; exact isA_s i1
      have i4 : m4 = wA m 274 (m4.1 274) := by rw [e4]; exact isA_s i2
      have s1 : m5 = wA m 274 (m5.1 274) := by rw [e5]; exact isA_s i4
      rw [s1, wI_wA, c5, c4]
      congr 1
      funext k
      unfold passF upd
      by_cases k12 : k = 12
      · simp [k12]
      · by_cases k8 : k = 8
        · simp [k8]
        · by_cases k9 : k = 9
          · simp [k9]
          · by_cases k10 : k = 10
            · simp [k10]
            · simp [k8, k9, k10, k12]
    rw [hm]
    exact hK
  have key : ∀ f' : Fin 10, ∀ x' : Fin 3, (0 ≤ (nI f'.val + nI x'.val) - 1 → ((nI f'.val + nI x'.val) - 1 ≤ 9 → (nI f'.val + nI x'.val) - 1 = nI (min 9 (f'.val + x'.val - 1))) ∧ (¬ (nI f'.val + nI x'.val) - 1 ≤ 9 → (9 : Int32) = nI (min 9 (f'.val + x'.val - 1)))) ∧ (¬ 0 ≤ (nI f'.val + nI x'.val) - 1 → (0 : Int32) = nI (min 9 (f'.val + x'.val - 1))) := by decide +kernel
  have k1 := key ⟨tn (a 9), by omega⟩ ⟨tun (tn (a 12)) % 3, by omega⟩
  rw [e7]
  refine ⟨fun q => ⟨fun q2 => ?_, fun q2 => ?_⟩, fun q => ?_⟩
  · rintro _ rfl
    exact fin _ ((k1.1 q).1 q2)
  · rintro _ rfl
    exact fin _ ((k1.1 q).2 q2)
  · rintro _ rfl
    exact fin _ (k1.2 q)
