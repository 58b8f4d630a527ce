-- ===== whole rows written =====
theorem wA_wA (m : Mem) (c : Nat) (f g : Nat → Int32) : wA (wA m c f) c g = wA m c g := by
  unfold wA
  simp only [Prod.mk.injEq, and_true]
  funext q
  by_cases h : q = c
  · simp [h]
  · simp [h]
theorem wI_wA (m : Mem) (c k : Nat) (f : Nat → Int32) (v : Int32) : wI (wA m c f) c k v = wA m c (upd f k v) := by
  unfold wI
  rw [wA_wA, wA_s]
theorem wA_id (m : Mem) (c : Nat) : wA m c (m.1 c) = m := by
  unfold wA
  have : (fun q => if q = c then m.1 c else m.1 q) = m.1 := by
    funext q
    by_cases h : q = c
    · simp [h]
    · simp [h]
  rw [this]
theorem loopD {P : Nat → Prop} (N : Nat) (hs : ∀ i, i < N → P (i + 1) → P i) (hN : P N) : P 0 := by
  have : ∀ k i, i + k = N → P i := by
    intro k
    induction k with
    | zero => intro i h; have : i = N := by omega
              subst this; exact hN
    | succ k ih => intro i h; exact hs i (by omega) (ih (i + 1) (by omega))
  exact this N 0 (by omega)
def pt (f g : Nat → Int32) (a n : Nat) : Nat → Int32 := fun k => if a ≤ k ∧ k < a + n then g (k - a) else f k
theorem pt_0 (f g : Nat → Int32) (a : Nat) : pt f g a 0 = f := funext fun k => if_neg (by omega)
theorem pt_in {f g : Nat → Int32} {a n k : Nat} (h1 : a ≤ k) (h2 : k < a + n) : pt f g a n k = g (k - a) := if_pos ⟨h1, h2⟩
theorem pt_out {f g : Nat → Int32} {a n k : Nat} (h : k < a ∨ a + n ≤ k) : pt f g a n k = f k := if_neg (by omega)
theorem pt_succ (f g : Nat → Int32) (a n : Nat) : upd (pt f g a n) (a + n) (g n) = pt f g a (n + 1) := by
  funext k
  unfold upd
  by_cases h : k = a + n
  · rw [if_pos h, pt_in (by omega) (by omega)]
    congr 1
    omega
  · rw [if_neg h]
    by_cases h2 : a ≤ k ∧ k < a + n
    · rw [pt_in h2.1 h2.2, pt_in h2.1 (by omega)]
    · rw [pt_out (by omega), pt_out (by omega)]
theorem pt_upd (f g : Nat → Int32) {a n k : Nat} (v : Int32) (h : k < a ∨ a + n ≤ k) : upd (pt f g a n) k v = pt (upd f k v) g a n := by
  funext j
  unfold upd pt
  by_cases h1 : j = k
  · rw [if_pos h1, if_neg (by omega)]
    exact (if_pos h1).symm
  · rw [if_neg h1]
    simp only [h1, if_false]
-- ===== the model's keep =====
def kb (a : Nat → Int32) : Nat → Int32 := if tn (a 4) = 30 then upd (pt a (fun j => a (218 + j)) 188 870) 4 (nI 29) else a
def ks (a : Nat → Int32) : Nat := if tn (a 4) = 30 then 29 else tn (a 4)
def kp (b : Nat → Int32) (s : Nat) : Nat → Int32 := upd (pt (pt (pt b (fun j => b (8 + j)) (188 + 30 * s) 3) (fun j => b (12 + j)) (191 + 30 * s) 3) (fun j => b (164 + j)) (194 + 30 * s) 24) 4 (nI (s + 1))
def keepF (a : Nat → Int32) : Nat → Int32 := kp (kb a) (ks a)
theorem qX12_keep72 (G : GP) (d : Nat) (b : Nat → Int32) (s : Nat) (hs : s < 30) (m : Mem) (K : Mem → Prop) (hb : b 4 = nI s) (hK : K (wA m 274 (kp b s))) : Gw G d mX12_keep 72 [.ref (ga G 273), .int (nI (188 + 30 * s)), .int 0] [] (wA m 274 b) (Qv K) := by
  have e1 : ∀ i : Nat, nI (188 + 30 * s) + nI i = nI (188 + 30 * s + i) := fun i => nI_add _ _
  have e3 : ∀ i : Nat, (nI (188 + 30 * s) + 3) + nI i = nI (191 + 30 * s + i) := fun i => by
    simp only [lit, nI_add]
    exact congrArg nI (by omega)
  have e6 : ∀ i : Nat, (nI (188 + 30 * s) + 6) + nI i = nI (194 + 30 * s + i) := fun i => by
    simp only [lit, nI_add]
    exact congrArg nI (by omega)
  have a8 : ∀ i : Nat, (8 : Int32) + nI i = nI (8 + i) := fun i => nI_add 8 i
  have a12 : ∀ i : Nat, (12 : Int32) + nI i = nI (12 + i) := fun i => nI_add 12 i
  have a164 : ∀ i : Nat, (164 : Int32) + nI i = nI (164 + i) := fun i => nI_add 164 i
  have A : Gw G d mX12_keep 72 [.ref (ga G 273), .int (nI (188 + 30 * s)), .int (nI 0)] [] (wA m 274 (pt (pt b (fun j => b (8 + j)) (188 + 30 * s) 0) (fun j => b (12 + j)) (191 + 30 * s) 0)) (Qv K) := by
    refine loopD (P := fun i => Gw G d mX12_keep 72 [.ref (ga G 273), .int (nI (188 + 30 * s)), .int (nI i)] [] (wA m 274 (pt (pt b (fun j => b (8 + j)) (188 + 30 * s) i) (fun j => b (12 + j)) (191 + 30 * s) i)) (Qv K)) 3 ?_ ?_
    · intro i hi h
      refine vX12_keep_72 G d _ (nI i) _ K ⟨fun hc => ?_, fun _ => ?_⟩
      · have hc : nI 3 ≤ nI i := hc
        rw [le_nI (by omega) (by omega)] at hc
        omega
      · rw [a8, a12, e1, e3, tn_nI (by omega), tn_nI (by omega), tn_nI (by omega), tn_nI (by omega)]
        refine ⟨in_nI (by omega) (by omega), in_nI (by omega) (by omega), ?_⟩
        rintro _ rfl
        refine ⟨in_nI (by omega) (by omega), in_nI (by omega) (by omega), ?_⟩
        rintro _ rfl
        rintro _ rfl
        rw [nI_1]
        have r1 : (wA m 274 (pt (pt b (fun j => b (8 + j)) (188 + 30 * s) i) (fun j => b (12 + j)) (191 + 30 * s) i)).1 274 (8 + i) = b (8 + i) := by
          rw [wA_s, pt_out (by omega), pt_out (by omega)]
        rw [r1, wI_wA, wI_wA, wA_s, upd_n _ _ (by omega), pt_out (by omega), pt_out (by omega), pt_upd _ _ _ (by omega), pt_succ b (fun j => b (8 + j)), pt_succ _ (fun j => b (12 + j))]
        exact h
    · refine vX12_keep_72 G d _ (nI 3) _ K ⟨fun _ => ?_, fun hc => absurd ((le_nI (a := 3) (b := 3) (by omega) (by omega)).mpr (Nat.le_refl 3)) hc⟩
      generalize hcdef : pt (pt b (fun j => b (8 + j)) (188 + 30 * s) 3) (fun j => b (12 + j)) (191 + 30 * s) 3 = c
      have c164 : ∀ j, j < 24 → c (164 + j) = b (164 + j) := fun j hj => by
        rw [← hcdef, pt_out (by omega), pt_out (by omega)]
      have c4 : c 4 = nI s := by rw [← hcdef, pt_out (by omega), pt_out (by omega), hb]
      have Bq : Gw G d mX12_keep 121 [.ref (ga G 273), .int (nI (188 + 30 * s)), .int (nI 0)] [] (wA m 274 (pt c (fun j => b (164 + j)) (194 + 30 * s) 0)) (Qv K) := by
        refine loopD (P := fun i => Gw G d mX12_keep 121 [.ref (ga G 273), .int (nI (188 + 30 * s)), .int (nI i)] [] (wA m 274 (pt c (fun j => b (164 + j)) (194 + 30 * s) i)) (Qv K)) 24 ?_ ?_
        · intro i hi h
          refine vX12_keep_121 G d _ (nI i) _ K ⟨fun hc => ?_, fun _ => ?_⟩
          · have hc : nI 24 ≤ nI i := hc
            rw [le_nI (by omega) (by omega)] at hc
            omega
          · rw [a164, e6, tn_nI (by omega), tn_nI (by omega)]
            refine ⟨in_nI (by omega) (by omega), in_nI (by omega) (by omega), ?_⟩
            rintro _ rfl
            rintro _ rfl
            rw [nI_1, wA_s, pt_out (by omega), c164 i hi, wI_wA, pt_succ c (fun j => b (164 + j))]
            exact h
        · refine vX12_keep_121 G d _ (nI 24) _ K ⟨fun _ => ?_, fun hc => absurd ((le_nI (a := 24) (b := 24) (by omega) (by omega)).mpr (Nat.le_refl 24)) hc⟩
          rintro _ rfl
          rw [wA_s, pt_out (by omega), c4, nI_1, wI_wA, ← hcdef]
          exact hK
      rw [pt_0] at Bq
      exact Bq
  rw [pt_0, pt_0] at A
  exact A
theorem qX12_keep (G : GP) (d : Nat) (m : Mem) (K : Mem → Prop) (hn : bd (m.1 274 4) 0 30) (hK : K (wA m 274 (keepF (m.1 274)))) : Evv G d mX12_keep [.ref (ga G 273)] m K := by
  obtain ⟨e1, -, e3⟩ := hn.is (by omega)
  refine vX12_keep G d m K ⟨fun q => ?_, fun q => ?_⟩
  · rintro _ rfl
    have hs : tn (m.1 274 4) < 30 := by
      rcases Nat.lt_or_ge (tn (m.1 274 4)) 30 with h | h
      · exact h
      · exact absurd (e1.trans (congrArg nI (show tn (m.1 274 4) = 30 by omega))) q
    have hb : kb (m.1 274) = m.1 274 := if_neg (by omega)
    have hk : ks (m.1 274) = tn (m.1 274 4) := if_neg (by omega)
    have e : (188 : Int32) + ((30 : Int32) * m.1 274 4) = nI (188 + 30 * tn (m.1 274 4)) := by
      rw [e1]
      simp only [lit, pk_mul, nI_add]
      rw [← e1]
    have h1 := qX12_keep72 G d (m.1 274) (tn (m.1 274 4)) hs m K e1 (by unfold keepF at hK; rw [hb, hk] at hK; exact hK)
    rw [wA_id] at h1
    rw [e]
    exact h1
  · have h30 : tn (m.1 274 4) = 30 := by
      rw [e1] at q
      have q : nI (tn (m.1 274 4)) = nI 30 := q
      rw [eq_nI (by omega) (by omega)] at q
      exact q
    have hb : kb (m.1 274) = upd (pt (m.1 274) (fun j => m.1 274 (218 + j)) 188 870) 4 (nI 29) := if_pos h30
    have hk : ks (m.1 274) = 29 := if_pos h30
    have b218 : ∀ i : Nat, (218 : Int32) + nI i = nI (218 + i) := fun i => nI_add 218 i
    have b188 : ∀ i : Nat, (188 : Int32) + nI i = nI (188 + i) := fun i => nI_add 188 i
    have A : ∀ u2 : Value, Gw G d mX12_keep 13 [.ref (ga G 273), .int (nI 0), u2] [] (wA m 274 (pt (m.1 274) (fun j => m.1 274 (218 + j)) 188 0)) (Qv K) := by
      refine loopD (P := fun i => ∀ u2 : Value, Gw G d mX12_keep 13 [.ref (ga G 273), .int (nI i), u2] [] (wA m 274 (pt (m.1 274) (fun j => m.1 274 (218 + j)) 188 i)) (Qv K)) 870 ?_ ?_
      · intro i hi h u2
        refine vX12_keep_13 G d (nI i) u2 _ K ⟨fun hc => ?_, fun _ => ?_⟩
        · have hc : nI 870 ≤ nI i := hc
          rw [le_nI (by omega) (by omega)] at hc
          omega
        · rw [b218, b188, tn_nI (by omega), tn_nI (by omega)]
          refine ⟨in_nI (by omega) (by omega), in_nI (by omega) (by omega), ?_⟩
          rintro _ rfl
          rintro _ rfl
          rw [nI_1, wA_s, pt_out (by omega), wI_wA, pt_succ (m.1 274) (fun j => m.1 274 (218 + j))]
          exact h uu
      · intro u2
        refine vX12_keep_13 G d (nI 870) u2 _ K ⟨fun _ => ?_, fun hc => absurd ((le_nI (a := 870) (b := 870) (by omega) (by omega)).mpr (Nat.le_refl 870)) hc⟩
        rintro _ rfl
        have h29 : m.1 274 4 - 1 = nI 29 := by rw [e1, h30]; exact sub_nI (a := 30) (b := 1) (by omega)
        rw [wA_s, pt_out (by omega), h29, wI_wA, wA_s, upd_s]
        rintro _ rfl
        refine qX12_keep72 G d _ 29 (by omega) m K (upd_s _ _ _) ?_
        unfold keepF at hK
        rw [hb, hk] at hK
        exact hK
    have A := A uu
    rw [pt_0, wA_id] at A
    exact A
