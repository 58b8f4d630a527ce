/-! the model reads a clause, whole -/
theorem TyS.pos {C : List (Nat × Nat)} {fr : Nat} (h : TyS C fr 1 0) : fr < C.length := by
  obtain ⟨h1, h2⟩ := h
  rcases Nat.lt_or_ge fr C.length with z | z
  · exact z
  · have e : C.length - fr = 0 := by omega
    rw [e] at h2
    exact absurd h2 (by unfold tyR; decide)
theorem nI_neg1 {s : Nat} (h : s < 1000) : (0 : Int32) ≤ nI s := (le_nI (a := 0) (by omega) (by omega)).mpr (by omega)
/-- behind a clause's body: one clause more, and its ; -/
theorem mend (G : GP) {kd nm st : Nat → Nat} {cnt : Nat} {T : Nat → Mem → Prop} (H : TokM G kd nm st cnt T) (d t0 k j : Nat) (m8 : Mem) (K : Int32 → Mem → Prop) (ht : t0 < 4) (hk : k < 24) (hT : T j m8) (h13 : m8.1 273 13 = nI (801 * t0)) (h0 : m8.1 276 (801 * t0) = nI k) (hgo : kd j = 59 → ∀ m', T (j + 1) m' → FM t0 m8 m' → (∀ p, ¬ (8 ≤ p ∧ p ≤ 11) → m'.1 273 p = m8.1 273 p) → m'.1 276 = upd (m8.1 276) (801 * t0) (nI (k + 1)) → K 0 m') (hno : kd j ≠ 59 → ∀ m', T j m' → FM t0 m8 m' → K 1 m') : vp_in (m8.1 273 13) 3204 ∧ vp_in (m8.1 273 13) 3204 ∧ ∀ m10 : Mem, m10 = wI m8 276 (m8.1 273 13).toNatClampNeg ((m8.1 276 (m8.1 273 13).toNatClampNeg) + 1) → (((m10.1 273 10) = 59) → Evv G (d + 9) mX12_nextToken [.ref (ga G 273)] m10 (fun m11 => K 0 m11)) ∧ ((¬ (m10.1 273 10) = 59) → K 1 m10) := by
  have t0' : (nI (801 * t0)).toNatClampNeg = 801 * t0 := tn_nI (by omega)
  rw [h13, t0', h0, show nI k + 1 = nI (k + 1) from nI_add k 1]
  refine ⟨in_nI (by omega) (by omega), in_nI (by omega) (by omega), fun m10 em => ?_⟩
  have hT10 : T j m10 := by rw [em]; exact H.fr hT (ms_276 m8 _ _)
  have ao : ∀ c, c ≠ 276 → m10.1 c = m8.1 c := fun c h => by rw [em, wI_n _ _ _ h]
  have a6 : m10.1 276 = upd (m8.1 276) (801 * t0) (nI (k + 1)) := by rw [em, wI_s]
  have f10 : FM t0 m8 m10 := ⟨fun c _ h2 _ => ao c h2, fun p _ => by rw [ao 273 (by omega)], by rw [ao 273 (by omega)], fun p hp => by rw [a6, upd_n _ _ (by omega)]⟩
  have hk10 := H.tk hT10
  refine ⟨fun q => ?_, fun q => hno (fun z => q ((hk10.sym (k := 59) (by omega)).mpr z)) m10 hT10 f10⟩
  have k59 : kd j = 59 := (hk10.sym (k := 59) (by omega)).mp q
  refine H.nx (i := j) hT10 (by omega) (fun m11 v11 hT11 => hgo k59 m11 hT11 (f10.tr v11.fm) (fun p hp => ?_) ?_)
  · rw [v11.p hp, ao 273 (by omega)]
  · rw [v11.1 276 (by omega), a6]
