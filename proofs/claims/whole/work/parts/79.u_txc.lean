/-! one text more: TXc -/
theorem TXc.txt1 {f g : Nat → Nat → Int32} {t0 : Nat} (h : TXc f) (ht : t0 < 4) (e : f 274 2 = nI t0) (hT : TT g t0) (hx : ∀ t, t < t0 → TxEq f g t) (h274 : g 274 2 = nI (t0 + 1)) (h15 : g 1 5 = nI (t0 + 1)) (h16 : g 1 6 = f 1 6) (h275 : g 275 2 = f 275 2) (h2 : g 2 4 = f 2 4) (h8 : g 8 = f 8) (h9 : g 9 = f 9) (h265 : g 265 = f 265) : TXc g := by
  obtain ⟨a1, a2, a3, a4, a5, a7⟩ := h
  have e0 : tn (f 274 2) = t0 := by rw [e]; exact tn_nI (by omega)
  have e1 : tn (g 274 2) = t0 + 1 := by rw [h274]; exact tn_nI (by omega)
  have e5 : tn (g 1 5) = t0 + 1 := by rw [h15]; exact tn_nI (by omega)
  have r5 : ¬ f 1 6 = -1 → tn (f 1 6) < t0 := fun hn => by
    rcases a5 with z | ⟨t, z1, z2⟩
    · exact absurd z hn
    · rw [a3, e0] at z1
      rw [z2, show tn (nI t) = t from tn_nI (by omega)]
      exact z1
  refine ⟨by rw [h275, e1]; omega, fun t h1 => ?_, by rw [h15, h274], ⟨t0 + 1, by omega, by omega, h15⟩, ?_, ?_⟩
  · rw [e1] at h1
    by_cases q : t = t0
    · rw [q]; exact hT
    · exact (a2 t (by omega)).fr (hx t (by omega))
  · rw [h16, e5]
    rcases a5 with z | ⟨t, z1, z2⟩
    · exact Or.inl z
    · rw [a3, e0] at z1
      exact Or.inr ⟨t, by omega, z2⟩
  · rw [h16, h2, h8, h9, h265]
    exact a7.fr id (fun hn => a2 _ (by rw [e0]; exact r5 hn)) (fun hn => hx _ (r5 hn)) (Nat.le_refl _) (fun _ _ => rfl) (fun _ _ => rfl)
theorem TXc.keep {f g : Nat → Nat → Int32} {t0 : Nat} (h : TXc f) (ht : t0 ≤ 4) (e : f 274 2 = nI t0) (hx : ∀ t, t < t0 → TxEq f g t) (h274 : g 274 2 = f 274 2) (h15 : g 1 5 = f 1 5) (h16 : g 1 6 = f 1 6) (h275 : g 275 2 = f 275 2) (h2 : g 2 4 = f 2 4) (h8 : g 8 = f 8) (h9 : g 9 = f 9) (h265 : g 265 = f 265) : TXc g := by
  obtain ⟨a1, a2, a3, a4, a5, a7⟩ := h
  have e0 : tn (f 274 2) = t0 := by rw [e]; exact tn_nI (by omega)
  have r5 : ¬ f 1 6 = -1 → tn (f 1 6) < t0 := fun hn => by
    rcases a5 with z | ⟨t, z1, z2⟩
    · exact absurd z hn
    · rw [a3, e0] at z1
      rw [z2, show tn (nI t) = t from tn_nI (by omega)]
      exact z1
  unfold TXc
  rw [h275, h274, h15, h16, h2, h8, h9, h265]
  refine ⟨a1, fun t h1 => (a2 t h1).fr (hx t (by omega)), a3, a4, a5, ?_⟩
  exact a7.fr id (fun hn => a2 _ (by rw [e0]; exact r5 hn)) (fun hn => hx _ (r5 hn)) (Nat.le_refl _) (fun _ _ => rfl) (fun _ _ => rfl)
