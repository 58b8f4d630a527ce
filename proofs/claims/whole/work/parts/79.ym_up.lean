/-! more room does no harm -/
theorem room_up {s : State} {pl : Platform} {d j : Nat} (h : s.hasRoom pl (rmO (d + j)) = true) : s.hasRoom pl (rmO d) = true := by
  unfold State.hasRoom rmO at *
  simp only [Bool.and_eq_true, decide_eq_true_eq] at h ⊢
  obtain ⟨⟨⟨⟨h1, h2, h3, h4, h5, h6⟩, h7⟩, h8⟩, h9⟩ := h
  exact ⟨⟨⟨⟨by omega, by omega, by omega, by omega, by omega, h6⟩, h7⟩, h8⟩, h9⟩
theorem Ev.up {G : GP} {d : Nat} {y : MD} {as : List Value} {m : Mem} {Q : Option Value → Mem → Prop} (h : Ev G d y as m Q) (j : Nat) : Ev G (d + j) y as m Q := by
  intro p e ha hc hk s me args below hf hap hP hK
  refine h p e ha hc hk s me args below hf ?_ hP hK
  unfold Spec.appliesLoose at hap ⊢
  rw [hf] at hap ⊢
  simp only [Bool.and_eq_true] at hap ⊢
  obtain ⟨⟨a1, a2⟩, a3⟩ := hap
  exact ⟨⟨a1, room_up a2⟩, a3⟩
/-- a case at the depth of the law -/
theorem Case.at {G : GP} {TX : (Nat → Nat → Int32) → Prop} {n k k' : Nat} {yc ym : MD} {as bs : List Value} {m : Mem} (hk : k ≤ 12) (hk' : k' ≤ 12) (h : Evi G k yc as m (fun r m1 => Evi G k' ym bs m1 (fun r' m2 => r = r' ∧ Inv TX (n + 1) m2.1))) : Evi G 12 yc as m (fun r m1 => Evi G 12 ym bs m1 (fun r' m2 => r = r' ∧ Inv TX (n + 1) m2.1)) := by
  have h1 := Ev.up h (12 - k)
  rw [show k + (12 - k) = 12 by omega] at h1
  refine Ev.mono h1 (fun v m' hv => ?_)
  obtain ⟨r, hr, h2⟩ := hv
  refine ⟨r, hr, ?_⟩
  have h3 := Ev.up h2 (12 - k')
  rw [show k' + (12 - k') = 12 by omega] at h3
  exact h3
theorem CaseL.at {G : GP} {TX : (Nat → Nat → Int32) → Prop} {n k k' : Nat} {yc ym : MD} {as bs : List Value} {m : Mem} (hk : k ≤ 12) (hk' : k' ≤ 12) (h : Evl G k yc as m (fun r m1 => Evl G k' ym bs m1 (fun r' m2 => r = r' ∧ Inv TX (n + 1) m2.1))) : Evl G 12 yc as m (fun r m1 => Evl G 12 ym bs m1 (fun r' m2 => r = r' ∧ Inv TX (n + 1) m2.1)) := by
  have h1 := Ev.up h (12 - k)
  rw [show k + (12 - k) = 12 by omega] at h1
  refine Ev.mono h1 (fun v m' hv => ?_)
  obtain ⟨r, hr, h2⟩ := hv
  refine ⟨r, hr, ?_⟩
  have h3 := Ev.up h2 (12 - k')
  rw [show k' + (12 - k') = 12 by omega] at h3
  exact h3
