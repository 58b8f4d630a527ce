/-! the model's text, given its first token -/
def FR (t0 : Nat) (m m' : Mem) : Prop := (∀ c, c ≠ 273 → c ≠ 276 → c ≠ 279 → c ≠ 274 → m'.1 c = m.1 c) ∧ ∀ p, p < 801 * t0 ∨ 801 * t0 + 801 ≤ p → m'.1 276 p = m.1 276 p
theorem mtext (G : GP) {kd nm st : Nat → Nat} {cnt : Nat} {T : Nat → Mem → Prop} (H : TokM G kd nm st cnt T) (d t0 : Nat) (m : Mem) (K : Int32 → Mem → Prop) (ht : t0 < 4) (h2 : m.1 274 2 = nI t0) (hN : ∀ (m5 : Mem) (K5 : Mem → Prop), m5.1 273 5 = m.1 273 5 → m5.1 278 = m.1 278 → m5.1 273 8 = 0 → (∀ m6, MV m5 m6 → T 0 m6 → K5 m6) → Evv G (d + 10) mX12_nextToken [.ref (ga G 273)] m5 K5) (hno : ∀ e j C' cls' lw' m', txP kd nm cnt 25 0 [] [] (fun _ => (0, 0)) = (e, j, C', cls', lw') → 0 < e → e ≤ 7 → FR t0 m m' → m'.1 274 = m.1 274 → m'.1 273 5 = 0 → m'.1 273 6 = nI e → m'.1 273 7 = nI (st j) → K (-1) m') (hyes : ∀ j C' cls' lw' m', txP kd nm cnt 25 0 [] [] (fun _ => (0, 0)) = (0, j, C', cls', lw') → FR t0 m m' → m'.1 274 = upd (m.1 274) 2 (nI (t0 + 1)) → m'.1 273 5 = 0 → m'.1 273 6 = 0 → m'.1 273 7 = -1 → m'.1 276 (801 * t0) = nI cls'.length → MRw t0 cls' lw' (m'.1 276) → CM t0 C' (m'.1 276) → cls'.length ≤ 24 → C'.length ≤ 300 → K (nI t0) m') : Evi G (d + 12) mX12_text [.ref (ga G 273)] m K := by
  have hcb := H.cb
  have n4 : ¬ m.1 274 2 = 4 := fun z => by
    rw [h2] at z
    have := (eq_nI (b := 4) (by omega) (by omega)).mp z
    omega
  refine vX12_text G d m K ⟨fun _ => ?_, fun z => absurd z n4⟩
  refine qX12_readText G H d t0 m _ ht h2 hN (fun e j C' cls' lw' m1 q1 q2 q3 q4 q5 m3 em3 => ?_)
  have a3 : m3.1 273 = upd (m1.1 273) 6 (nI e) := by rw [em3, wI_s]
  have ao : ∀ c, c ≠ 273 → m3.1 c = m1.1 c := fun c h => by rw [em3, wI_n _ _ _ h]
  rw [a3, upd_s, nz_nI q2]
  refine ⟨fun z m4 em4 m5 em5 => ?_, fun z m7 em7 m8 em8 => ?_⟩
  · rw [upd_n _ _ (show 9 ≠ 6 by omega), (H.tk q3).pl] at em4
    have c3 : m5.1 273 = upd (upd (upd (m1.1 273) 6 (nI e)) 7 (nI (st j))) 5 0 := by rw [em5, wI_s, em4, wI_s, a3]
    have co : ∀ c, c ≠ 273 → m5.1 c = m1.1 c := fun c h => by rw [em5, wI_n _ _ _ h, em4, wI_n _ _ _ h, ao c h]
    have c6 : m5.1 273 6 = nI e := by rw [c3, upd_n _ _ (by omega), upd_n _ _ (by omega), upd_s]
    rw [c6, nz_nI q2]
    refine ⟨fun y => absurd y z, fun _ => hno e j C' cls' lw' m5 q1 (by omega) q2 ⟨fun c h1 h2 h3 h4 => ?_, fun p hp => ?_⟩ ?_ ?_ c6 ?_⟩
    · rw [co c h1, q4.1 c h1 h2 h3]
    · rw [co 276 (by omega), q4.2.2 p hp]
    · rw [co 274 (by omega), q4.1 274 (by omega) (by omega) (by omega)]
    · rw [c3, upd_s]
    · rw [c3, upd_n _ _ (by omega), upd_s]
  · subst z
    obtain ⟨⟨y1, y2, y3, y4, y5, y6, y7, y8, y9, y10⟩, -⟩ := q5 rfl
    have c3 : m8.1 273 = upd (upd (upd (m1.1 273) 6 (nI 0)) 7 (-1)) 5 0 := by rw [em8, wI_s, em7, wI_s, a3]
    have co : ∀ c, c ≠ 273 → m8.1 c = m1.1 c := fun c h => by rw [em8, wI_n _ _ _ h, em7, wI_n _ _ _ h, ao c h]
    have c6 : m8.1 273 6 = 0 := by rw [c3, upd_n _ _ (by omega), upd_n _ _ (by omega), upd_s]; rfl
    have c4 : m8.1 274 = m.1 274 := by rw [co 274 (by omega), q4.1 274 (by omega) (by omega) (by omega)]
    rw [c6, c4, h2, show nI t0 + 1 = nI (t0 + 1) from nI_add t0 1]
    refine ⟨fun _ m9 em9 => ?_, fun y => absurd rfl y⟩
    have d4 : m9.1 274 = upd (m.1 274) 2 (nI (t0 + 1)) := by rw [em9, wI_s, c4]
    have dq : ∀ c, c ≠ 274 → m9.1 c = m8.1 c := fun c h => by rw [em9, wI_n _ _ _ h]
    have d6 : m9.1 276 = m1.1 276 := by rw [dq 276 (by omega), co 276 (by omega)]
    rw [d4, upd_s, nI_p]
    refine hyes j C' cls' lw' m9 q1 ⟨fun c h1 h2 h3 h4 => ?_, fun p hp => ?_⟩ d4 ?_ ?_ ?_ (by rw [d6]; exact y6) (by rw [d6]; exact y7) (by rw [d6]; exact y5) y10 (by omega)
    · rw [dq c h4, co c h1, q4.1 c h1 h2 h3]
    · rw [d6, q4.2.2 p hp]
    · rw [dq 273 (by omega), c3, upd_s]
    · rw [dq 273 (by omega)]; exact c6
    · rw [dq 273 (by omega), c3, upd_n _ _ (by omega), upd_s]
