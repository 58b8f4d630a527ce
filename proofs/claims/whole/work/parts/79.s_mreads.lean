/-! the model reads a text, given its first token -/
theorem OnM_0 : OnM (fun _ => (0, 0)) 0 := ⟨0, by omega, rfl, fun l _ => ⟨fun z => (by rw [Nat.zero_testBit] at z; cases z), fun z => absurd z (Nat.lt_irrefl 0)⟩⟩
theorem qX12_readText (G : GP) {kd nm st : Nat → Nat} {cnt : Nat} {T : Nat → Mem → Prop} (H : TokM G kd nm st cnt T) (d t0 : Nat) (m : Mem) (K : Int32 → Mem → Prop) (ht : t0 < 4) (h2 : m.1 274 2 = nI t0) (hN : ∀ (m5 : Mem) (K5 : Mem → Prop), m5.1 273 5 = m.1 273 5 → m5.1 278 = m.1 278 → m5.1 273 8 = 0 → (∀ m6, MV m5 m6 → T 0 m6 → K5 m6) → Evv G (d + 10) mX12_nextToken [.ref (ga G 273)] m5 K5) (hK : ∀ e j C' cls' lw' m', txP kd nm cnt 25 0 [] [] (fun _ => (0, 0)) = (e, j, C', cls', lw') → e ≤ 7 → T j m' → ((∀ c, c ≠ 273 → c ≠ 276 → c ≠ 279 → m'.1 c = m.1 c) ∧ (∀ p, ¬ (8 ≤ p ∧ p ≤ 20) → m'.1 273 p = m.1 273 p) ∧ ∀ p, p < 801 * t0 ∨ 801 * t0 + 801 ≤ p → m'.1 276 p = m.1 276 p) → (e = 0 → MYs T cnt t0 j C' cls' lw' m' ∧ Wc cls') → K (nI e) m') : Evi G (d + 11) mX12_readText [.ref (ga G 273)] m K := by
  have tt : (nI (801 * t0)).toNatClampNeg = 801 * t0 := tn_nI (by omega)
  refine vX12_readText G d m K (fun m1 em1 => ?_)
  rw [h2, show (801 : Int32) = nI 801 from rfl, pk_mul] at em1
  have a1 : m1.1 273 = upd (m.1 273) 13 (nI (801 * t0)) := by rw [em1, wI_s]
  have ao : ∀ c, c ≠ 273 → m1.1 c = m.1 c := fun c h => by rw [em1, wI_n _ _ _ h]
  rw [a1, upd_s, tt]
  refine ⟨in_nI (by omega) (by omega), fun m2 em2 m3 em3 m4 em4 m5 em5 => ?_⟩
  have c3 : m5.1 273 = upd (upd (upd (upd (m.1 273) 13 (nI (801 * t0))) 14 0) 20 0) 8 0 := by rw [em5, wI_s, em4, wI_s, em3, wI_s, em2, wI_n _ _ _ (by omega), a1]
  have c6 : m5.1 276 = upd (m.1 276) (801 * t0) 0 := by rw [em5, wI_n _ _ _ (by omega), em4, wI_n _ _ _ (by omega), em3, wI_n _ _ _ (by omega), em2, wI_s, ao 276 (by omega)]
  have co : ∀ c, c ≠ 273 → c ≠ 276 → m5.1 c = m.1 c := fun c h1 h2 => by rw [em5, wI_n _ _ _ h1, em4, wI_n _ _ _ h1, em3, wI_n _ _ _ h1, em2, wI_n _ _ _ h2, ao c h1]
  refine hN m5 _ (by rw [c3, upd_n _ _ (by omega), upd_n _ _ (by omega), upd_n _ _ (by omega), upd_n _ _ (by omega)]) (co 278 (by omega) (by omega)) (by rw [c3, upd_s]) (fun m6 v6 hT6 => ?_)
  have b6 : m6.1 276 = upd (m.1 276) (801 * t0) 0 := by rw [v6.1 276 (by omega), c6]
  have hY : MYs T cnt t0 0 [] [] (fun _ => (0, 0)) m6 := by
    refine ⟨hT6, ?_, ?_, ?_, fun k hk => (by cases hk), ?_, fun k hk => (by cases hk), Nat.zero_le _, Nat.zero_le _, Nat.zero_le _⟩
    · rw [v6.p (by omega), c3, upd_n _ _ (by omega), upd_n _ _ (by omega), upd_n _ _ (by omega), upd_s]
    · rw [v6.p (by omega), c3, upd_n _ _ (by omega), upd_n _ _ (by omega), upd_s]; rfl
    · rw [v6.p (by omega), c3, upd_n _ _ (by omega), upd_s]; exact OnM_0
    · rw [b6, upd_s]; rfl
  refine qX12_text G H d t0 ht 25 0 [] [] (fun _ => (0, 0)) _ m6 K rfl hY (fun k hk => (by cases hk)) (fun e j C' cls' lw' m' q1 q2 q3 q4 q5 => hK e j C' cls' lw' m' q1 q2 q3 ⟨fun c h1 h2 h3 => ?_, fun p hp => ?_, fun p hp => ?_⟩ q5)
  · rw [q4.1 c h1 h2 h3, v6.1 c h1, co c h1 h2]
  · rw [q4.2.1 p hp, v6.p (by omega), c3, upd_n _ _ (by omega), upd_n _ _ (by omega), upd_n _ _ (by omega), upd_n _ _ (by omega)]
  · rw [q4.2.2.2 p hp, b6, upd_n _ _ (by omega)]
