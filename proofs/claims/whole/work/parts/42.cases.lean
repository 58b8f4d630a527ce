/-- what TEXTS and the found grammar may look at -/
def TXsame (f g : Nat → Nat → Int32) : Prop := (∀ c, (238 ≤ c ∧ c ≤ 261) ∨ c = 265 ∨ c = 276 ∨ c = 8 ∨ c = 9 → g c = f c) ∧ g 1 5 = f 1 5 ∧ g 1 6 = f 1 6 ∧ g 2 4 = f 2 4 ∧ g 274 2 = f 274 2 ∧ g 275 2 = f 275 2
def TXok (TX : (Nat → Nat → Int32) → Prop) : Prop := ∀ f g, TXsame f g → TX f → TX g
theorem TP.fr {f g : Nat → Nat → Int32} (h : TP f) (h0 : g 228 0 = f 228 0) (h1 : g 273 5 = f 273 5) (h2 : g 278 = f 278) (h3 : g 229 = f 229) : TP g := by
  unfold TP at h ⊢
  rw [h0, h1, h2, h3]
  exact h
theorem FA.fr {f g : Nat → Nat → Int32} (h : FA f) (h0 : g 233 = f 233) (h1 : g 273 6 = f 273 6) (h2 : g 273 7 = f 273 7) : FA g := by
  unfold FA at h ⊢
  rw [h0, h1, h2]
  exact h
/-- only the world and the model's row change -/
theorem Inv.upd {TX : (Nat → Nat → Int32) → Prop} (hT : TXok TX) {n n' : Nat} {f g : Nat → Nat → Int32} (h : Inv TX n f) (hn : n ≤ n') (hg : ∀ c, 114 ≤ c → c ≠ 274 → g c = f c) (h8 : g 8 = f 8) (h9 : g 9 = f 9) (hW : WF (g 274)) (hR : RC g 0 (g 274)) (h1 : g 1 5 = f 1 5) (h2 : g 1 6 = f 1 6) (h3 : g 2 4 = f 2 4) (h4 : g 274 2 = f 274 2) (hw : tn (g 274 13) ≤ 40 * n') : Inv TX n' g := by
  obtain ⟨a1, a2, a3, a4, a5, a6, a7, a8, a9⟩ := h
  refine ⟨hW, ?_, hR, ?_, a5.fr ?_ ?_ ?_ ?_, a6.fr ?_ ?_ ?_, hT f g ⟨?_, h1, h2, h3, h4, ?_⟩ a7, hw, ?_⟩
  · rw [hg 275 (by omega) (by omega)]; exact a2
  · rw [hg 275 (by omega) (by omega)]; exact a4.fr (fun c h1 h2 _ _ => hg c (by omega) (by omega))
  · rw [hg 228 (by omega) (by omega)]
  · rw [hg 273 (by omega) (by omega)]
  · rw [hg 278 (by omega) (by omega)]
  · rw [hg 229 (by omega) (by omega)]
  · rw [hg 233 (by omega) (by omega)]
  · rw [hg 273 (by omega) (by omega)]
  · rw [hg 273 (by omega) (by omega)]
  · rintro c (⟨h1, h2⟩ | rfl | rfl | rfl | rfl)
    · exact hg c (by omega) (by omega)
    · exact hg 265 (by omega) (by omega)
    · exact hg 276 (by omega) (by omega)
    · exact h8
    · exact h9
  · rw [hg 275 (by omega) (by omega)]
  · rw [hg 275 (by omega) (by omega)]; omega
/-- nothing changes -/
theorem Inv.idle {TX : (Nat → Nat → Int32) → Prop} {n : Nat} {f : Nat → Nat → Int32} (h : Inv TX n f) : Inv TX (n + 1) f := by
  obtain ⟨a1, a2, a3, a4, a5, a6, a7, a8, a9⟩ := h
  exact ⟨a1, a2, a3, a4, a5, a6, a7, by omega, by omega⟩
theorem bd_of {x : Int32} {lo hi : Nat} (h1 : nI lo ≤ x) (h2 : x ≤ nI hi) (hl : lo < 2147483648) (hh : hi < 2147483648) : bd x lo hi := by
  have h0 : (0 : Int32) ≤ x := by
    rw [Int32.le_iff_toInt_le] at h1 ⊢
    rw [nI_toInt (by omega)] at h1
    show (0 : Int) ≤ _
    omega
  obtain ⟨k, hk, rfl⟩ := of_range hh h0 h2
  rw [le_nI hl (by omega)] at h1
  exact ⟨k, h1, hk, rfl⟩
theorem WF.hands {a : Nat → Int32} {v : Int32} (h : WF a) (hv : bd v 0 99) : WF (upd a 11 v) := by
  unfold WF WFs
  simp +contextual (disch := omega) only [upd_n, upd_s]
  exact ⟨h.nb, h.nw, h.nt, h.ru, h.ns, h.nl, h.tl, hv, h.loud, h.pitch, h.men, h.kind, h.means, h.len, h.str, h.non, h.wei, h.has, h.li0, h.li1, h.tow, h.now, h.sp, h.w1, h.w2⟩
theorem RC.hands {f g : Nat → Nat → Int32} {a : Nat → Int32} {v : Int32} (h : RC f 0 a) (h1 : g 1 = upd (f 1) 4 v) (hg : ∀ c, 2 ≤ c → c ≤ 113 → g c = f c) : RC g 0 (upd a 11 v) := by
  unfold RC RS
  simp +contextual (disch := omega) only [upd_n, upd_s, hg, h1, Nat.add_zero]
  exact ⟨h.nb, h.nw, h.loud, h.pitch, h.men, h.kind, h.means, h.len, h.str, h.wei, h.has, h.nl, h.li0, h.li1, h.tl, h.tow, True.intro, h.nt, h.ru, h.now, h.ns, h.al, h.sp⟩
theorem case_hands (G : GP) (d : Nat) {TX : (Nat → Nat → Int32) → Prop} (hT : TXok TX) {n : Nat} (a0 : Int32) (m : Mem) (h : Inv TX n m.1) : Evi G (d + 1) mX11_hands [.ref (ga G 0), .int a0] m (fun r m1 => Evi G (d + 1) mX12_hands [.ref (ga G 273), .int a0] m1 (fun r' m2 => r = r' ∧ Inv TX (n + 1) m2.1)) := by
  refine vX11_hands G d a0 m _ ⟨fun hp => ?_, fun hp => ?_⟩
  · rintro _ rfl
    refine vX12_hands G d a0 _ _ ⟨fun _ => ?_, fun hq => absurd hp hq⟩
    rintro _ rfl
    refine ⟨rfl, h.upd hT (by omega) (fun c h1 h2 => ?_) rfl rfl ?_ ?_ rfl rfl rfl rfl ?_⟩
    · rw [wI_n _ _ _ (by omega), wI_n _ _ _ (by omega)]
    · rw [wI_s, wI_n _ _ _ (by omega)]
      exact h.1.hands (bd_of hp.1 hp.2 (by omega) (by omega))
    · rw [wI_s, wI_n _ _ _ (by omega)]
      exact h.2.2.1.hands (by rw [wI_n _ _ _ (by omega), wI_s]) (fun c h1 h2 => by rw [wI_n _ _ _ (by omega), wI_n _ _ _ (by omega)])
    · rw [wI_s, wI_n _ _ _ (by omega), upd_n _ _ (by omega)]
      have := h.2.2.2.2.2.2.2.1
      omega
  · refine vX12_hands G d a0 m _ ⟨fun hq => absurd hq hp, fun _ => ⟨rfl, h.idle⟩⟩
