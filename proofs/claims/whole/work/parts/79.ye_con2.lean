/-! THE CONSTRUCTORS: what makes cells, and calls -/
def zL (ci : Nat) : List Value := (FT ci).map (fun t => if t = 0 then .int 0 else if t = 1 then .long 0 else .null)
theorem fC_zero {G : GP} {n ci : Nat} {m : Mem} (h : Fz n m) : fC G m n ci = zL ci := by
  obtain ⟨h1, h2, h3⟩ := h n (Nat.le_refl n)
  unfold fC zL eC
  rw [h1, h2, h3]
  apply List.ext_getElem?
  intro j
  rw [List.getElem?_map, List.getElem?_map]
  by_cases hl : j < (FT ci).length
  · rw [List.getElem?_range hl, List.getElem?_eq_getElem hl]
    simp [hl]
  · rw [List.getElem?_eq_none (by simp; omega), List.getElem?_eq_none (by omega)]; rfl
section ConMake
variable {G : GP} {d : Nat} {y : MD} {ct st pc : Nat} {L S : List Value} {n cu su : Nat} {m : Mem} {Q : Nat → Mem → Prop}
theorem grow_P {H H1 : Heap} (hP : va_P (gD G) vwCl (wsC G n m) H) (hz : H.size = ga G n) (o1 : ∀ q : Nat, q < H.size → H1[q]? = H[q]?) (hat : va_at (gD G) vwCl (ga G n, cC G m n) H1) : va_P (gD G) vwCl (wsC G (n + 1) m) H1 := by
  rw [wsC_app]
  refine (hP.kept (fun k x hx => o1 x.1 ((hP k x hx).lt))).app (fun k x hx => ?_)
  have hk : k < 1 := (List.getElem?_eq_some_iff.mp hx).1
  rw [show k = 0 by omega] at hx
  cases hx
  exact hat
theorem grow_S {A : Nat → Prop} {H0 H H1 : Heap} {locs : List Loc} (hS : va_S A H0 H locs) (z1 : H1.size = H.size + 1) (o1 : ∀ q : Nat, q < H.size → H1[q]? = H[q]?) : va_S A H0 H1 locs := ⟨Nat.le_trans hS.1 (by omega), fun x h1 h2 => (o1 x (Nat.lt_of_lt_of_le h1 hS.1)).trans (hS.2.1 x h1 h2), hS.2.2⟩
theorem co_new {ci N idx : Nat} {refs : List Nat} {T : u_T} {C0 : String} (dg : decode y.2.1 pc = .ok (.new idx, 3)) (hn : 0 < n) (hs : SH[n]? = some (ci, N, refs)) (hc : vwCl[ci]? = some (C0, T, N)) (hin : ∀ w ∈ u_ws C0 T N, w ∈ tblG) (ty0 : Nat → FieldType) (hty : ∀ k, k < N → parseFieldDescriptor (T k).2.2.1 = some (ty0 k)) (hcl : Cond.classLink y.1.cls idx C0 ∈ tblG) (hinst : Cond.instantiable C0 N ∈ tblG) (hini : Cond.initialized C0 ∈ tblG) (hfs : ∀ j, j < N → defaultValue (ty0 j) = vp_V (zL ci) j) (hct : cu + 1 ≤ ct) (hst : su + N ≤ st) (kk : Gc G d y ct st (pc + 3) L (.ref (ga G n) :: S) (n + 1) (cu + 1) (su + N) m Q) : Gc G d y ct st pc L S n cu su m Q := by
  intro p e s me args below meth c0 H locs ls C hi hcg hP hH hF hS hl T' hT X
  have hz := Gc_size hT X hcg hP hS hH hn
  have hts := C.2.2.2.2.2.2.1
  have hKn := C.2.2.2.2.2.2.2.1.1 ci _ hc
  suffices hW : W p (gl G) e (rmC d ct st) s me args below meth c0 H locs cu su (MQ below (QcC G Q) args s ct st (gA G)) (F0 me pc ls (S)) from hW T' hT X
  refine W.newcK C.1 C.2.1 C.2.2.2.2.2.1 (hts _ hcl) (hts _ hinst) (hts _ hini) rfl dg hct hst hKn.2.1 hz fun H1 kC' hkC e1 z1 o1 => ?_
  have o1' : ∀ q : Nat, q < H.size → H1[q]? = H[q]? := fun q hq => o1 q (by omega)
  refine kk p e s me args below meth c0 H1 locs ls C hi hcg (grow_P hP hz o1' ?_) (by have := hcg.1 n; have := hcg.1 (n + 1); omega) hF.up (grow_S hS (by omega) o1') hl
  rw [cC_of hs, kC_obj (vwCl_lt hc), fC_zero hF]
  exact ⟨_, hc, (u_born ty0 hts hin hKn hkC e1 hty).to hfs⟩
theorem co_newa {atype : ArrayType} {ty : FieldType} {ix len kd : Nat} {a0 : vp_A} {v : Int32} (dg : decode y.2.1 pc = .ok (.newarray atype, 2)) (hn : 0 < n) (hty : newarray.typeOf atype = ty) (harr : Cond.arrayClass ty ∈ tblG) (hix : (tyO G)[ix]? = some (gy G ix, ty)) (hRA : ∀ (U : State) (cA : ClassId), va_RA U cA ty → U.vm.findClass ("[" ++ ty.toString) = some cA) (hs : SH[n]? = some (kd, len, [])) (hk : Fz n m → kC G m n kd len = .inl (gy G ix, a0)) (ha : ∀ cA : ClassId, vp_cell cA a0 = arrV cA len (fun _ => defaultValue ty)) (hv : v.toNatClampNeg = len ∧ ¬ v < 0) (hby : len * componentBytes ty ≤ 536870912) (hct : cu + 1 ≤ ct) (hst : su + len ≤ st) (kk : Gc G d y ct st (pc + 2) L (.ref (ga G n) :: S) (n + 1) (cu + 1) (su + len) m Q) : Gc G d y ct st pc L (.int v :: S) n cu su m Q := by
  intro p e s me args below meth c0 H locs ls C hi hcg hP hH hF hS hl T' hT X
  subst hty
  have hz := Gc_size hT X hcg hP hS hH hn
  have hts := C.2.2.2.2.2.2.1
  suffices hW : W p (gl G) e (rmC d ct st) s me args below meth c0 H locs cu su (MQ below (QcC G Q) args s ct st (gA G)) (F0 me pc ls (.int v :: S)) from hW T' hT X
  refine va_newaK C.1 C.2.1 (hts _ harr) rfl dg rfl hv.2 hv.1 hby hct hst hz fun H1 cA e1 z1 o1 hAr hNm => ?_
  have o1' : ∀ q : Nat, q < H.size → H1[q]? = H[q]? := fun q hq => o1 q (by omega)
  have hcA : cA = gy G ix := Option.some.inj (hNm.symm.trans (hRA s _ (C.2.2.2.2.2.2.2.1.2 ix _ hix).2))
  refine kk p e s me args below meth c0 H1 locs ls C hi hcg (grow_P hP hz o1' ?_) (by have := hcg.1 n; have := hcg.1 (n + 1); omega) hF.up (grow_S hS (by omega) o1') hl
  rw [cC_of hs, hk hF]
  show H1[ga G n]? = some (vp_cell (gy G ix) a0)
  rw [ha, ← hcA]
  exact e1
theorem co_anew {ix len kd idx : Nat} {refs : List Nat} {C0 : String} {v : Int32} (dg : decode y.2.1 pc = .ok (.anewarray idx, 3)) (hn : 0 < n) (hcl : Cond.classLink y.1.cls idx C0 ∈ tblG) (hov : ∀ (U : State) (H : Heap), gZ G U H → va_AO C0 U) (hix : (tyO G)[ix]? = some (gy G ix, .object C0)) (hs : SH[n]? = some (kd, len, refs)) (hkd : 104 ≤ kd) (hkx : kd - 100 = ix) (hv : v.toNatClampNeg = len ∧ ¬ v < 0) (hby : len * 4 ≤ 536870912) (hct : cu + 1 ≤ ct) (hst : su + len ≤ st) (kk : Gc G d y ct st (pc + 3) L (.ref (ga G n) :: S) (n + 1) (cu + 1) (su + len) m Q) : Gc G d y ct st pc L (.int v :: S) n cu su m Q := by
  intro p e s me args below meth c0 H locs ls C hi hcg hP hH hF hS hl T' hT X
  have hz := Gc_size hT X hcg hP hS hH hn
  have hts := C.2.2.2.2.2.2.1
  have hover : va_AO C0 s := hov s _ C.2.2.2.2.2.2.2.2.2.1
  suffices hW : W p (gl G) e (rmC d ct st) s me args below meth c0 H locs cu su (MQ below (QcC G Q) args s ct st (gA G)) (F0 me pc ls (.int v :: S)) from hW T' hT X
  refine W.anew C.1 C.2.1 C.2.2.2.2.2.1 (hts _ hcl) (va_AO.use hover) rfl dg rfl hv.2 (by rw [hv.1]; exact hby) hct (by rw [hv.1]; exact hst) fun cA kA comp f1 f2 f3 f4 => ?_
  rw [hv.1]
  generalize hH1 : H.push ({ cls := cA, slots := Array.replicate len .null, vm := .none } : Cell) = H1
  have z1 : H1.size = H.size + 1 := by rw [← hH1, Array.size_push]
  have e1 : H1[H.size]? = some (arrV cA len (fun _ => .null)) := by rw [← hH1, Array.getElem?_push_size, ← arrV_new]
  have o1 : ∀ q : Nat, q < H.size → H1[q]? = H[q]? := fun q hq => by rw [← hH1, Array.getElem?_push, if_neg (Nat.ne_of_lt hq)]
  have hcA : cA = gy G ix := by
    obtain ⟨kA', comp', g1, g2, g3, g4⟩ := (C.2.2.2.2.2.2.2.1.2 ix _ hix).2
    exact Option.some.inj (f1.symm.trans g4)
  rw [hz]
  refine kk p e s me args below meth c0 H1 locs ls C hi hcg (grow_P hP hz o1 ?_) (by have := hcg.1 n; have := hcg.1 (n + 1); omega) hF.up (grow_S hS (by omega) o1) hl
  obtain ⟨-, -, h3⟩ := hF n (Nat.le_refl n)
  have er : rC G m n = fun _ => none := by unfold rC; rw [h3]; rfl
  have ek : kC G m n kd len = .inl (gy G ix, len, .inr (.inr (.inr (.inr (fun _ => none))))) := by
    unfold kC
    rw [if_neg (by omega), if_neg (by omega), if_neg (by omega), er, hkx]
  rw [cC_of hs, ek]
  show H1[ga G n]? = some (vp_cell _ _)
  rw [vp_cell_q, ← hz, ← hcA]
  exact e1
theorem co_aast {q r ix len kd ci len2 : Nat} {refs refs2 : List Nat} {vc : vw_C} {i : Int32} (dg : decode y.2.1 pc = .ok (.aastore, 1)) (hs : SH[q]? = some (kd, len, refs)) (hq : q < n) (hkd : 104 ≤ kd) (hkx : kd - 100 = ix) (hix : (tyO G)[ix]? = some (gy G ix, .object vc.1)) (hs2 : SH[r]? = some (ci, len2, refs2)) (hr : r < n) (hr0 : r ≠ 0) (hc : vwCl[ci]? = some vc) (hi : vp_in i len) (kk : Gc G d y ct st (pc + 1) L S n cu su (wR m q i.toNatClampNeg r) Q) : Gc G d y ct st pc L (.ref (ga G r) :: .int i :: .ref (ga G q) :: S) n cu su m Q := by
  intro p e s me args below meth c0 H locs ls C hin hcg hP hH hF hS hl
  have ek : ∀ m : Mem, kC G m q kd len = .inl (gy G ix, len, .inr (.inr (.inr (.inr (rC G m q))))) := fun m => by
    unfold kC
    rw [if_neg (by omega), if_neg (by omega), if_neg (by omega), hkx]
  refine va_astq C.1 C.2.1 C.2.2.2.2.2.2.2.1 hP (wsC_D hcg n m) hS q ix r ci ((wsC_at hq hs).trans (by rw [ek])) hix ((wsC_at hr hs2).trans (by rw [kC_obj (vwCl_lt hc)])) hc hi dg (fun H1 locs1 hP1 hD1 hS1 => ?_)
  have er : va_up (rC G m q) i.toNatClampNeg (some (ga G r)) = rC G (wR m q i.toNatClampNeg r) q := by
    funext k
    unfold rC va_up
    rw [wR_s]
    unfold va_up
    by_cases e : k = i.toNatClampNeg
    · rw [if_pos e, if_pos e, if_neg hr0]
    · rw [if_neg e, if_neg e]
  rw [er, wsC_set (m := m) (m' := wR m q i.toNatClampNeg r) hq ((cC_of hs).trans (ek _)) (fun c hc => cC_congr rfl rfl (wR_n m _ r hc))] at hP1
  exact kk p e s me args below meth c0 H1 locs1 ls C hin hcg hP1 hH (hF.wR hq) hS1 hl
theorem PcC_blind (as : List Value) : FrameBlind (PcC G as n m) := by
  intro a U g mk h
  obtain ⟨h1, h2, hh, hf, h3, h4, h5, h6, h7⟩ := h
  exact ⟨h1, h2, hh, hf, va_K.moved (u := U) (U := U.calling g mk a) (Vm.Alike.refl U.vm) h3, nest_warm (s := U) (U := U.calling g mk a) (State.WarmedH.refl U) h4, h6.2.2.1 U (U.calling g mk a) U.heap (State.WarmedH.refl U) h5, h6, h7⟩
theorem PcC_here {p : Program} {s : State} {me : MethodId} {args : Array Value} {meth : Method} {c : Code} {H : Heap} {locs : List Loc} (C : Ct G y p s me args meth c) (hcg : ConG G) (hP : va_P (gD G) vwCl (wsC G n m) H) (hz : H.size = ga G n) (hF : Fz n m) (hS : va_S (gA G) s.heap H locs) (as : List Value) : ∀ U : State, U.heap = H → s.WarmedH U.vm → PcC G as n m as.toArray U := by
  intro U hU hW
  obtain ⟨-, -, -, -, -, -, -, hK, hN, hZ, hG⟩ := C
  refine ⟨rfl, by rw [hU]; exact hP, by rw [hU]; exact hz, hF, va_K.moved hW.alike hK, nest_warm hW hN, ?_, hG, hcg⟩
  rw [hU]
  exact hG.2.2.1 s U H hW (hG.2.2.2 s s.heap H hS.1 hS.2.1 hZ)
theorem callEndC {ct' st' : Nat} {st0 as : List Value} {Q' : Nat → Mem → Prop} {p : Program} {e : Env} {s : State} {me : MethodId} {args : Array Value} {below : List Frame} {meth : Method} {c : Code} {H : Heap} {locs : List Loc} {ls : Array Slot} (C : Ct G y p s me args meth c) (hi : meth.name = "<init>") (hcg : ConG G) (hH : s.heap.size + cu = ga G n) (hS : va_S (gA G) s.heap H locs) (hl : lvp ls y.2.2.1 L)
    (hr : va_Run p (gl G) e (rmC d ct st) s me args below meth c H locs cu su ct' st' (F0 me pc ls st0) S (QcC G Q' as.toArray) (gA G)) (kk : ∀ n' m', Q' n' m' → Fz n' m' → n' = n + ct' ∧ Gc G d y ct st (pc + 3) L S n' (cu + ct') (su + st') m' Q) : W p (gl G) e (rmC d ct st) s me args below meth c H locs cu su (MQ below (QcC G Q) args s ct st (gA G)) (F0 me pc ls st0) := by
  intro T hT X
  obtain ⟨v, st₀, t, T', Lc, h0, X', hL, e1, e2, ⟨n', m', hv, hk, hP', hF', hFr⟩, stp⟩ := hr T hT X
  cases hv
  obtain ⟨hz, hkk⟩ := hFr
  rw [h0] at hz hkk
  obtain ⟨en, kg⟩ := kk n' m' hk hF'
  obtain ⟨t2, a1, b1⟩ := kg p e s me args below meth c T'.heap (locs ++ Lc) ls C hi hcg (by rw [e1]; exact hP') (by have := hcg.1 n; have := hcg.1 n'; omega) hF'
    ⟨Nat.le_trans hS.1 (by rw [e1]; exact hz), fun q h1 h2 => by rw [e1, hkk q (Nat.lt_of_lt_of_le h1 hS.1) h2]; exact hS.2.1 q h1 h2, fun q hq => by
      rcases List.mem_append.mp hq with h | h
      · exact hS.2.2 q h
      · exact hL q h⟩ hl T' rfl X'
  exact ⟨t2, stp t2 a1, b1⟩
theorem co_callI {Q' : Nat → Mem → Prop} (y' : MD) {idx nA a ct' st' : Nat} {As st0 : List Value} (dg : decode y.2.1 pc = .ok (.invokespecial idx, 3)) (hn : 0 < n) (hk : Cond.methodLink y.1.cls idx y'.1 ∈ tblG) (ok : okM y' nA) (ok2 : Cond.instanceMethod y'.1 ∈ tblG) (hnm : y'.1.name = "<init>") (hret : y'.2.2.2 = none) (hst0 : st0 = As.reverse ++ .ref a :: S) (hA : As.length = nA) (hrm : (S.map fun v => v.category).sum ≤ 8) (hct : cu + ct' ≤ ct) (hst : su + st' ≤ st) (E : Ec G d y' ct' st' (.ref a :: As) n m Q') (kk : ∀ n' m', Q' n' m' → Fz n' m' → n' = n + ct' ∧ Gc G (d + 1) y ct st (pc + 3) L S n' (cu + ct') (su + st') m' Q) : Gc G (d + 1) y ct st pc L st0 n cu su m Q := by
  intro p e s me args below meth c0 H locs ls C hi hcg hP hH hF hS hl T' hT X
  have hz := Gc_size hT X hcg hP hS hH hn
  obtain ⟨hx, hb, hr, hlk, hml, hown, hts, hK, hN, hZ, hG⟩ := id C
  refine callEndC (ct' := ct') (st' := st') C hi hcg hH hS hl (va_runI (R := rmC (d + 1) ct st) (y := y'.1) (bytes := y'.2.1) (maxL := y'.2.2.1) (n := nA) (As := As) (rest := S) (Ts := tblG) ⟨hx, hb, hml, hown, hts⟩ E ⟨callB_of nA hts (goodM ok) (by rw [wsM, hret]) rfl rfl (hts _ ok.1) (hts _ hk) ok.2.2.1 (rm_in ok.2.2.2), hnm, hts _ ok2⟩ ⟨PcC_blind _, PcC_here C hcg hP hz hF hS _⟩ rfl hA hl.1 hst0 (lv_room hrm) dg ⟨hct, hst⟩) kk T' hT X
theorem co_callN {Q' : Nat → Mem → Prop} (y' : MD) (host : String) {idx nA a ct' st' : Nat} {As st0 : List Value} (dg : decode y.2.1 pc = .ok (.invokespecial idx, 3)) (hn : 0 < n) (hk : Cond.methodLinkNest y.1.cls idx y'.1 host ∈ nestW) (ok : okM y' nA) (ok2 : Cond.instanceMethod y'.1 ∈ tblG) (hnm : y'.1.name = "<init>") (hret : y'.2.2.2 = none) (hst0 : st0 = As.reverse ++ .ref a :: S) (hA : As.length = nA) (hrm : (S.map fun v => v.category).sum ≤ 8) (hct : cu + ct' ≤ ct) (hst : su + st' ≤ st) (E : Ec G d y' ct' st' (.ref a :: As) n m Q') (kk : ∀ n' m', Q' n' m' → Fz n' m' → n' = n + ct' ∧ Gc G (d + 1) y ct st (pc + 3) L S n' (cu + ct') (su + st') m' Q) : Gc G (d + 1) y ct st pc L st0 n cu su m Q := by
  intro p e s me args below meth c0 H locs ls C hi hcg hP hH hF hS hl T' hT X
  have hz := Gc_size hT X hcg hP hS hH hn
  obtain ⟨hx, hb, hr, hlk, hml, hown, hts, hK, hN, hZ, hG⟩ := id C
  refine callEndC (ct' := ct') (st' := st') C hi hcg hH hS hl (va_runIN (R := rmC (d + 1) ct st) (y := y'.1) (bytes := y'.2.1) (maxL := y'.2.2.1) (n := nA) (As := As) (rest := S) (Ts := tblG) ⟨hx, hb, hml, hown, hts⟩ E ⟨va_cnB nA hts (goodM ok) (by rw [wsM, hret]) rfl rfl (hN _ hk) (hts _ ok.1) ok.2.2.1 (rm_in ok.2.2.2), hnm, hts _ ok2⟩ ⟨PcC_blind _, PcC_here C hcg hP hz hF hS _⟩ rfl hA hl.1 hst0 (lv_room hrm) dg ⟨hct, hst⟩) kk T' hT X
end ConMake
