/-! THE CONSTRUCTORS: worlds that grow, a cell at a time -/
def eC (G : GP) (m : Mem) (c k t : Nat) : Value := if t = 0 then .int (m.1 c k) else if t = 1 then .long (m.2.1 c k) else if m.2.2 c k = 0 then .null else .ref (ga G (m.2.2 c k))
def fC (G : GP) (m : Mem) (c kd : Nat) : List Value := (List.range (FT kd).length).map (fun k => eC G m c k ((FT kd).getD k 0))
def rC (G : GP) (m : Mem) (c : Nat) : Nat → Option Nat := fun k => if m.2.2 c k = 0 then none else some (ga G (m.2.2 c k))
def kC (G : GP) (m : Mem) (c kd len : Nat) : va_E :=
  if kd < 13 then .inr (kd, fC G m c kd)
  else if kd = 103 then .inl (gy G 3, len, .inr (.inl (m.2.1 c)))
  else if kd < 103 then .inl (gy G (kd - 100), len, .inl (m.1 c))
  else .inl (gy G (kd - 100), len, .inr (.inr (.inr (.inr (rC G m c)))))
def cC (G : GP) (m : Mem) (c : Nat) : va_E := match SH[c]? with
  | none => .inr (0, [])
  | some q => kC G m c q.1 q.2.1
def wsC (G : GP) (n : Nat) (m : Mem) : va_W := (List.range n).map (fun c => (ga G c, cC G m c))
/-- nothing is made from n on -/
def Fz (n : Nat) (m : Mem) : Prop := ∀ c, n ≤ c → m.1 c = (fun _ => 0) ∧ m.2.1 c = (fun _ => 0) ∧ m.2.2 c = (fun _ => 0)
def ConG (G : GP) : Prop := (∀ c, ga G c = ga G 0 + c) ∧ ∀ q, gA G q ↔ ga G 0 ≤ q
def rmC (d ct st : Nat) : Room := { frames := d, cells := ct, slots := st, locals := 40 * d }
def PcC (G : GP) (as : List Value) (n : Nat) (m : Mem) : Array Value → State → Prop := fun v U => v = as.toArray ∧ va_P (gD G) vwCl (wsC G n m) U.heap ∧ U.heap.size = ga G n ∧ Fz n m ∧ va_K (gD G) vwCl (tyO G) U ∧ (∀ w ∈ nestW, va_Nw w U) ∧ gZ G U U.heap ∧ GW G ∧ ConG G
def QcC (G : GP) (Q : Nat → Mem → Prop) : Array Value → State → Outcome → State → Prop := fun _ st o t => ∃ (n : Nat) (m : Mem), o = .returned none ∧ Q n m ∧ va_P (gD G) vwCl (wsC G n m) t.heap ∧ Fz n m ∧ va_F (gA G) st t
def Ec (G : GP) (d : Nat) (y : MD) (ct st : Nat) (as : List Value) (n : Nat) (m : Mem) (Q : Nat → Mem → Prop) : Prop := Met (gl G) y.1 (wsM y) (rmC d ct st) (PcC G as n m) (QcC G Q) ct st (gA G)
def Gc (G : GP) (d : Nat) (y : MD) (ct st pc : Nat) (L S : List Value) (n cu su : Nat) (m : Mem) (Q : Nat → Mem → Prop) : Prop :=
  ∀ (p : Program) (e : Env) (s : State) (me : MethodId) (args : Array Value) (below : List Frame) (meth : Method) (c : Code) (H : Heap) (locs : List Loc) (ls : Array Slot), Ct G y p s me args meth c → meth.name = "<init>" → ConG G → va_P (gD G) vwCl (wsC G n m) H → s.heap.size + cu = ga G n → Fz n m → va_S (gA G) s.heap H locs → lvp ls y.2.2.1 L →
    W p (gl G) e (rmC d ct st) s me args below meth c H locs cu su (MQ below (QcC G Q) args s ct st (gA G)) (F0 me pc ls S)
theorem Ec.go {G : GP} {d : Nat} {y : MD} {ct st : Nat} {as : List Value} {n : Nat} {m : Mem} {Q : Nat → Mem → Prop} (L : List Value) (hi : y.1.name = "<init>") (hp : plainName y.1.cls = true) (hn : (lg_sl as).length ≤ y.2.2.1) (hL : entL as ++ List.replicate (y.2.2.1 - (entL as).length) uu = L) (k : Gc G d y ct st 0 L [] n 0 0 m Q) : Ec G d y ct st as n m Q := by
  refine Met.ofW (cc := y.2.1) (maxL := y.2.2.1) (ret := y.2.2.2) hp rfl ?_
  intro p e s me args below meth c s₁ B hml hv
  obtain ⟨rfl, hP, hH, hF, hK, hN, hZ, hG, hC⟩ := hv
  have hts := atoms_spec (ws := wsM y) B.pre
  rw [lg_entry_eq]
  exact k p e s me as.toArray below meth c s.heap [] _ ⟨B.exec, B.bytes, B.returns, B.notSynchronized, hml, findClass_of_methodNamed B.named, fun w hw => hts w (List.mem_cons_of_mem _ hw), hK, hN, hZ, hG⟩ ((name_of_methodNamed B.named B.method).1.trans hi) hC hP (by rw [Nat.add_zero]; exact hH) hF va_S.rf (lvp_ent as hn hL)
theorem wsC_len (G : GP) (n : Nat) (m : Mem) : (wsC G n m).length = n := by simp [wsC]
theorem wsC_get (G : GP) (m : Mem) {n c : Nat} (h : c < n) : (wsC G n m)[c]? = some (ga G c, cC G m c) := by
  unfold wsC
  rw [List.getElem?_map, List.getElem?_range h]; rfl
theorem cC_of {G : GP} {m : Mem} {c kd len : Nat} {refs : List Nat} (h : SH[c]? = some (kd, len, refs)) : cC G m c = kC G m c kd len := by unfold cC; rw [h]
theorem wsC_at {G : GP} {m : Mem} {n c kd len : Nat} {refs : List Nat} (hc : c < n) (h : SH[c]? = some (kd, len, refs)) : (wsC G n m)[c]? = some (ga G c, kC G m c kd len) := by rw [wsC_get G m hc, cC_of h]
theorem cC_congr {G : GP} {m m' : Mem} {q : Nat} (h1 : m'.1 q = m.1 q) (h2 : m'.2.1 q = m.2.1 q) (h3 : m'.2.2 q = m.2.2 q) : cC G m' q = cC G m q := by
  unfold cC kC fC eC rC
  rw [h1, h2, h3]
theorem wsC_set {G : GP} {m m' : Mem} {n c : Nat} {x : va_E} (hc : c < n) (hx : cC G m' c = x) (hn : ∀ q, q ≠ c → cC G m' q = cC G m q) : (wsC G n m).set c (ga G c, x) = wsC G n m' := by
  apply List.ext_getElem?
  intro j
  rw [List.getElem?_set]
  by_cases hj : c = j
  · subst hj
    rw [if_pos rfl, wsC_get G m' hc, hx, wsC_len, if_pos hc]
  · rw [if_neg hj]
    by_cases hl : j < n
    · rw [wsC_get G m hl, wsC_get G m' hl, hn j (fun e => hj e.symm)]
    · rw [List.getElem?_eq_none (by rw [wsC_len]; omega), List.getElem?_eq_none (by rw [wsC_len]; omega)]
theorem wsC_app (G : GP) (n : Nat) (m : Mem) : wsC G (n + 1) m = wsC G n m ++ [(ga G n, cC G m n)] := by
  unfold wsC
  rw [List.range_succ, List.map_append]; rfl
theorem wsC_D {G : GP} (h : ConG G) (n : Nat) (m : Mem) : va_D (gA G) (wsC G n m) := by
  refine ⟨fun i j p q hi hj e => ?_, fun k q hk => ?_⟩
  · have li := (List.getElem?_eq_some_iff.mp hi).1
    have lj := (List.getElem?_eq_some_iff.mp hj).1
    rw [wsC_len] at li lj
    rw [wsC_get G m li] at hi
    rw [wsC_get G m lj] at hj
    cases hi
    cases hj
    have e' : ga G i = ga G j := e
    rw [h.1 i, h.1 j] at e'
    omega
  · have lk := (List.getElem?_eq_some_iff.mp hk).1
    rw [wsC_len] at lk
    rw [wsC_get G m lk] at hk
    cases hk
    show gA G (ga G k)
    rw [h.2, h.1 k]
    omega
theorem fC_get {G : GP} {m : Mem} {c kd k t : Nat} (h : (FT kd)[k]? = some t) : (fC G m c kd)[k]? = some (eC G m c k t) := by
  have hk := (List.getElem?_eq_some_iff.mp h).1
  unfold fC
  rw [List.getElem?_map, List.getElem?_range hk]
  simp [h]
theorem fC_set {G : GP} {m m' : Mem} {c kd k t : Nat} (h : (FT kd)[k]? = some t) (v : Value) (hv : eC G m' c k t = v) (hn : ∀ (j u : Nat), j ≠ k → eC G m' c j u = eC G m c j u) : (fC G m c kd).set k v = fC G m' c kd := by
  have hk := (List.getElem?_eq_some_iff.mp h).1
  apply List.ext_getElem?
  intro j
  rw [List.getElem?_set]
  by_cases hj : k = j
  · subst hj
    rw [if_pos rfl, fC_get h, hv]
    simp [fC, hk]
  · rw [if_neg hj]
    unfold fC
    by_cases hl : j < (FT kd).length
    · rw [List.getElem?_map, List.getElem?_map, List.getElem?_range hl]
      simp only [Option.map_some]
      rw [hn j _ (fun e => hj e.symm)]
    · simp [hl]
theorem kC_obj {G : GP} {m : Mem} {c kd len : Nat} (h : kd < 13) : kC G m c kd len = .inr (kd, fC G m c kd) := if_pos h
theorem Fz.up {n : Nat} {m : Mem} (h : Fz n m) : Fz (n + 1) m := fun c hc => h c (by omega)
theorem Fz.wI {n : Nat} {m : Mem} (h : Fz n m) {c k : Nat} {v : Int32} (hc : c < n) : Fz n (wI m c k v) := fun q hq => by
  have := h q hq
  rw [wI_n m k v (by omega)]; exact this
theorem Fz.wR {n : Nat} {m : Mem} (h : Fz n m) {c k r : Nat} (hc : c < n) : Fz n (wR m c k r) := fun q hq => by
  have := h q hq
  rw [wR_n m k r (by omega)]; exact this
section ConRows
variable {G : GP} {d : Nat} {y : MD} {ct st pc : Nat} {L S : List Value} {n cu su : Nat} {m : Mem} {Q : Nat → Mem → Prop}
theorem co_aload_n {i : Fin 4} {x : Nat} (dg : decode y.2.1 pc = .ok (.aload_n i, 1)) (hL : L[(i : Nat)]? = some (.ref x)) (k : Gc G d y ct st (pc + 1) L (.ref x :: S) n cu su m Q) : Gc G d y ct st pc L S n cu su m Q := fun p e s me args below meth c H locs ls C hi hc hP hH hF hS hl => lv_aload_n C.1 C.2.1 dg rfl (hl.2.2 _ _ hL (fun h => by cases h)) (k p e s me args below meth c H locs ls C hi hc hP hH hF hS hl)
theorem co_iload_n {i : Fin 4} {x : Int32} (dg : decode y.2.1 pc = .ok (.iload_n i, 1)) (hL : L[(i : Nat)]? = some (.int x)) (k : Gc G d y ct st (pc + 1) L (.int x :: S) n cu su m Q) : Gc G d y ct st pc L S n cu su m Q := fun p e s me args below meth c H locs ls C hi hc hP hH hF hS hl => lv_iload_n C.1 C.2.1 dg rfl (hl.2.2 _ _ hL (fun h => by cases h)) (k p e s me args below meth c H locs ls C hi hc hP hH hF hS hl)
theorem co_iconst {a : Int} {v : Int32} (dg : decode y.2.1 pc = .ok (.iconst a, 1)) (hv : Int32.ofInt a = v) (k : Gc G d y ct st (pc + 1) L (.int v :: S) n cu su m Q) : Gc G d y ct st pc L S n cu su m Q := fun p e s me args below meth c H locs ls C hi hc hP hH hF hS hl => lv_iconst C.1 C.2.1 dg hv (k p e s me args below meth c H locs ls C hi hc hP hH hF hS hl)
theorem co_bipush {a : Int} {v : Int32} (dg : decode y.2.1 pc = .ok (.bipush a, 2)) (hv : (Int8.ofInt a).toInt32 = v) (k : Gc G d y ct st (pc + 2) L (.int v :: S) n cu su m Q) : Gc G d y ct st pc L S n cu su m Q := fun p e s me args below meth c H locs ls C hi hc hP hH hF hS hl => lv_bipush C.1 C.2.1 dg hv (k p e s me args below meth c H locs ls C hi hc hP hH hF hS hl)
theorem co_sipush {a : Int} {v : Int32} (dg : decode y.2.1 pc = .ok (.sipush a, 3)) (hv : (Int16.ofInt a).toInt32 = v) (k : Gc G d y ct st (pc + 3) L (.int v :: S) n cu su m Q) : Gc G d y ct st pc L S n cu su m Q := fun p e s me args below meth c H locs ls C hi hc hP hH hF hS hl => lv_sipush C.1 C.2.1 dg hv (k p e s me args below meth c H locs ls C hi hc hP hH hF hS hl)
theorem co_dup {v : Value} (dg : decode y.2.1 pc = .ok (.dup, 1)) (h1 : v.category = 1) (k : Gc G d y ct st (pc + 1) L (v :: v :: S) n cu su m Q) : Gc G d y ct st pc L (v :: S) n cu su m Q := fun p e s me args below meth c H locs ls C hi hc hP hH hF hS hl => lv_dup C.1 C.2.1 dg h1 (k p e s me args below meth c H locs ls C hi hc hP hH hF hS hl)
theorem co_istore_n {i : Fin 4} {x : Int32} {L' : List Value} (dg : decode y.2.1 pc = .ok (.istore_n i, 1)) (hi : (i : Nat) < y.2.2.1) (hL : st1 L (i : Nat) (.int x) = L') (k : Gc G d y ct st (pc + 1) L' S n cu su m Q) : Gc G d y ct st pc L (.int x :: S) n cu su m Q := fun p e s me args below meth c H locs ls C hin hc hP hH hF hS hl => lv_istore_n C.1 C.2.1 dg rfl (lvp_has hl) hi rfl (fun ls' h' => k p e s me args below meth c H locs ls' C hin hc hP hH hF hS (hL ▸ lvp_f1 h'))
theorem co_iinc {i : Nat} {a : Int} {x v : Int32} {L' : List Value} (dg : decode y.2.1 pc = .ok (.iinc i a, 3)) (hx : L[i]? = some (.int x)) (hv : x + Int32.ofInt a = v) (hi : i < y.2.2.1) (hL : st1 L i (.int v) = L') (k : Gc G d y ct st (pc + 3) L' S n cu su m Q) : Gc G d y ct st pc L S n cu su m Q := by
  intro p e s me args below meth c H locs ls C hin hc hP hH hF hS hl
  obtain ⟨j, hj⟩ := List.getElem?_of_mem (toA_mem.mpr ⟨hx, fun h => by cases h⟩)
  exact lv_iinc (k := j) C.1 C.2.1 dg (lvp_has hl) hj hv hi rfl (fun ls' h' => k p e s me args below meth c H locs ls' C hin hc hP hH hF hS (hL ▸ lvp_f1 h'))
theorem co_goto {off : Int} (t : Nat) (dg : decode y.2.1 pc = .ok (.goto off, 3)) (ht : (pc : Int) + off = (t : Int)) (k : Gc G d y ct st t L S n cu su m Q) : Gc G d y ct st pc L S n cu su m Q := fun p e s me args below meth c H locs ls C hi hc hP hH hF hS hl => lv_goto C.1 C.2.1 dg ht (k p e s me args below meth c H locs ls C hi hc hP hH hF hS hl)
theorem co_icmp_ge {a b : Int32} {off : Int} (t : Nat) (dg : decode y.2.1 pc = .ok (.if_icmp .ge off, 3)) (ht : (pc : Int) + off = (t : Int)) (k : (b ≤ a → Gc G d y ct st t L S n cu su m Q) ∧ (¬ (b ≤ a) → Gc G d y ct st (pc + 3) L S n cu su m Q)) : Gc G d y ct st pc L (.int b :: .int a :: S) n cu su m Q := fun p e s me args below meth c H locs ls C hi hc hP hH hF hS hl => lv_icmp_ge C.1 C.2.1 dg ht (fun h => k.1 h p e s me args below meth c H locs ls C hi hc hP hH hF hS hl) (fun h => k.2 h p e s me args below meth c H locs ls C hi hc hP hH hF hS hl)
theorem co_ret (dg : decode y.2.1 pc = .ok (.return_, 1)) (hr : y.2.2.2 = none) (hct : cu = ct) (hst : su = st) (k : Q n m) : Gc G d y ct st pc L [] n cu su m Q := by
  intro p e s me args below meth c H locs ls C hi hc hP hH hF hS hl
  subst hct hst
  exact W.vret C.1 C.2.1 (C.2.2.1.trans hr) (fun t ht hw => ⟨n, m, rfl, k, by rw [ht]; exact hP, hF, hS.F ht⟩) hS.2.2 dg C.2.2.2.1
theorem co_objInit {idx a : Nat} (dg : decode y.2.1 pc = .ok (.invokespecial idx, 3)) (hk : Cond.methodLink y.1.cls idx Lib.objectInit ∈ tblG) (hw : Cond.instanceMethod Lib.objectInit ∈ tblG ∧ Cond.code Lib.objectInit { data := #[177] } 1 none ∈ tblG) (hd : 1 ≤ d) (hrm : (S.map fun v => v.category).sum ≤ 8) (k : Gc G d y ct st (pc + 3) L S n cu su m Q) : Gc G d y ct st pc L (.ref a :: S) n cu su m Q := by
  intro p e s me args below meth c H locs ls C hi hc hP hH hF hS hl
  have hts := C.2.2.2.2.2.2.1
  refine W.objInit C.1 C.2.1 C.2.2.2.2.2.1 (hts _ hk) (hts _ hw.1) (hts _ hw.2) rfl (hl.1.trans C.2.2.2.2.1.symm) rfl dg (show 1 ≤ d from hd) ?_ (k p e s me args below meth c H locs ls C hi hc hP hH hF hS hl)
  show 2 * 0 + _ + 12 ≤ 40 * d
  omega
theorem co_getR {c ci len idx k N r : Nat} {refs : List Nat} {T : u_T} {C0 : String} (dg : decode y.2.1 pc = .ok (.getfield idx, 3)) (hs : SH[c]? = some (ci, len, refs)) (hcn : c < n) (hc : vwCl[ci]? = some (C0, T, N)) (hin : ∀ w ∈ u_ws C0 T N, w ∈ tblG) (hk : k < N) (hlk : Cond.fieldLink y.1.cls idx (T k).1 (T k).2.1 (T k).2.2.1 ∈ tblG) (ht : (FT ci)[k]? = some 2) (hr : m.2.2 c k = r) (h0 : r ≠ 0) (kk : Gc G d y ct st (pc + 3) L (.ref (ga G r) :: S) n cu su m Q) : Gc G d y ct st pc L (.ref (ga G c) :: S) n cu su m Q := by
  intro p e s me args below meth c0 H locs ls C hi hcg hP hH hF hS hl
  refine va_get C.1 C.2.1 C.2.2.2.2.2.2.1 hin C.2.2.2.2.2.1 C.2.2.2.2.2.2.2.1 hP c ((wsC_at hcn hs).trans (by rw [kC_obj (vwCl_lt hc)])) hc k hk (C.2.2.2.2.2.2.1 _ hlk) (fun _ h => h) (v := .ref (ga G r)) ((fC_get ht).trans ?_) dg (kk p e s me args below meth c0 H locs ls C hi hcg hP hH hF hS hl)
  subst hr
  simp [eC, h0]
theorem co_putI {c ci len idx k N : Nat} {refs : List Nat} {T : u_T} {C0 : String} {v : Int32} (dg : decode y.2.1 pc = .ok (.putfield idx, 3)) (hs : SH[c]? = some (ci, len, refs)) (hcn : c < n) (hc : vwCl[ci]? = some (C0, T, N)) (hin : ∀ w ∈ u_ws C0 T N, w ∈ tblG) (hk : k < N) (hlk : Cond.fieldLink y.1.cls idx (T k).1 (T k).2.1 (T k).2.2.1 ∈ tblG) (ty0 : Nat → FieldType) (hty : ∀ k, k < N → parseFieldDescriptor (T k).2.2.1 = some (ty0 k)) (hnm : ∀ a, a < N → ∀ b, b < N → a ≠ b → (T a).2.1 ≠ (T b).2.1) (hfin : (T k).2.2.2 = false) (ht : (FT ci)[k]? = some 0) (hd : parseFieldDescriptor (T k).2.2.1 = some .int) (kk : Gc G d y ct st (pc + 3) L S n cu su (wI m c k v) Q) : Gc G d y ct st pc L (.int v :: .ref (ga G c) :: S) n cu su m Q := by
  intro p e s me args below meth c0 H locs ls C hi hcg hP hH hF hS hl
  have hE : (wsC G n m)[c]? = some (ga G c, .inr (ci, fC G m c ci)) := (wsC_at hcn hs).trans (by rw [kC_obj (vwCl_lt hc)])
  have hset : (fC G m c ci).set k (.int v) = fC G (wI m c k v) c ci := fC_set ht _ (by simp [eC, wI, wA, upd]) (fun j u hj => by unfold eC; rw [show (wI m c k v).1 c j = m.1 c j by simp [wI, wA, upd, hj]]; rfl)
  refine va_put C.1 C.2.1 C.2.2.2.2.2.2.1 hin ty0 hty hnm C.2.2.2.2.2.1 C.2.2.2.2.2.2.2.1 hP (wsC_D hcg n m) hS c hE hc k hk (C.2.2.2.2.2.2.1 _ hlk) (fun _ h => h) hfin hd rfl rfl (by rw [fC, List.length_map, List.length_range]; exact (List.getElem?_eq_some_iff.mp ht).1) dg (fun H1 locs1 hP1 hD1 hS1 => ?_)
  rw [hset, wsC_set (m := m) (m' := wI m c k v) hcn ((cC_of hs).trans (kC_obj (vwCl_lt hc))) (fun q hq => cC_congr (wI_n m k v hq) rfl rfl)] at hP1
  exact kk p e s me args below meth c0 H1 locs1 ls C hi hcg hP1 hH (hF.wI hcn) hS1 hl
theorem co_putR {c ci len idx k N r : Nat} {refs : List Nat} {T : u_T} {C0 : String} {ty : FieldType} (dg : decode y.2.1 pc = .ok (.putfield idx, 3)) (hs : SH[c]? = some (ci, len, refs)) (hcn : c < n) (hc : vwCl[ci]? = some (C0, T, N)) (hin : ∀ w ∈ u_ws C0 T N, w ∈ tblG) (hk : k < N) (hlk : Cond.fieldLink y.1.cls idx (T k).1 (T k).2.1 (T k).2.2.1 ∈ tblG) (ty0 : Nat → FieldType) (hty : ∀ k, k < N → parseFieldDescriptor (T k).2.2.1 = some (ty0 k)) (hnm : ∀ a, a < N → ∀ b, b < N → a ≠ b → (T a).2.1 ≠ (T b).2.1) (hfin : (T k).2.2.2 = true) (hdecl : (T k).1 = y.1.cls) (ht : (FT ci)[k]? = some 2) (hd : parseFieldDescriptor (T k).2.2.1 = some ty) (hn : narrow ty (.ref (ga G r)) = .ref (ga G r)) (hfit : fits ty (.ref (ga G r)) = true) (hr : r ≠ 0) (kk : Gc G d y ct st (pc + 3) L S n cu su (wR m c k r) Q) : Gc G d y ct st pc L (.ref (ga G r) :: .ref (ga G c) :: S) n cu su m Q := by
  intro p e s me args below meth c0 H locs ls C hi hcg hP hH hF hS hl
  have hE : (wsC G n m)[c]? = some (ga G c, .inr (ci, fC G m c ci)) := (wsC_at hcn hs).trans (by rw [kC_obj (vwCl_lt hc)])
  have hset : (fC G m c ci).set k (.ref (ga G r)) = fC G (wR m c k r) c ci := fC_set ht _ (by simp [eC, wR, va_up, hr]) (fun j u hj => by unfold eC; rw [show (wR m c k r).2.2 c j = m.2.2 c j by simp [wR, va_up, hj]]; rfl)
  refine va_putF C.1 C.2.1 C.2.2.2.2.2.2.1 hin ty0 hty hnm C.2.2.2.2.2.1 C.2.2.2.2.2.2.2.1 hP (wsC_D hcg n m) hS c hE hc k hk (C.2.2.2.2.2.2.1 _ hlk) (fun _ h => h) hfin hi hdecl hd hn hfit (by rw [fC, List.length_map, List.length_range]; exact (List.getElem?_eq_some_iff.mp ht).1) dg (fun H1 locs1 hP1 hD1 hS1 => ?_)
  rw [hset, wsC_set (m := m) (m' := wR m c k r) hcn ((cC_of hs).trans (kC_obj (vwCl_lt hc))) (fun q hq => cC_congr rfl rfl (wR_n m k r hq))] at hP1
  exact kk p e s me args below meth c0 H1 locs1 ls C hi hcg hP1 hH (hF.wR hcn) hS1 hl
theorem co_iast {c len : Nat} {i v : Int32} (dg : decode y.2.1 pc = .ok (.iastore, 1)) (hs : SH[c]? = some (100, len, [])) (hcn : c < n) (hi : vp_in i len) (kk : Gc G d y ct st (pc + 1) L S n cu su (wI m c i.toNatClampNeg v) Q) : Gc G d y ct st pc L (.int v :: .int i :: .ref (ga G c) :: S) n cu su m Q := by
  intro p e s me args below meth c0 H locs ls C hin hcg hP hH hF hS hl
  refine va_iast C.1 C.2.1 C.2.2.2.2.2.2.2.1 hP (wsC_D hcg n m) hS c 0 (wsC_at hcn hs) rfl hi dg (fun H1 locs1 hP1 hD1 hS1 => ?_)
  rw [wsC_set (m := m) (m' := wI m c i.toNatClampNeg v) hcn ((cC_of hs).trans (by simp [kC, wI, wA])) (fun q hq => cC_congr (wI_n m _ v hq) rfl rfl)] at hP1
  exact kk p e s me args below meth c0 H1 locs1 ls C hin hcg hP1 hH (hF.wI hcn) hS1 hl
theorem Gc_size {p : Program} {e : Env} {s : State} {me : MethodId} {args : Array Value} {below : List Frame} {meth : Method} {c : Code} {H : Heap} {locs : List Loc} {R : Room} {T : State} (hT : T.heap = H) (X : Stand p (gl G) e R s me args below meth c T locs cu su) (hcg : ConG G) (hP : va_P (gD G) vwCl (wsC G n m) H) (hS : va_S (gA G) s.heap H locs) (hH : s.heap.size + cu = ga G n) (hn : 0 < n) : H.size = ga G n := by
  have h1 := X.heapSize
  rw [hT] at h1
  have h2 : ga G n ≤ H.size := by
    cases n with
    | zero => exact absurd hn (Nat.lt_irrefl 0)
    | succ k =>
      have h3 := (hP k _ (wsC_get G m (Nat.lt_succ_self k))).lt
      have h4 := hcg.1 k
      have h5 := hcg.1 (k + 1)
      have h6 : (ga G k, cC G m k).1 = ga G k := rfl
      omega
  omega
end ConRows
