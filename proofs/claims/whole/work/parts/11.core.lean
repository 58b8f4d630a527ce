/-! THE MEMORY, THE JUDGEMENTS Gw (a frame of a method at a place) AND Ev (a whole call) -/
abbrev Mem : Type := (Nat → Nat → Int32) × (Nat → Nat → Int64) × (Nat → Nat → Nat)
def wA (m : Mem) (c : Nat) (f : Nat → Int32) : Mem := (fun q => if q = c then f else m.1 q, m.2)
def wI (m : Mem) (c k : Nat) (v : Int32) : Mem := wA m c (upd (m.1 c) k v)
def wL (m : Mem) (c k : Nat) (v : Int64) : Mem := (m.1, fun q => if q = c then vp_updL (m.2.1 c) k v else m.2.1 q, m.2.2)
def wR (m : Mem) (c k r : Nat) : Mem := (m.1, m.2.1, fun q => if q = c then va_up (m.2.2 c) k r else m.2.2 q)
abbrev MD : Type := MethodName × ByteArray × Nat × Option FieldType
abbrev GP : Type := Launch × va_G × (Nat → ClassId) × (Nat → Nat) × (Nat → Prop) × (State → Heap → Prop)
abbrev gl (G : GP) : Launch := G.1
abbrev gD (G : GP) : va_G := G.2.1
abbrev gy (G : GP) : Nat → ClassId := G.2.2.1
abbrev ga (G : GP) : Nat → Nat := G.2.2.2.1
abbrev gA (G : GP) : Nat → Prop := G.2.2.2.2.1
abbrev gZ (G : GP) : State → Heap → Prop := G.2.2.2.2.2
def tblG : List Cond := lw_tbl.filter goodWord
def isNest : Cond → Bool
  | .methodLinkNest .. => true
  | _ => false
def nestW : List Cond := lw_tbl.filter isNest
theorem tblG_mem {w : Cond} (h : w ∈ lw_tbl) (hg : goodWord w = true) : w ∈ tblG := List.mem_filter.mpr ⟨h, hg⟩
theorem tblG_good {w : Cond} (h : w ∈ tblG) : goodWord w = true := (List.mem_filter.mp h).2
def eF (G : GP) (refs : List Nat) (m : Mem) (c k t : Nat) : Value :=
  if t = 0 then .int (m.1 c k) else if t = 1 then .long (m.2.1 c k) else if t = 2 then .ref (ga G (refs.getD k 0)) else if m.2.2 c k = 0 then .null else .ref (ga G (m.2.2 c k))
def fE (G : GP) (refs : List Nat) (m : Mem) (c kd : Nat) : List Value := (List.range (FT kd).length).map (fun k => eF G refs m c k ((FT kd).getD k 0))
def cK (G : GP) (m : Mem) (c kd len : Nat) (refs : List Nat) : va_E :=
  if kd < 13 then .inr (kd, fE G refs m c kd)
  else if kd = 103 then .inl (gy G 3, len, .inr (.inl (m.2.1 c)))
  else if kd < 103 then .inl (gy G (kd - 100), len, .inl (m.1 c))
  else .inl (gy G (kd - 100), len, .inr (.inr (.inr (.inr (fun k => some (ga G (refs.getD k 0)))))))
def cE (G : GP) (m : Mem) (c : Nat) : va_E := match SH[c]? with
  | none => .inr (0, [])
  | some q => cK G m c q.1 q.2.1 q.2.2
def wsO (G : GP) (m : Mem) : va_W := (List.range SH.length).map (fun c => (ga G c, cE G m c))
def tyO (G : GP) : List (ClassId × FieldType) := [(gy G 0, .int), (gy G 1, .byte), (gy G 2, .boolean), (gy G 3, .long), (gy G 4, .object "BellTongue$Text"), (gy G 5, .object "BellTongue$Season")]
def GW (G : GP) : Prop := (∀ i j : Nat, i < SH.length → j < SH.length → ga G i = ga G j → i = j) ∧ (∀ i : Nat, i < SH.length → gA G (ga G i)) ∧ (∀ (u U : State) (H : Heap), u.WarmedH U.vm → gZ G u H → gZ G U H) ∧ (∀ (U : State) (H H1 : Heap), H.size ≤ H1.size → (∀ q : Nat, q < H.size → ¬ gA G q → H1[q]? = H[q]?) → gZ G U H → gZ G U H1)
def PcO (G : GP) (as : List Value) (m : Mem) : Array Value → State → Prop := fun v U => v = as.toArray ∧ va_P (gD G) vwCl (wsO G m) U.heap ∧ va_K (gD G) vwCl (tyO G) U ∧ (∀ w ∈ nestW, va_Nw w U) ∧ gZ G U U.heap ∧ GW G
def QcO (G : GP) (Q : Option Value → Mem → Prop) : Array Value → State → Outcome → State → Prop := fun _ st o t => ∃ (v : Option Value) (m : Mem), o = .returned v ∧ Q v m ∧ va_P (gD G) vwCl (wsO G m) t.heap ∧ va_F (gA G) st t
def rmO (d : Nat) : Room := { frames := d, cells := 0, slots := 0, locals := 40 * d }
def wsM (y : MD) : List Cond := .code y.1 y.2.1 y.2.2.1 y.2.2.2 :: tblG
/-- a whole call -/
def Ev (G : GP) (d : Nat) (y : MD) (as : List Value) (m : Mem) (Q : Option Value → Mem → Prop) : Prop := Met (gl G) y.1 (wsM y) (rmO d) (PcO G as m) (QcO G Q) 0 0 (gA G)
abbrev Evi (G : GP) (d : Nat) (y : MD) (as : List Value) (m : Mem) (K : Int32 → Mem → Prop) : Prop := Ev G d y as m (fun v m' => ∃ r : Int32, v = some (.int r) ∧ K r m')
abbrev Evl (G : GP) (d : Nat) (y : MD) (as : List Value) (m : Mem) (K : Int64 → Mem → Prop) : Prop := Ev G d y as m (fun v m' => ∃ r : Int64, v = some (.long r) ∧ K r m')
abbrev Evr (G : GP) (d : Nat) (y : MD) (as : List Value) (m : Mem) (K : Option Nat → Mem → Prop) : Prop := Ev G d y as m (fun v m' => ∃ r : Option Nat, v = some (va_rf (r.map (ga G))) ∧ K r m')
abbrev Evv (G : GP) (d : Nat) (y : MD) (as : List Value) (m : Mem) (K : Mem → Prop) : Prop := Ev G d y as m (fun v m' => v = none ∧ K m')
/-- a local that holds nothing that is known -/
abbrev uu : Value := .float 0
def lvp (ls : Array Slot) (nL : Nat) (L : List Value) : Prop := ls.size = nL ∧ lv_wf ls ∧ ∀ (i : Nat) (v : Value), L[i]? = some v → v ≠ uu → ls[i]? = some (.val v)
def Ct (G : GP) (y : MD) (p : Program) (s : State) (me : MethodId) (args : Array Value) (meth : Method) (c : Code) : Prop :=
  p.tables.exec = Jvm.exec ∧ c.code = y.2.1 ∧ meth.sig.returnType = y.2.2.2 ∧ meth.locks = false ∧ c.maxLocals = y.2.2.1 ∧ s.vm.findClass y.1.cls = some me.cls ∧ (∀ w ∈ tblG, w.before args s = true) ∧ va_K (gD G) vwCl (tyO G) s ∧ (∀ w ∈ nestW, va_Nw w s) ∧ gZ G s s.heap ∧ GW G
/-- a frame of the method y at pc, with locals L, stack S, memory m, comes to an end with Q -/
def Gw (G : GP) (d : Nat) (y : MD) (pc : Nat) (L S : List Value) (m : Mem) (Q : Option Value → Mem → Prop) : Prop :=
  ∀ (p : Program) (e : Env) (s : State) (me : MethodId) (args : Array Value) (below : List Frame) (meth : Method) (c : Code) (H : Heap) (locs : List Loc) (ls : Array Slot), Ct G y p s me args meth c → va_P (gD G) vwCl (wsO G m) H → va_S (gA G) s.heap H locs → lvp ls y.2.2.1 L →
    W p (gl G) e (rmO d) s me args below meth c H locs 0 0 (MQ below (QcO G Q) args s 0 0 (gA G)) (F0 me pc ls S)
-- ===== memory and world =====
theorem wA_s (m : Mem) (c : Nat) (f : Nat → Int32) : (wA m c f).1 c = f := if_pos rfl
theorem wA_n (m : Mem) {c q : Nat} (f : Nat → Int32) (h : q ≠ c) : (wA m c f).1 q = m.1 q := if_neg h
theorem wL_s (m : Mem) (c k : Nat) (v : Int64) : (wL m c k v).2.1 c = vp_updL (m.2.1 c) k v := if_pos rfl
theorem wL_n (m : Mem) {c q : Nat} (k : Nat) (v : Int64) (h : q ≠ c) : (wL m c k v).2.1 q = m.2.1 q := if_neg h
theorem wR_s (m : Mem) (c k r : Nat) : (wR m c k r).2.2 c = va_up (m.2.2 c) k r := if_pos rfl
theorem wR_n (m : Mem) {c q : Nat} (k r : Nat) (h : q ≠ c) : (wR m c k r).2.2 q = m.2.2 q := if_neg h
theorem cE_of {G : GP} {m : Mem} {c kd len : Nat} {refs : List Nat} (h : SH[c]? = some (kd, len, refs)) : cE G m c = cK G m c kd len refs := by unfold cE; rw [h]
theorem sh_lt {c : Nat} {q : Nat × Nat × List Nat} (h : SH[c]? = some q) : c < SH.length := (List.getElem?_eq_some_iff.mp h).1
theorem wsO_get (G : GP) (m : Mem) {c : Nat} (h : c < SH.length) : (wsO G m)[c]? = some (ga G c, cE G m c) := by
  unfold wsO
  rw [List.getElem?_map, List.getElem?_range h]
  rfl
theorem wsO_at {G : GP} {m : Mem} {c kd len : Nat} {refs : List Nat} (h : SH[c]? = some (kd, len, refs)) : (wsO G m)[c]? = some (ga G c, cK G m c kd len refs) := by
  rw [wsO_get G m (sh_lt h), cE_of h]
theorem wsO_set {G : GP} {m m' : Mem} {c : Nat} {x : va_E} (hc : c < SH.length) (hx : cE G m' c = x) (hn : ∀ q, q ≠ c → cE G m' q = cE G m q) : (wsO G m).set c (ga G c, x) = wsO G m' := by
  apply List.ext_getElem?
  intro j
  rw [List.getElem?_set]
  by_cases hj : c = j
  · subst hj
    rw [if_pos rfl, wsO_get G m' hc, hx]
    simp [wsO, hc]
  · rw [if_neg hj]
    by_cases hl : j < SH.length
    · rw [wsO_get G m hl, wsO_get G m' hl, hn j (fun e => hj e.symm)]
    · simp [wsO, hl]
theorem cE_congr {G : GP} {m m' : Mem} {q : Nat} (h1 : m'.1 q = m.1 q) (h2 : m'.2.1 q = m.2.1 q) (h3 : m'.2.2 q = m.2.2 q) : cE G m' q = cE G m q := by
  unfold cE
  cases SH[q]? with
  | none => rfl
  | some z =>
    show cK G m' q z.1 z.2.1 z.2.2 = cK G m q z.1 z.2.1 z.2.2
    unfold cK fE eF
    rw [h1, h2, h3]
theorem wsO_D {G : GP} (h : GW G) (m : Mem) : va_D (gA G) (wsO G m) := by
  have hlt : ∀ (k : Nat) (q : Nat × va_E), (wsO G m)[k]? = some q → k < SH.length := fun k q hk => by
    have := (List.getElem?_eq_some_iff.mp hk).1
    simpa [wsO] using this
  refine ⟨fun i j p q hi hj e => ?_, fun k q hk => ?_⟩
  · have h1 := hlt i p hi
    have h2 := hlt j q hj
    rw [wsO_get G m h1] at hi
    rw [wsO_get G m h2] at hj
    cases hi; cases hj
    exact h.1 i j h1 h2 e
  · have h1 := hlt k q hk
    rw [wsO_get G m h1] at hk
    cases hk
    exact h.2.1 k h1
theorem wsO_wA {G : GP} {m : Mem} {c kd len : Nat} {refs : List Nat} {f : Nat → Int32} {x : va_E} (h : SH[c]? = some (kd, len, refs)) (hx : cK G (wA m c f) c kd len refs = x) : (wsO G m).set c (ga G c, x) = wsO G (wA m c f) :=
  wsO_set (sh_lt h) ((cE_of h).trans hx) (fun q hq => cE_congr (wA_n m f hq) rfl rfl)
theorem wsO_wL {G : GP} {m : Mem} {c k kd len : Nat} {refs : List Nat} {v : Int64} {x : va_E} (h : SH[c]? = some (kd, len, refs)) (hx : cK G (wL m c k v) c kd len refs = x) : (wsO G m).set c (ga G c, x) = wsO G (wL m c k v) :=
  wsO_set (sh_lt h) ((cE_of h).trans hx) (fun q hq => cE_congr rfl (wL_n m k v hq) rfl)
theorem wsO_wR {G : GP} {m : Mem} {c k r kd len : Nat} {refs : List Nat} {x : va_E} (h : SH[c]? = some (kd, len, refs)) (hx : cK G (wR m c k r) c kd len refs = x) : (wsO G m).set c (ga G c, x) = wsO G (wR m c k r) :=
  wsO_set (sh_lt h) ((cE_of h).trans hx) (fun q hq => cE_congr rfl rfl (wR_n m k r hq))
theorem cK_obj {G : GP} {m : Mem} {c kd len : Nat} {refs : List Nat} (h : kd < 13) : cK G m c kd len refs = .inr (kd, fE G refs m c kd) := if_pos h
theorem fE_get {G : GP} {refs : List Nat} {m : Mem} {c kd k t : Nat} (h : (FT kd)[k]? = some t) : (fE G refs m c kd)[k]? = some (eF G refs m c k t) := by
  have hk := (List.getElem?_eq_some_iff.mp h).1
  unfold fE
  rw [List.getElem?_map, List.getElem?_range hk]
  simp [h]
theorem fE_set {G : GP} {refs : List Nat} {m m' : Mem} {c kd k t : Nat} (h : (FT kd)[k]? = some t) (v : Value) (hv : eF G refs m' c k t = v) (hn : ∀ (j u : Nat), j ≠ k → eF G refs m' c j u = eF G refs m c j u) : (fE G refs m c kd).set k v = fE G refs m' c kd := by
  have hk := (List.getElem?_eq_some_iff.mp h).1
  apply List.ext_getElem?
  intro j
  rw [List.getElem?_set]
  by_cases hj : k = j
  · subst hj
    rw [if_pos rfl, fE_get h, hv]
    simp [fE, hk]
  · rw [if_neg hj]
    unfold fE
    by_cases hl : j < (FT kd).length
    · rw [List.getElem?_map, List.getElem?_map, List.getElem?_range hl]
      simp only [Option.map_some]
      rw [hn j _ (fun e => hj e.symm)]
    · simp [hl]
-- ===== locals =====
def toA (L : List Value) : List (Nat × Value) := (List.range L.length).filterMap (fun j => match L[j]? with
  | some w => if w = uu then none else some (j, w)
  | none => none)
theorem toA_mem {L : List Value} {j : Nat} {w : Value} : (j, w) ∈ toA L ↔ L[j]? = some w ∧ w ≠ uu := by
  unfold toA
  rw [List.mem_filterMap]
  constructor
  · rintro ⟨i, hi, h⟩
    cases hL : L[i]? with
    | none => simp [hL] at h
    | some z =>
      simp only [hL] at h
      by_cases hz : z = uu
      · simp [hz] at h
      · rw [if_neg hz] at h
        cases h
        exact ⟨hL, hz⟩
  · rintro ⟨h1, h2⟩
    refine ⟨j, List.mem_range.mpr (List.getElem?_eq_some_iff.mp h1).1, ?_⟩
    simp only [h1]
    rw [if_neg h2]
theorem lvp_has {ls : Array Slot} {nL : Nat} {L : List Value} (h : lvp ls nL L) : lv_has ls nL (toA L) := ⟨h.1, h.2.1, fun q hq => h.2.2 q.1 q.2 (toA_mem.mp hq).1 (toA_mem.mp hq).2⟩
theorem lvp_of {ls : Array Slot} {nL : Nat} {l : List (Nat × Value)} {L : List Value} (h : lv_has ls nL l) (hl : ∀ (i : Nat) (v : Value), L[i]? = some v → v ≠ uu → (i, v) ∈ l) : lvp ls nL L := ⟨h.1, h.2.1, fun i v h1 h2 => h.2.2 (i, v) (hl i v h1 h2)⟩
/-- storing at i kills a long that ends there -/
def kl (L : List Value) (i : Nat) : List Value := match i with
  | 0 => L
  | j + 1 => match L[j]? with
    | some w => if w.category = 2 then L.set j uu else L
    | none => L
def st1 (L : List Value) (i : Nat) (v : Value) : List Value := (kl L i).set i v
def st2 (L : List Value) (i : Nat) (v : Value) : List Value := ((kl L i).set i v).set (i + 1) uu
theorem kl_get {L : List Value} {i j : Nat} {w : Value} (h : (kl L i)[j]? = some w) (hu : w ≠ uu) : L[j]? = some w ∧ ¬ (j + 1 = i ∧ w.category = 2) := by
  cases i with
  | zero => exact ⟨h, fun q => by omega⟩
  | succ k =>
    unfold kl at h
    cases hL : L[k]? with
    | none =>
      simp only [hL] at h
      refine ⟨h, fun q => ?_⟩
      have : j = k := by omega
      subst this
      rw [hL] at h
      cases h
    | some z =>
      simp only [hL] at h
      by_cases hz : z.category = 2
      · rw [if_pos hz, List.getElem?_set] at h
        by_cases hj : k = j
        · rw [if_pos hj] at h
          split at h
          · cases h
            exact absurd rfl hu
          · cases h
        · rw [if_neg hj] at h
          exact ⟨h, fun q => by omega⟩
      · rw [if_neg hz] at h
        refine ⟨h, fun q => ?_⟩
        have : j = k := by omega
        subst this
        rw [hL] at h
        cases h
        exact hz q.2
theorem lvp_f1 {ls' : Array Slot} {nL : Nat} {L : List Value} {i : Nat} {v : Value} (h' : lv_has ls' nL ((i, v) :: (toA L).filter (fun q => !(q.1 == i) && !(q.1 + 1 == i && q.2.category == 2)))) : lvp ls' nL (st1 L i v) := by
  refine lvp_of h' fun j w hj hu => ?_
  unfold st1 at hj
  rw [List.getElem?_set] at hj
  by_cases hij : i = j
  · subst hij
    rw [if_pos rfl] at hj
    split at hj
    · cases hj
      exact List.mem_cons_self
    · cases hj
  · rw [if_neg hij] at hj
    obtain ⟨h1, h2⟩ := kl_get hj hu
    refine List.mem_cons_of_mem _ (List.mem_filter.mpr ⟨toA_mem.mpr ⟨h1, hu⟩, ?_⟩)
    have : ¬ j = i := fun q => hij q.symm
    simp only [Bool.and_eq_true, Bool.not_eq_true', beq_eq_false_iff_ne, ne_eq, Bool.and_eq_false_iff]
    refine ⟨this, ?_⟩
    by_cases hji : j + 1 = i
    · exact Or.inr (fun q => h2 ⟨hji, q⟩)
    · exact Or.inl hji
theorem lvp_f2 {ls' : Array Slot} {nL : Nat} {L : List Value} {i : Nat} {v : Value} (h' : lv_has ls' nL ((i, v) :: (toA L).filter (fun q => !(q.1 == i) && (!(q.1 == i + 1) && !(q.1 + 1 == i && q.2.category == 2))))) : lvp ls' nL (st2 L i v) := by
  refine lvp_of h' fun j w hj hu => ?_
  unfold st2 at hj
  rw [List.getElem?_set] at hj
  by_cases hi1 : i + 1 = j
  · rw [if_pos hi1] at hj
    split at hj
    · cases hj
      exact absurd rfl hu
    · cases hj
  · rw [if_neg hi1, List.getElem?_set] at hj
    by_cases hij : i = j
    · subst hij
      rw [if_pos rfl] at hj
      split at hj
      · cases hj
        exact List.mem_cons_self
      · cases hj
    · rw [if_neg hij] at hj
      obtain ⟨h1, h2⟩ := kl_get hj hu
      refine List.mem_cons_of_mem _ (List.mem_filter.mpr ⟨toA_mem.mpr ⟨h1, hu⟩, ?_⟩)
      have a1 : ¬ j = i := fun q => hij q.symm
      have a2 : ¬ j = i + 1 := fun q => hi1 q.symm
      simp only [Bool.and_eq_true, Bool.not_eq_true', beq_eq_false_iff_ne, ne_eq, Bool.and_eq_false_iff]
      refine ⟨a1, a2, ?_⟩
      by_cases hji : j + 1 = i
      · exact Or.inr (fun q => h2 ⟨hji, q⟩)
      · exact Or.inl hji
def entL : List Value → List Value
  | [] => []
  | v :: r => if v.category = 2 then v :: uu :: entL r else v :: entL r
theorem entL_mem (vs : List Value) : ∀ (k i : Nat) (v : Value), (entL vs)[i]? = some v → v ≠ uu → (k + i, v) ∈ lv_args k vs := by
  induction vs with
  | nil => intro k i v h; simp [entL] at h
  | cons a r ih =>
    intro k i v h hu
    unfold entL at h
    unfold lv_args
    by_cases ha : a.category = 2
    · rw [if_pos ha] at h ⊢
      match i, h with
      | 0, h => cases h; exact List.mem_cons_self
      | 1, h => cases h; exact absurd rfl hu
      | j + 2, h =>
        have := ih (k + 2) j v h hu
        rw [show k + (j + 2) = k + 2 + j by omega]
        exact List.mem_cons_of_mem _ this
    · rw [if_neg ha] at h ⊢
      match i, h with
      | 0, h => cases h; exact List.mem_cons_self
      | j + 1, h =>
        have := ih (k + 1) j v h hu
        rw [show k + (j + 1) = k + 1 + j by omega]
        exact List.mem_cons_of_mem _ this
theorem lvp_ent (vs : List Value) {n : Nat} (h : (lg_sl vs).length ≤ n) {L : List Value} (hL : entL vs ++ List.replicate (n - (entL vs).length) uu = L) : lvp ((lg_sl vs ++ List.replicate (n - (lg_sl vs).length) Slot.unset).toArray) n L := by
  subst hL
  refine lvp_of (lv_entry vs h) fun i v hi hu => ?_
  rw [List.getElem?_append] at hi
  split at hi
  · have := entL_mem vs 0 i v hi hu
    rwa [Nat.zero_add] at this
  · have := List.mem_of_getElem? hi
    exact absurd (List.eq_of_mem_replicate this) hu
/-- a call begins -/
theorem Ev.go {G : GP} {d : Nat} {y : MD} {as : List Value} {m : Mem} {Q : Option Value → Mem → Prop} (L : List Value) (hp : plainName y.1.cls = true) (hn : (lg_sl as).length ≤ y.2.2.1) (hL : entL as ++ List.replicate (y.2.2.1 - (entL as).length) uu = L) (k : Gw G d y 0 L [] m Q) : Ev G d y as m Q := by
  refine Met.ofW (cc := y.2.1) (maxL := y.2.2.1) (ret := y.2.2.2) hp rfl ?_
  intro p e s me args below meth c s₁ B hml hv
  obtain ⟨rfl, hP, hK, hN, hZ, hG⟩ := hv
  have hts := atoms_spec (ws := wsM y) B.pre
  rw [lg_entry_eq]
  exact k p e s me as.toArray below meth c s.heap [] _ ⟨B.exec, B.bytes, B.returns, B.notSynchronized, hml, findClass_of_methodNamed B.named, fun w hw => hts w (List.mem_cons_of_mem _ hw), hK, hN, hZ, hG⟩ hP va_S.rf (lvp_ent as hn hL)
theorem Ev.mono {G : GP} {d : Nat} {y : MD} {as : List Value} {m : Mem} {Q Q' : Option Value → Mem → Prop} (h : Ev G d y as m Q) (hq : ∀ v m', Q v m' → Q' v m') : Ev G d y as m Q' := by
  intro p e ha hc hk s me args below hf hap hP hK
  obtain ⟨n, o, h1, h2, h3, ⟨v, m', hv, hQ, hr⟩, hL⟩ := h p e ha hc hk s me args below hf hap hP hK
  exact ⟨n, o, h1, h2, h3, ⟨v, m', hv, hq v m' hQ, hr⟩, hL⟩
