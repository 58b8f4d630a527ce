/-! THE CLAIM OUT OF ONE WALK OF THE LAW'S BODY. Your part is whole_start (and what it stands on); all else here is the same for every law, but numbers. -/
def R_law : String := "BellTongueLaw"
def lw_P (b : Addr) (xs : List Int32) (args : Array Value) (s : State) : Prop := args = #[.ref b] ∧ s.IntsAt b xs ∧ xs.length ≤ 3584 ∧ (Jvm.Cond.and given_1 narrow_1).before args s = true
def lw_Q (_ : Array Value) (s : State) (o : Outcome) (t : State) : Prop := o = .returned (some (.int 1)) ∧ Framed s o t [] 600000 7302250
def lw_Z (below : List Frame) (a : Array Value) (s : State) : State → Prop := fun t => ∃ o, t.status = .running ∧ Ended t below o ∧ lw_Q a s o t
/-- the law's own end, with 1 on the stack, nothing written that was there before, its room as the claim has it -/
theorem lw_ret {p : Program} {l : Launch} {e : Env} {s : State} {m : MethodId} {below : List Frame} {meth : Method} {c : Code} {b : Nat} (hx : p.tables.exec = Jvm.exec) (hb : c.code = code) (hr : meth.sig.returnType = ret) (hlocks : meth.locks = false) {pc : Nat} {H : Heap} {ls : Array Slot} (hdg : decode code pc = .ok (.ireturn, 1)) : W p l e room_1 s m #[Value.ref b] below meth c H [] 600000 7302250 (lw_Z below #[Value.ref b] s) (F0 m pc ls [.int 1]) := by
  intro T hT X
  obtain ⟨fs, hret, hrun, hended, hW, hframe⟩ := X.leave (v := some (.int 1)) (hlocks := hlocks) (fun h => by rw [hr] at h; cases h)
  have hmeth' : T.vm.method? m = some meth := X.method'
  refine ⟨T.setFrames fs, ?_, .returned (some (.int 1)), hrun, hended, rfl, ⟨_, rfl⟩, hW, hframe⟩
  jvm_step X.here [X.here.top, hx, hb, hdg, hmeth', hr, ret, narrow_b1]
  (try refine ⟨rfl, ?_⟩); (try refine ⟨rfl, ?_⟩)
  first | (intro acts; rw [hret _ acts rfl rfl rfl]) | rw [hret _ _ rfl rfl rfl]
  exact Steps.refl _
/-- what holds at the law's entry: the machine, the code, the tables' words (any of lw_tbl by 'hts w (by decide +kernel)'), the script of L ints xs at the cell b, what the Statement gives of the start (any of its parts by flat_of_before) -/
def lw_At (p : Program) (s : State) (m : MethodId) (meth : Method) (c : Code) (b L : Nat) (xs : Nat → Int32) : Prop :=
  p.tables.exec = Jvm.exec ∧ c.code = code ∧ meth.sig.returnType = ret ∧ c.maxLocals = 4 ∧ s.vm.findClass R_law = some m.cls ∧ (∀ w ∈ lw_tbl, w.before #[Value.ref b] s = true) ∧ va_X b L xs s s.heap ∧ b < s.heap.size ∧ meth.locks = false ∧ (Jvm.Cond.and given_1 narrow_1).before #[Value.ref b] s = true
abbrev lwM : MD := (x, code, maxLocals, ret)
/-- the law's context, behind its two constructors -/
def Cl (G : GP) (p : Program) (s : State) (me : MethodId) (meth : Method) (c : Code) (b N : Nat) (xs : Nat → Int32) : Prop :=
  lw_At p s me meth c b N xs ∧ va_K (gD G) vwCl (tyO G) s ∧ gZ G s s.heap ∧ GW G ∧ (∀ q, gA G q → s.heap.size ≤ q) ∧ ¬ gA G b
def Lw (G : GP) (b N : Nat) (xs : Nat → Int32) (pc : Nat) (L S : List Value) (m : Mem) : Prop :=
  ∀ (p : Program) (e : Env) (s : State) (me : MethodId) (below : List Frame) (meth : Method) (c : Code) (H : Heap) (locs : List Loc) (ls : Array Slot), Cl G p s me meth c b N xs → va_P (gD G) vwCl (wsO G m) H → va_S (gA G) s.heap H locs → lvp ls 4 L →
    W p (gl G) e room_1 s me #[Value.ref b] below meth c H locs 600000 7302250 (lw_Z below #[Value.ref b] s) (F0 me pc ls S)
theorem Cl.ct {G : GP} {p : Program} {s : State} {me : MethodId} {meth : Method} {c : Code} {b N : Nat} {xs : Nat → Int32} (h : Cl G p s me meth c b N xs) : Ct G lwM p s me #[Value.ref b] meth c := by
  obtain ⟨⟨hx, hb, hr, hml, hown, hts, hX, hbl, hlk, hgv⟩, hK, hZ, hG, hA, hbA⟩ := h
  refine ⟨hx, hb, hr, hlk, hml, hown, fun w hw => hts w (List.mem_filter.mp hw).1, hK, fun w hw => ?_, hZ, hG⟩
  have h1 := List.mem_filter.mp hw
  have h2 := hts w h1.1
  have h3 := h1.2
  cases w <;> first | exact va_Nw.of rfl h2 | (exact absurd h3 (by simp [isNest]))
theorem lo_iadd {G : GP} {b N : Nat} {xs : Nat → Int32} {pc : Nat} {L S : List Value} {m : Mem} {x y : Int32} (dg : decode cL_law pc = .ok (.iadd, 1)) (k : Lw G b N xs (pc + 1) L (.int (x + y) :: S) m) : Lw G b N xs pc L (.int y :: .int x :: S) m := fun p e s me below meth c H locs ls C hP hS hl => lv_iadd C.1.1 C.1.2.1 dg (k p e s me below meth c H locs ls C hP hS hl)
theorem lo_isub {G : GP} {b N : Nat} {xs : Nat → Int32} {pc : Nat} {L S : List Value} {m : Mem} {x y : Int32} (dg : decode cL_law pc = .ok (.isub, 1)) (k : Lw G b N xs (pc + 1) L (.int (x - y) :: S) m) : Lw G b N xs pc L (.int y :: .int x :: S) m := fun p e s me below meth c H locs ls C hP hS hl => lv_isub C.1.1 C.1.2.1 dg (k p e s me below meth c H locs ls C hP hS hl)
theorem lo_iand {G : GP} {b N : Nat} {xs : Nat → Int32} {pc : Nat} {L S : List Value} {m : Mem} {x y : Int32} (dg : decode cL_law pc = .ok (.iand, 1)) (k : Lw G b N xs (pc + 1) L (.int (x &&& y) :: S) m) : Lw G b N xs pc L (.int y :: .int x :: S) m := fun p e s me below meth c H locs ls C hP hS hl => lv_iand C.1.1 C.1.2.1 dg (k p e s me below meth c H locs ls C hP hS hl)
theorem lo_lcmp {G : GP} {b N : Nat} {xs : Nat → Int32} {pc : Nat} {L S : List Value} {m : Mem} {x y : Int64} (dg : decode cL_law pc = .ok (.lcmp, 1)) (k : Lw G b N xs (pc + 1) L (.int (lg_cmp x y) :: S) m) : Lw G b N xs pc L (.long y :: .long x :: S) m := fun p e s me below meth c H locs ls C hP hS hl => W.lcmp C.1.1 C.1.2.1 dg (k p e s me below meth c H locs ls C hP hS hl)
theorem lo_iconst {G : GP} {b N : Nat} {xs : Nat → Int32} {pc : Nat} {L S : List Value} {m : Mem} {n : Int} {v : Int32} (dg : decode cL_law pc = .ok (.iconst n, 1)) (hv : Int32.ofInt n = v) (k : Lw G b N xs (pc + 1) L (.int v :: S) m) : Lw G b N xs pc L (S) m := fun p e s me below meth c H locs ls C hP hS hl => lv_iconst C.1.1 C.1.2.1 dg hv (k p e s me below meth c H locs ls C hP hS hl)
theorem lo_bipush {G : GP} {b N : Nat} {xs : Nat → Int32} {pc : Nat} {L S : List Value} {m : Mem} {n : Int} {v : Int32} (dg : decode cL_law pc = .ok (.bipush n, 2)) (hv : (Int8.ofInt n).toInt32 = v) (k : Lw G b N xs (pc + 2) L (.int v :: S) m) : Lw G b N xs pc L (S) m := fun p e s me below meth c H locs ls C hP hS hl => lv_bipush C.1.1 C.1.2.1 dg hv (k p e s me below meth c H locs ls C hP hS hl)
theorem lo_iload_n {G : GP} {b N : Nat} {xs : Nat → Int32} {pc : Nat} {L S : List Value} {m : Mem} {i : Fin 4} {v : Int32} (dg : decode cL_law pc = .ok (.iload_n i, 1)) (hL : L[(i : Nat)]? = some (.int v)) (k : Lw G b N xs (pc + 1) L (.int v :: S) m) : Lw G b N xs pc L S m := fun p e s me below meth c H locs ls C hP hS hl => lv_iload_n C.1.1 C.1.2.1 dg rfl (hl.2.2 _ _ hL (fun h => by cases h)) (k p e s me below meth c H locs ls C hP hS hl)
theorem lo_aload_n {G : GP} {b N : Nat} {xs : Nat → Int32} {pc : Nat} {L S : List Value} {m : Mem} {i : Fin 4} {v : Nat} (dg : decode cL_law pc = .ok (.aload_n i, 1)) (hL : L[(i : Nat)]? = some (.ref v)) (k : Lw G b N xs (pc + 1) L (.ref v :: S) m) : Lw G b N xs pc L S m := fun p e s me below meth c H locs ls C hP hS hl => lv_aload_n C.1.1 C.1.2.1 dg rfl (hl.2.2 _ _ hL (fun h => by cases h)) (k p e s me below meth c H locs ls C hP hS hl)
theorem lo_iinc {G : GP} {b N : Nat} {xs : Nat → Int32} {pc : Nat} {L S : List Value} {m : Mem} {i : Nat} {n : Int} {x v : Int32} {L' : List Value} (dg : decode cL_law pc = .ok (.iinc i n, 3)) (hx : L[i]? = some (.int x)) (hv : x + Int32.ofInt n = v) (hi : i < 4) (hL : st1 L i (.int v) = L') (k : Lw G b N xs (pc + 3) L' S m) : Lw G b N xs pc L S m := by
  intro p e s me below meth c H locs ls C hP hS hl
  obtain ⟨j, hj⟩ := List.getElem?_of_mem (toA_mem.mpr ⟨hx, fun h => by cases h⟩)
  exact lv_iinc (k := j) C.1.1 C.1.2.1 dg (lvp_has hl) hj hv hi rfl (fun ls' h' => k p e s me below meth c H locs ls' C hP hS (hL ▸ lvp_f1 h'))
theorem lo_if_eq {G : GP} {b N : Nat} {xs : Nat → Int32} {pc : Nat} {L S : List Value} {m : Mem} {x : Int32} {off : Int} (t : Nat) (dg : decode cL_law pc = .ok (.ifCond .eq off, 3)) (ht : (pc : Int) + off = (t : Int)) (k : (x = 0 → Lw G b N xs t L S m) ∧ (¬ (x = 0) → Lw G b N xs (pc + 3) L S m)) : Lw G b N xs pc L (.int x :: S) m := fun p e s me below meth c H locs ls C hP hS hl => lv_if_eq C.1.1 C.1.2.1 dg ht (fun h => k.1 h p e s me below meth c H locs ls C hP hS hl) (fun h => k.2 h p e s me below meth c H locs ls C hP hS hl)
theorem lo_icmp_eq {G : GP} {b N : Nat} {xs : Nat → Int32} {pc : Nat} {L S : List Value} {m : Mem} {x y : Int32} {off : Int} (t : Nat) (dg : decode cL_law pc = .ok (.if_icmp .eq off, 3)) (ht : (pc : Int) + off = (t : Int)) (k : (x = y → Lw G b N xs t L S m) ∧ (¬ (x = y) → Lw G b N xs (pc + 3) L S m)) : Lw G b N xs pc L (.int y :: .int x :: S) m := fun p e s me below meth c H locs ls C hP hS hl => lv_icmp_eq C.1.1 C.1.2.1 dg ht (fun h => k.1 h p e s me below meth c H locs ls C hP hS hl) (fun h => k.2 h p e s me below meth c H locs ls C hP hS hl)
theorem lo_if_ne {G : GP} {b N : Nat} {xs : Nat → Int32} {pc : Nat} {L S : List Value} {m : Mem} {x : Int32} {off : Int} (t : Nat) (dg : decode cL_law pc = .ok (.ifCond .ne off, 3)) (ht : (pc : Int) + off = (t : Int)) (k : (¬ x = 0 → Lw G b N xs t L S m) ∧ (x = 0 → Lw G b N xs (pc + 3) L S m)) : Lw G b N xs pc L (.int x :: S) m := fun p e s me below meth c H locs ls C hP hS hl => lv_if_ne C.1.1 C.1.2.1 dg ht (fun h => k.1 h p e s me below meth c H locs ls C hP hS hl) (fun h => k.2 h p e s me below meth c H locs ls C hP hS hl)
theorem lo_icmp_ne {G : GP} {b N : Nat} {xs : Nat → Int32} {pc : Nat} {L S : List Value} {m : Mem} {x y : Int32} {off : Int} (t : Nat) (dg : decode cL_law pc = .ok (.if_icmp .ne off, 3)) (ht : (pc : Int) + off = (t : Int)) (k : (¬ x = y → Lw G b N xs t L S m) ∧ (x = y → Lw G b N xs (pc + 3) L S m)) : Lw G b N xs pc L (.int y :: .int x :: S) m := fun p e s me below meth c H locs ls C hP hS hl => lv_icmp_ne C.1.1 C.1.2.1 dg ht (fun h => k.1 h p e s me below meth c H locs ls C hP hS hl) (fun h => k.2 h p e s me below meth c H locs ls C hP hS hl)
theorem lo_if_gt {G : GP} {b N : Nat} {xs : Nat → Int32} {pc : Nat} {L S : List Value} {m : Mem} {x : Int32} {off : Int} (t : Nat) (dg : decode cL_law pc = .ok (.ifCond .gt off, 3)) (ht : (pc : Int) + off = (t : Int)) (k : (0 < x → Lw G b N xs t L S m) ∧ (¬ (0 < x) → Lw G b N xs (pc + 3) L S m)) : Lw G b N xs pc L (.int x :: S) m := fun p e s me below meth c H locs ls C hP hS hl => lv_if_gt C.1.1 C.1.2.1 dg ht (fun h => k.1 h p e s me below meth c H locs ls C hP hS hl) (fun h => k.2 h p e s me below meth c H locs ls C hP hS hl)
theorem lo_icmp_gt {G : GP} {b N : Nat} {xs : Nat → Int32} {pc : Nat} {L S : List Value} {m : Mem} {x y : Int32} {off : Int} (t : Nat) (dg : decode cL_law pc = .ok (.if_icmp .gt off, 3)) (ht : (pc : Int) + off = (t : Int)) (k : (y < x → Lw G b N xs t L S m) ∧ (¬ (y < x) → Lw G b N xs (pc + 3) L S m)) : Lw G b N xs pc L (.int y :: .int x :: S) m := fun p e s me below meth c H locs ls C hP hS hl => lv_icmp_gt C.1.1 C.1.2.1 dg ht (fun h => k.1 h p e s me below meth c H locs ls C hP hS hl) (fun h => k.2 h p e s me below meth c H locs ls C hP hS hl)
theorem lo_goto {G : GP} {b N : Nat} {xs : Nat → Int32} {pc : Nat} {L S : List Value} {m : Mem} {off : Int} (t : Nat) (dg : decode cL_law pc = .ok (.goto off, 3)) (ht : (pc : Int) + off = (t : Int)) (k : Lw G b N xs t L S m) : Lw G b N xs pc L S m := fun p e s me below meth c H locs ls C hP hS hl => lv_goto C.1.1 C.1.2.1 dg ht (k p e s me below meth c H locs ls C hP hS hl)
theorem lo_tabOut {G : GP} {b N : Nat} {xs : Nat → Int32} {pc : Nat} {L S : List Value} {m : Mem} {x : Int32} {df lo hi : Int} {offs : Array Int} {len : Nat} (t : Nat) (dg : decode cL_law pc = .ok (.tableswitch df lo hi offs, len)) (h : x.toInt < lo ∨ hi < x.toInt) (ht : (pc : Int) + df = (t : Int)) (k : Lw G b N xs t L S m) : Lw G b N xs pc L (.int x :: S) m := fun p e s me below meth c H locs ls C hP hS hl => lv_tableOut C.1.1 C.1.2.1 dg h ht (k p e s me below meth c H locs ls C hP hS hl)
theorem lo_tabIn {G : GP} {b N : Nat} {xs : Nat → Int32} {pc : Nat} {L S : List Value} {m : Mem} {x : Int32} {df lo hi off : Int} {offs : Array Int} {len : Nat} (t : Nat) (dg : decode cL_law pc = .ok (.tableswitch df lo hi offs, len)) (h1 : ¬ x.toInt < lo) (h2 : ¬ hi < x.toInt) (ho : offs[(x.toInt - lo).toNat]? = some off) (ht : (pc : Int) + off = (t : Int)) (k : Lw G b N xs t L S m) : Lw G b N xs pc L (.int x :: S) m := fun p e s me below meth c H locs ls C hP hS hl => lv_tableIn C.1.1 C.1.2.1 dg h1 h2 ho ht (k p e s me below meth c H locs ls C hP hS hl)
theorem lo_sld {G : GP} {b N : Nat} {xs : Nat → Int32} {pc : Nat} {L S : List Value} {m : Mem} {i : Int32} (dg : decode cL_law pc = .ok (.iaload, 1)) (hi : vp_in i N) (k : Lw G b N xs (pc + 1) L (.int (xs i.toNatClampNeg) :: S) m) : Lw G b N xs pc L (.int i :: .ref b :: S) m := fun p e s me below meth c H locs ls C hP hS hl => va_sld C.1.1 C.1.2.1 C.1.2.2.2.2.2.2.1 C.1.2.2.2.2.2.2.2.1 C.2.2.2.2.2 hS hi dg (k p e s me below meth c H locs ls C hP hS hl)
theorem lo_slen {G : GP} {b N : Nat} {xs : Nat → Int32} {pc : Nat} {L S : List Value} {m : Mem} (dg : decode cL_law pc = .ok (.arraylength, 1)) (k : Lw G b N xs (pc + 1) L (.int (Int32.ofNat N) :: S) m) : Lw G b N xs pc L (.ref b :: S) m := fun p e s me below meth c H locs ls C hP hS hl => va_slen C.1.1 C.1.2.1 C.1.2.2.2.2.2.2.1 C.1.2.2.2.2.2.2.2.1 C.2.2.2.2.2 hS dg (k p e s me below meth c H locs ls C hP hS hl)
theorem lo_ret {G : GP} {b N : Nat} {xs : Nat → Int32} {pc : Nat} {L S : List Value} {m : Mem} (dg : decode cL_law pc = .ok (.ireturn, 1)) : Lw G b N xs pc L [.int 1] m := fun p e s me below meth c H locs ls C hP hS hl => va_forget (fun q hq => C.2.2.2.2.1 _ (hS.2.2 q hq)) (lw_ret C.1.1 C.1.2.1 C.1.2.2.1 C.1.2.2.2.2.2.2.2.2.1 dg)
theorem lo_no {G : GP} {b N : Nat} {xs : Nat → Int32} {pc : Nat} {L S : List Value} {m : Mem} (h : False) : Lw G b N xs pc L S m := h.elim
theorem lo_callV {G : GP} {b N : Nat} {xs : Nat → Int32} {pc : Nat} {L S : List Value} {m : Mem} {K : Option Value → Mem → Prop} (y' : MD) {idx n c ci len M : Nat} {refs : List Nat} {T : u_T} {As st : List Value} (dg : decode cL_law pc = .ok (.invokevirtual idx, 3)) (hk : Cond.methodLink "BellTongueLaw" idx y'.1 ∈ tblG) (ok : okM y' n) (ok2 : Cond.instanceMethod y'.1 ∈ tblG ∧ Cond.selects y'.1.cls y'.1 y'.1 ∈ tblG) (hs : SH[c]? = some (ci, len, refs)) (hc : vwCl[ci]? = some (y'.1.cls, T, M)) (hst : st = As.reverse ++ .ref (ga G c) :: S) (hn : As.length = n) (hrm : (S.map fun v => v.category).sum ≤ 8)
    (E : Ev G 12 y' (.ref (ga G c) :: As) m K) (kk : ∀ v m', K v m' → Lw G b N xs (pc + 3) L (v.toList ++ S) m') : Lw G b N xs pc L st m := by
  intro p e s me below meth c0 H locs ls C hP hS hl
  have C' := C.ct
  obtain ⟨hx, hb, hret, hlk, hml, hown, hts, hK, hN, hZ, hG⟩ := id C'
  have hR : (rmO 12).frames + 1 ≤ room_1.frames ∧ 8 + (y'.2.2.1 + 11) + (rmO 12).locals ≤ room_1.locals := by
    have h21 := ok.2.2.2
    show 12 + 1 ≤ 15 ∧ 8 + (y'.2.2.1 + 11) + 40 * 12 ≤ 568
    omega
  have cw : CallW room_1 s #[Value.ref b] "BellTongueLaw" y'.1.cls idx y'.1 y'.2.1 y'.2.2.1 y'.2.2.2 (wsM y') (rmO 12) 0 0 n := ⟨callB_of n hts (goodM ok) rfl rfl rfl (hts _ ok.1) (hts _ hk) ok.2.2.1 hR, hts _ ok2.1, hts _ ok2.2⟩
  have hr := va_runV (l := gl G) (e := e) (below := below) (meth := meth) (locs := locs) (cells := 600000) (slots := 7302250) (g := F0 me pc ls st) (As := As) (rest := S) (Ts := tblG) ⟨hx, hb, hml, hown, hts⟩ E cw ⟨PcO_blind G _ m, va_recv hK hP hc ((wsO_at hs).trans (by rw [cK_obj (vwCl_lt hc)])), PcO_here C' hP hS _⟩ rfl hn hl.1 hst (lv_room hrm) dg ⟨Nat.le_refl _, Nat.le_refl _⟩
  intro T0 hT X
  obtain ⟨v, st₀, t, T', Lc, h0, X', hL, e1, e2, ⟨v', m', hv, hk', hP', hF⟩, stp⟩ := hr T0 hT X
  cases hv
  obtain ⟨hz, hkk⟩ := hF
  rw [h0] at hz hkk
  obtain ⟨t2, a1, b1⟩ := kk v m' hk' p e s me below meth c0 T'.heap (locs ++ Lc) ls C (by rw [e1]; exact hP')
    ⟨Nat.le_trans hS.1 (by rw [e1]; exact hz), fun q h1 h2 => by rw [e1, hkk q (Nat.lt_of_lt_of_le h1 hS.1) h2]; exact hS.2.1 q h1 h2, fun q hq => by
      rcases List.mem_append.mp hq with h | h
      · exact hS.2.2 q h
      · exact hL q h⟩ hl T' rfl X'
  exact ⟨t2, stp t2 a1, b1⟩
theorem lk_i {G : GP} {b N : Nat} {xs : Nat → Int32} {pc : Nat} {L S : List Value} {K : Int32 → Mem → Prop} (kk : ∀ (r : Int32) (m' : Mem), K r m' → Lw G b N xs pc L (.int r :: S) m') : ∀ (v : Option Value) (m' : Mem), (∃ r : Int32, v = some (.int r) ∧ K r m') → Lw G b N xs pc L (v.toList ++ S) m' := by
  rintro v m' ⟨r, rfl, h⟩
  exact kk r m' h
theorem lk_l {G : GP} {b N : Nat} {xs : Nat → Int32} {pc : Nat} {L S : List Value} {K : Int64 → Mem → Prop} (kk : ∀ (r : Int64) (m' : Mem), K r m' → Lw G b N xs pc L (.long r :: S) m') : ∀ (v : Option Value) (m' : Mem), (∃ r : Int64, v = some (.long r) ∧ K r m') → Lw G b N xs pc L (v.toList ++ S) m' := by
  rintro v m' ⟨r, rfl, h⟩
  exact kk r m' h
theorem ll_13 : Cond.methodLink "BellTongueLaw" 13 yX11_bell ∈ tblG := tblG_mem (List.mem_of_getElem? (i := 558) (by decide +kernel)) (by decide +kernel)
theorem ll_18 : Cond.methodLink "BellTongueLaw" 18 yX11_word ∈ tblG := tblG_mem (List.mem_of_getElem? (i := 569) (by decide +kernel)) (by decide +kernel)
theorem ll_23 : Cond.methodLink "BellTongueLaw" 23 yX11_hands ∈ tblG := tblG_mem (List.mem_of_getElem? (i := 589) (by decide +kernel)) (by decide +kernel)
theorem ll_28 : Cond.methodLink "BellTongueLaw" 28 yX11_feed ∈ tblG := tblG_mem (List.mem_of_getElem? (i := 594) (by decide +kernel)) (by decide +kernel)
theorem ll_33 : Cond.methodLink "BellTongueLaw" 33 yX11_end ∈ tblG := tblG_mem (List.mem_of_getElem? (i := 602) (by decide +kernel)) (by decide +kernel)
theorem ll_38 : Cond.methodLink "BellTongueLaw" 38 yX11_text ∈ tblG := tblG_mem (List.mem_of_getElem? (i := 606) (by decide +kernel)) (by decide +kernel)
theorem ll_43 : Cond.methodLink "BellTongueLaw" 43 yX11_fault ∈ tblG := tblG_mem (List.mem_of_getElem? (i := 841) (by decide +kernel)) (by decide +kernel)
theorem ll_47 : Cond.methodLink "BellTongueLaw" 47 yX11_by ∈ tblG := tblG_mem (List.mem_of_getElem? (i := 845) (by decide +kernel)) (by decide +kernel)
theorem ll_51 : Cond.methodLink "BellTongueLaw" 51 yX11_ring ∈ tblG := tblG_mem (List.mem_of_getElem? (i := 858) (by decide +kernel)) (by decide +kernel)
theorem ll_55 : Cond.methodLink "BellTongueLaw" 55 yX11_speak ∈ tblG := tblG_mem (List.mem_of_getElem? (i := 925) (by decide +kernel)) (by decide +kernel)
theorem ll_59 : Cond.methodLink "BellTongueLaw" 59 yX11_set ∈ tblG := tblG_mem (List.mem_of_getElem? (i := 951) (by decide +kernel)) (by decide +kernel)
theorem ll_64 : Cond.methodLink "BellTongueLaw" 64 yX11_hour ∈ tblG := tblG_mem (List.mem_of_getElem? (i := 955) (by decide +kernel)) (by decide +kernel)
theorem ll_68 : Cond.methodLink "BellTongueLaw" 68 yX11_sunday ∈ tblG := tblG_mem (List.mem_of_getElem? (i := 973) (by decide +kernel)) (by decide +kernel)
theorem ll_72 : Cond.methodLink "BellTongueLaw" 72 yX11_played ∈ tblG := tblG_mem (List.mem_of_getElem? (i := 1029) (by decide +kernel)) (by decide +kernel)
theorem ll_76 : Cond.methodLink "BellTongueLaw" 76 yX11_centuries ∈ tblG := tblG_mem (List.mem_of_getElem? (i := 1050) (by decide +kernel)) (by decide +kernel)
theorem ll_81 : Cond.methodLink "BellTongueLaw" 81 yX11_undo ∈ tblG := tblG_mem (List.mem_of_getElem? (i := 1059) (by decide +kernel)) (by decide +kernel)
theorem ll_85 : Cond.methodLink "BellTongueLaw" 85 yX11_ofBell ∈ tblG := tblG_mem (List.mem_of_getElem? (i := 1067) (by decide +kernel)) (by decide +kernel)
theorem ll_89 : Cond.methodLink "BellTongueLaw" 89 yX11_ofWord ∈ tblG := tblG_mem (List.mem_of_getElem? (i := 1072) (by decide +kernel)) (by decide +kernel)
theorem ll_93 : Cond.methodLink "BellTongueLaw" 93 yX11_is ∈ tblG := tblG_mem (List.mem_of_getElem? (i := 1078) (by decide +kernel)) (by decide +kernel)
theorem ll_97 : Cond.methodLink "BellTongueLaw" 97 yX11_rung ∈ tblG := tblG_mem (List.mem_of_getElem? (i := 1082) (by decide +kernel)) (by decide +kernel)
theorem ll_101 : Cond.methodLink "BellTongueLaw" 101 yX11_heard ∈ tblG := tblG_mem (List.mem_of_getElem? (i := 1086) (by decide +kernel)) (by decide +kernel)
theorem ll_105 : Cond.methodLink "BellTongueLaw" 105 yX11_book ∈ tblG := tblG_mem (List.mem_of_getElem? (i := 1091) (by decide +kernel)) (by decide +kernel)
theorem ll_109 : Cond.methodLink "BellTongueLaw" 109 yX11_readings ∈ tblG := tblG_mem (List.mem_of_getElem? (i := 1095) (by decide +kernel)) (by decide +kernel)
theorem ll_114 : Cond.methodLink "BellTongueLaw" 114 yX11_reading ∈ tblG := tblG_mem (List.mem_of_getElem? (i := 1099) (by decide +kernel)) (by decide +kernel)
theorem ll_119 : Cond.methodLink "BellTongueLaw" 119 yX11_weight ∈ tblG := tblG_mem (List.mem_of_getElem? (i := 1112) (by decide +kernel)) (by decide +kernel)
theorem ll_124 : Cond.methodLink "BellTongueLaw" 124 yX11_meant ∈ tblG := tblG_mem (List.mem_of_getElem? (i := 1116) (by decide +kernel)) (by decide +kernel)
theorem ll_129 : Cond.methodLink "BellTongueLaw" 129 yX11_shortest ∈ tblG := tblG_mem (List.mem_of_getElem? (i := 1133) (by decide +kernel)) (by decide +kernel)
theorem ll_133 : Cond.methodLink "BellTongueLaw" 133 yX11_atWorst ∈ tblG := tblG_mem (List.mem_of_getElem? (i := 1141) (by decide +kernel)) (by decide +kernel)
theorem ll_137 : Cond.methodLink "BellTongueLaw" 137 yX11_away ∈ tblG := tblG_mem (List.mem_of_getElem? (i := 1145) (by decide +kernel)) (by decide +kernel)
theorem ll_141 : Cond.methodLink "BellTongueLaw" 141 yX11_apart ∈ tblG := tblG_mem (List.mem_of_getElem? (i := 1158) (by decide +kernel)) (by decide +kernel)
theorem ll_145 : Cond.methodLink "BellTongueLaw" 145 yX11_nearest ∈ tblG := tblG_mem (List.mem_of_getElem? (i := 1181) (by decide +kernel)) (by decide +kernel)
theorem ll_149 : Cond.methodLink "BellTongueLaw" 149 yX11_hears ∈ tblG := tblG_mem (List.mem_of_getElem? (i := 1186) (by decide +kernel)) (by decide +kernel)
theorem ll_153 : Cond.methodLink "BellTongueLaw" 153 yX11_settles ∈ tblG := tblG_mem (List.mem_of_getElem? (i := 1190) (by decide +kernel)) (by decide +kernel)
theorem ll_157 : Cond.methodLink "BellTongueLaw" 157 yX11_line ∈ tblG := tblG_mem (List.mem_of_getElem? (i := 1206) (by decide +kernel)) (by decide +kernel)
theorem ll_161 : Cond.methodLink "BellTongueLaw" 161 yX11_whose ∈ tblG := tblG_mem (List.mem_of_getElem? (i := 1214) (by decide +kernel)) (by decide +kernel)
theorem ll_165 : Cond.methodLink "BellTongueLaw" 165 yX11_pairs ∈ tblG := tblG_mem (List.mem_of_getElem? (i := 1226) (by decide +kernel)) (by decide +kernel)
theorem ll_169 : Cond.methodLink "BellTongueLaw" 169 yX11_tower ∈ tblG := tblG_mem (List.mem_of_getElem? (i := 1230) (by decide +kernel)) (by decide +kernel)
theorem ll_173 : Cond.methodLink "BellTongueLaw" 173 yX11_lies ∈ tblG := tblG_mem (List.mem_of_getElem? (i := 1238) (by decide +kernel)) (by decide +kernel)
theorem ll_177 : Cond.methodLink "BellTongueLaw" 177 yX11_newBell ∈ tblG := tblG_mem (List.mem_of_getElem? (i := 1256) (by decide +kernel)) (by decide +kernel)
theorem ll_181 : Cond.methodLink "BellTongueLaw" 181 yX11_farthest ∈ tblG := tblG_mem (List.mem_of_getElem? (i := 1267) (by decide +kernel)) (by decide +kernel)
theorem ll_185 : Cond.methodLink "BellTongueLaw" 185 yX11_ropes ∈ tblG := tblG_mem (List.mem_of_getElem? (i := 1272) (by decide +kernel)) (by decide +kernel)
theorem ll_189 : Cond.methodLink "BellTongueLaw" 189 yX11_changes ∈ tblG := tblG_mem (List.mem_of_getElem? (i := 1276) (by decide +kernel)) (by decide +kernel)
theorem ll_194 : Cond.methodLink "BellTongueLaw" 194 yX11_takes ∈ tblG := tblG_mem (List.mem_of_getElem? (i := 1307) (by decide +kernel)) (by decide +kernel)
theorem ll_198 : Cond.methodLink "BellTongueLaw" 198 yX11_image ∈ tblG := tblG_mem (List.mem_of_getElem? (i := 1311) (by decide +kernel)) (by decide +kernel)
theorem ll_202 : Cond.methodLink "BellTongueLaw" 202 yX11_back ∈ tblG := tblG_mem (List.mem_of_getElem? (i := 1334) (by decide +kernel)) (by decide +kernel)
theorem ll_206 : Cond.methodLink "BellTongueLaw" 206 yX11_about ∈ tblG := tblG_mem (List.mem_of_getElem? (i := 1338) (by decide +kernel)) (by decide +kernel)
theorem ll_17 : Cond.methodLink "BellTongueLaw" 17 yX12_bell ∈ tblG := tblG_mem (List.mem_of_getElem? (i := 1459) (by decide +kernel)) (by decide +kernel)
theorem ll_22 : Cond.methodLink "BellTongueLaw" 22 yX12_word ∈ tblG := tblG_mem (List.mem_of_getElem? (i := 1466) (by decide +kernel)) (by decide +kernel)
theorem ll_27 : Cond.methodLink "BellTongueLaw" 27 yX12_hands ∈ tblG := tblG_mem (List.mem_of_getElem? (i := 1478) (by decide +kernel)) (by decide +kernel)
theorem ll_32 : Cond.methodLink "BellTongueLaw" 32 yX12_feed ∈ tblG := tblG_mem (List.mem_of_getElem? (i := 1482) (by decide +kernel)) (by decide +kernel)
theorem ll_37 : Cond.methodLink "BellTongueLaw" 37 yX12_end ∈ tblG := tblG_mem (List.mem_of_getElem? (i := 1490) (by decide +kernel)) (by decide +kernel)
theorem ll_42 : Cond.methodLink "BellTongueLaw" 42 yX12_text ∈ tblG := tblG_mem (List.mem_of_getElem? (i := 1494) (by decide +kernel)) (by decide +kernel)
theorem ll_46 : Cond.methodLink "BellTongueLaw" 46 yX12_fault ∈ tblG := tblG_mem (List.mem_of_getElem? (i := 1646) (by decide +kernel)) (by decide +kernel)
theorem ll_50 : Cond.methodLink "BellTongueLaw" 50 yX12_by ∈ tblG := tblG_mem (List.mem_of_getElem? (i := 1650) (by decide +kernel)) (by decide +kernel)
theorem ll_84 : Cond.methodLink "BellTongueLaw" 84 yX12_undo ∈ tblG := tblG_mem (List.mem_of_getElem? (i := 1654) (by decide +kernel)) (by decide +kernel)
theorem ll_54 : Cond.methodLink "BellTongueLaw" 54 yX12_ring ∈ tblG := tblG_mem (List.mem_of_getElem? (i := 1658) (by decide +kernel)) (by decide +kernel)
theorem ll_58 : Cond.methodLink "BellTongueLaw" 58 yX12_speak ∈ tblG := tblG_mem (List.mem_of_getElem? (i := 1712) (by decide +kernel)) (by decide +kernel)
theorem ll_63 : Cond.methodLink "BellTongueLaw" 63 yX12_set ∈ tblG := tblG_mem (List.mem_of_getElem? (i := 1740) (by decide +kernel)) (by decide +kernel)
theorem ll_67 : Cond.methodLink "BellTongueLaw" 67 yX12_hour ∈ tblG := tblG_mem (List.mem_of_getElem? (i := 1744) (by decide +kernel)) (by decide +kernel)
theorem ll_71 : Cond.methodLink "BellTongueLaw" 71 yX12_sunday ∈ tblG := tblG_mem (List.mem_of_getElem? (i := 1767) (by decide +kernel)) (by decide +kernel)
theorem ll_75 : Cond.methodLink "BellTongueLaw" 75 yX12_played ∈ tblG := tblG_mem (List.mem_of_getElem? (i := 1815) (by decide +kernel)) (by decide +kernel)
theorem ll_80 : Cond.methodLink "BellTongueLaw" 80 yX12_centuries ∈ tblG := tblG_mem (List.mem_of_getElem? (i := 1829) (by decide +kernel)) (by decide +kernel)
theorem ll_88 : Cond.methodLink "BellTongueLaw" 88 yX12_ofBell ∈ tblG := tblG_mem (List.mem_of_getElem? (i := 1837) (by decide +kernel)) (by decide +kernel)
theorem ll_92 : Cond.methodLink "BellTongueLaw" 92 yX12_ofWord ∈ tblG := tblG_mem (List.mem_of_getElem? (i := 1841) (by decide +kernel)) (by decide +kernel)
theorem ll_96 : Cond.methodLink "BellTongueLaw" 96 yX12_is ∈ tblG := tblG_mem (List.mem_of_getElem? (i := 1845) (by decide +kernel)) (by decide +kernel)
theorem ll_100 : Cond.methodLink "BellTongueLaw" 100 yX12_rung ∈ tblG := tblG_mem (List.mem_of_getElem? (i := 1849) (by decide +kernel)) (by decide +kernel)
theorem ll_104 : Cond.methodLink "BellTongueLaw" 104 yX12_heard ∈ tblG := tblG_mem (List.mem_of_getElem? (i := 1853) (by decide +kernel)) (by decide +kernel)
theorem ll_108 : Cond.methodLink "BellTongueLaw" 108 yX12_book ∈ tblG := tblG_mem (List.mem_of_getElem? (i := 1857) (by decide +kernel)) (by decide +kernel)
theorem ll_113 : Cond.methodLink "BellTongueLaw" 113 yX12_readings ∈ tblG := tblG_mem (List.mem_of_getElem? (i := 1865) (by decide +kernel)) (by decide +kernel)
theorem ll_118 : Cond.methodLink "BellTongueLaw" 118 yX12_reading ∈ tblG := tblG_mem (List.mem_of_getElem? (i := 1866) (by decide +kernel)) (by decide +kernel)
theorem ll_123 : Cond.methodLink "BellTongueLaw" 123 yX12_weight ∈ tblG := tblG_mem (List.mem_of_getElem? (i := 1870) (by decide +kernel)) (by decide +kernel)
theorem ll_128 : Cond.methodLink "BellTongueLaw" 128 yX12_meant ∈ tblG := tblG_mem (List.mem_of_getElem? (i := 1874) (by decide +kernel)) (by decide +kernel)
theorem ll_132 : Cond.methodLink "BellTongueLaw" 132 yX12_shortest ∈ tblG := tblG_mem (List.mem_of_getElem? (i := 1891) (by decide +kernel)) (by decide +kernel)
theorem ll_136 : Cond.methodLink "BellTongueLaw" 136 yX12_atWorst ∈ tblG := tblG_mem (List.mem_of_getElem? (i := 1899) (by decide +kernel)) (by decide +kernel)
theorem ll_140 : Cond.methodLink "BellTongueLaw" 140 yX12_away ∈ tblG := tblG_mem (List.mem_of_getElem? (i := 1903) (by decide +kernel)) (by decide +kernel)
theorem ll_144 : Cond.methodLink "BellTongueLaw" 144 yX12_apart ∈ tblG := tblG_mem (List.mem_of_getElem? (i := 1915) (by decide +kernel)) (by decide +kernel)
theorem ll_148 : Cond.methodLink "BellTongueLaw" 148 yX12_nearest ∈ tblG := tblG_mem (List.mem_of_getElem? (i := 1923) (by decide +kernel)) (by decide +kernel)
theorem ll_152 : Cond.methodLink "BellTongueLaw" 152 yX12_hears ∈ tblG := tblG_mem (List.mem_of_getElem? (i := 1928) (by decide +kernel)) (by decide +kernel)
theorem ll_156 : Cond.methodLink "BellTongueLaw" 156 yX12_settles ∈ tblG := tblG_mem (List.mem_of_getElem? (i := 1932) (by decide +kernel)) (by decide +kernel)
theorem ll_160 : Cond.methodLink "BellTongueLaw" 160 yX12_line ∈ tblG := tblG_mem (List.mem_of_getElem? (i := 1936) (by decide +kernel)) (by decide +kernel)
theorem ll_164 : Cond.methodLink "BellTongueLaw" 164 yX12_whose ∈ tblG := tblG_mem (List.mem_of_getElem? (i := 1940) (by decide +kernel)) (by decide +kernel)
theorem ll_168 : Cond.methodLink "BellTongueLaw" 168 yX12_pairs ∈ tblG := tblG_mem (List.mem_of_getElem? (i := 1944) (by decide +kernel)) (by decide +kernel)
theorem ll_172 : Cond.methodLink "BellTongueLaw" 172 yX12_tower ∈ tblG := tblG_mem (List.mem_of_getElem? (i := 1948) (by decide +kernel)) (by decide +kernel)
theorem ll_176 : Cond.methodLink "BellTongueLaw" 176 yX12_lies ∈ tblG := tblG_mem (List.mem_of_getElem? (i := 1952) (by decide +kernel)) (by decide +kernel)
theorem ll_180 : Cond.methodLink "BellTongueLaw" 180 yX12_newBell ∈ tblG := tblG_mem (List.mem_of_getElem? (i := 1960) (by decide +kernel)) (by decide +kernel)
theorem ll_184 : Cond.methodLink "BellTongueLaw" 184 yX12_farthest ∈ tblG := tblG_mem (List.mem_of_getElem? (i := 1968) (by decide +kernel)) (by decide +kernel)
theorem ll_188 : Cond.methodLink "BellTongueLaw" 188 yX12_ropes ∈ tblG := tblG_mem (List.mem_of_getElem? (i := 1972) (by decide +kernel)) (by decide +kernel)
theorem ll_193 : Cond.methodLink "BellTongueLaw" 193 yX12_changes ∈ tblG := tblG_mem (List.mem_of_getElem? (i := 1976) (by decide +kernel)) (by decide +kernel)
theorem ll_197 : Cond.methodLink "BellTongueLaw" 197 yX12_takes ∈ tblG := tblG_mem (List.mem_of_getElem? (i := 2000) (by decide +kernel)) (by decide +kernel)
theorem ll_201 : Cond.methodLink "BellTongueLaw" 201 yX12_image ∈ tblG := tblG_mem (List.mem_of_getElem? (i := 2004) (by decide +kernel)) (by decide +kernel)
theorem ll_205 : Cond.methodLink "BellTongueLaw" 205 yX12_back ∈ tblG := tblG_mem (List.mem_of_getElem? (i := 2008) (by decide +kernel)) (by decide +kernel)
theorem ll_209 : Cond.methodLink "BellTongueLaw" 209 yX12_about ∈ tblG := tblG_mem (List.mem_of_getElem? (i := 2012) (by decide +kernel)) (by decide +kernel)
