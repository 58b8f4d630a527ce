/-! WHAT HOLDS BETWEEN CALLS. The model's row of ints (a) is the picture; the class holds the same, in its own cells. -/
def WFs (a : Nat → Int32) (nb p0 p1 p2 : Nat) : Prop :=
  (bd (a p0) 0 9) ∧
  (bd (a (p0 + 1)) 0 9) ∧
  (bd (a (p0 + 2)) 0 9999) ∧
  (bd (a p1) 0 30340) ∧
  (bd (a (p1 + 1)) 0 30000) ∧
  (bd (a (p1 + 2)) 0 24) ∧
  (∀ k, k < tn (a (p1 + 2)) → ∃ v, a (p2 + k) = nI v ∧ (v < nb ∨ (10 ≤ v ∧ v < 10 + nb)))
theorem WFs.wind {a : Nat → Int32} {nb p0 p1 p2 : Nat} (h : WFs a nb p0 p1 p2) : bd (a p0) 0 9 := h.1
theorem WFs.frost {a : Nat → Int32} {nb p0 p1 p2 : Nat} (h : WFs a nb p0 p1 p2) : bd (a (p0 + 1)) 0 9 := h.2.1
theorem WFs.hour {a : Nat → Int32} {nb p0 p1 p2 : Nat} (h : WFs a nb p0 p1 p2) : bd (a (p0 + 2)) 0 9999 := h.2.2.1
theorem WFs.x {a : Nat → Int32} {nb p0 p1 p2 : Nat} (h : WFs a nb p0 p1 p2) : bd (a p1) 0 30340 := h.2.2.2.1
theorem WFs.wr {a : Nat → Int32} {nb p0 p1 p2 : Nat} (h : WFs a nb p0 p1 p2) : bd (a (p1 + 1)) 0 30000 := h.2.2.2.2.1
theorem WFs.nr {a : Nat → Int32} {nb p0 p1 p2 : Nat} (h : WFs a nb p0 p1 p2) : bd (a (p1 + 2)) 0 24 := h.2.2.2.2.2.1
theorem WFs.row {a : Nat → Int32} {nb p0 p1 p2 : Nat} (h : WFs a nb p0 p1 p2) : ∀ k, k < tn (a (p1 + 2)) → ∃ v, a (p2 + k) = nI v ∧ (v < nb ∨ (10 ≤ v ∧ v < 10 + nb)) := h.2.2.2.2.2.2
def WF (a : Nat → Int32) : Prop :=
  (bd (a 0) 0 6) ∧
  (bd (a 1) 0 10) ∧
  (bd (a 2) 0 4) ∧
  (a 3 = -1 ∨ ∃ t, t < tn (a 2) ∧ a 3 = nI t) ∧
  (bd (a 4) 0 30) ∧
  (bd (a 5) 0 8) ∧
  (∀ t, t < 2 → bd (a (6 + t)) 0 12) ∧
  (bd (a 11) 0 99) ∧
  (∀ b, b < tn (a 0) → bd (a (16 + 3 * b)) 1 9) ∧
  (∀ b, b < tn (a 0) → bd (a (17 + 3 * b)) 0 9) ∧
  (∀ b, b < tn (a 0) → bd (a (18 + 3 * b)) 1 9) ∧
  (∀ w, w < tn (a 1) → bd (a (34 + 9 * w)) 0 3) ∧
  (∀ w, w < tn (a 1) → bd (a (35 + 9 * w)) 0 99) ∧
  (∀ w, w < tn (a 1) → bd (a (36 + 9 * w)) 1 4) ∧
  (∀ w k, w < tn (a 1) → k < tn (a (36 + 9 * w)) → ∃ b, b < tn (a 0) ∧ a (37 + 9 * w + k) = nI b) ∧
  (∀ w k, w < tn (a 1) → tn (a (36 + 9 * w)) ≤ k → k < 4 → a (37 + 9 * w + k) = -1) ∧
  (∀ w, w < tn (a 1) → bd (a (41 + 9 * w)) 0 99) ∧
  (∀ w, w < tn (a 1) → ∃ v, v < tn (a 1) ∧ a (42 + 9 * w) = nI v) ∧
  (∀ k, k < tn (a 5) → ∃ v, v < tn (a 1) ∧ a (124 + 2 * k) = nI v) ∧
  (∀ k, k < tn (a 5) → ∃ v, v < tn (a 1) ∧ a (125 + 2 * k) = nI v) ∧
  (∀ t k, t < 2 → k < tn (a (6 + t)) → ∃ b, b < tn (a 0) ∧ a (140 + 12 * t + k) = nI b) ∧
  (WFs a (tn (a 0)) 8 12 164) ∧
  (∀ i, i < tn (a 4) → WFs a (tn (a 0)) (188 + 30 * i) (191 + 30 * i) (194 + 30 * i)) ∧
  (∀ i, i + 1 < tn (a 4) → tn (a (192 + 30 * i)) ≤ tn (a (222 + 30 * i)) ∧ tn (a (222 + 30 * i)) ≤ tn (a (192 + 30 * i)) + 40) ∧
  (∀ i, i + 1 = tn (a 4) → tn (a (192 + 30 * i)) ≤ tn (a 13) ∧ tn (a 13) ≤ tn (a (192 + 30 * i)) + 40)
theorem WF.nb {a : Nat → Int32} (h : WF a) : bd (a 0) 0 6 := h.1
theorem WF.nw {a : Nat → Int32} (h : WF a) : bd (a 1) 0 10 := h.2.1
theorem WF.nt {a : Nat → Int32} (h : WF a) : bd (a 2) 0 4 := h.2.2.1
theorem WF.ru {a : Nat → Int32} (h : WF a) : a 3 = -1 ∨ ∃ t, t < tn (a 2) ∧ a 3 = nI t := h.2.2.2.1
theorem WF.ns {a : Nat → Int32} (h : WF a) : bd (a 4) 0 30 := h.2.2.2.2.1
theorem WF.nl {a : Nat → Int32} (h : WF a) : bd (a 5) 0 8 := h.2.2.2.2.2.1
theorem WF.tl {a : Nat → Int32} (h : WF a) : ∀ t, t < 2 → bd (a (6 + t)) 0 12 := h.2.2.2.2.2.2.1
theorem WF.hd {a : Nat → Int32} (h : WF a) : bd (a 11) 0 99 := h.2.2.2.2.2.2.2.1
theorem WF.loud {a : Nat → Int32} (h : WF a) : ∀ b, b < tn (a 0) → bd (a (16 + 3 * b)) 1 9 := h.2.2.2.2.2.2.2.2.1
theorem WF.pitch {a : Nat → Int32} (h : WF a) : ∀ b, b < tn (a 0) → bd (a (17 + 3 * b)) 0 9 := h.2.2.2.2.2.2.2.2.2.1
theorem WF.men {a : Nat → Int32} (h : WF a) : ∀ b, b < tn (a 0) → bd (a (18 + 3 * b)) 1 9 := h.2.2.2.2.2.2.2.2.2.2.1
theorem WF.kind {a : Nat → Int32} (h : WF a) : ∀ w, w < tn (a 1) → bd (a (34 + 9 * w)) 0 3 := h.2.2.2.2.2.2.2.2.2.2.2.1
theorem WF.means {a : Nat → Int32} (h : WF a) : ∀ w, w < tn (a 1) → bd (a (35 + 9 * w)) 0 99 := h.2.2.2.2.2.2.2.2.2.2.2.2.1
theorem WF.len {a : Nat → Int32} (h : WF a) : ∀ w, w < tn (a 1) → bd (a (36 + 9 * w)) 1 4 := h.2.2.2.2.2.2.2.2.2.2.2.2.2.1
theorem WF.str {a : Nat → Int32} (h : WF a) : ∀ w k, w < tn (a 1) → k < tn (a (36 + 9 * w)) → ∃ b, b < tn (a 0) ∧ a (37 + 9 * w + k) = nI b := h.2.2.2.2.2.2.2.2.2.2.2.2.2.2.1
theorem WF.non {a : Nat → Int32} (h : WF a) : ∀ w k, w < tn (a 1) → tn (a (36 + 9 * w)) ≤ k → k < 4 → a (37 + 9 * w + k) = -1 := h.2.2.2.2.2.2.2.2.2.2.2.2.2.2.2.1
theorem WF.wei {a : Nat → Int32} (h : WF a) : ∀ w, w < tn (a 1) → bd (a (41 + 9 * w)) 0 99 := h.2.2.2.2.2.2.2.2.2.2.2.2.2.2.2.2.1
theorem WF.has {a : Nat → Int32} (h : WF a) : ∀ w, w < tn (a 1) → ∃ v, v < tn (a 1) ∧ a (42 + 9 * w) = nI v := h.2.2.2.2.2.2.2.2.2.2.2.2.2.2.2.2.2.1
theorem WF.li0 {a : Nat → Int32} (h : WF a) : ∀ k, k < tn (a 5) → ∃ v, v < tn (a 1) ∧ a (124 + 2 * k) = nI v := h.2.2.2.2.2.2.2.2.2.2.2.2.2.2.2.2.2.2.1
theorem WF.li1 {a : Nat → Int32} (h : WF a) : ∀ k, k < tn (a 5) → ∃ v, v < tn (a 1) ∧ a (125 + 2 * k) = nI v := h.2.2.2.2.2.2.2.2.2.2.2.2.2.2.2.2.2.2.2.1
theorem WF.tow {a : Nat → Int32} (h : WF a) : ∀ t k, t < 2 → k < tn (a (6 + t)) → ∃ b, b < tn (a 0) ∧ a (140 + 12 * t + k) = nI b := h.2.2.2.2.2.2.2.2.2.2.2.2.2.2.2.2.2.2.2.2.1
theorem WF.now {a : Nat → Int32} (h : WF a) : WFs a (tn (a 0)) 8 12 164 := h.2.2.2.2.2.2.2.2.2.2.2.2.2.2.2.2.2.2.2.2.2.1
theorem WF.sp {a : Nat → Int32} (h : WF a) : ∀ i, i < tn (a 4) → WFs a (tn (a 0)) (188 + 30 * i) (191 + 30 * i) (194 + 30 * i) := h.2.2.2.2.2.2.2.2.2.2.2.2.2.2.2.2.2.2.2.2.2.2.1
theorem WF.w1 {a : Nat → Int32} (h : WF a) : ∀ i, i + 1 < tn (a 4) → tn (a (192 + 30 * i)) ≤ tn (a (222 + 30 * i)) ∧ tn (a (222 + 30 * i)) ≤ tn (a (192 + 30 * i)) + 40 := h.2.2.2.2.2.2.2.2.2.2.2.2.2.2.2.2.2.2.2.2.2.2.2.1
theorem WF.w2 {a : Nat → Int32} (h : WF a) : ∀ i, i + 1 = tn (a 4) → tn (a (192 + 30 * i)) ≤ tn (a 13) ∧ tn (a 13) ≤ tn (a (192 + 30 * i)) + 40 := h.2.2.2.2.2.2.2.2.2.2.2.2.2.2.2.2.2.2.2.2.2.2.2.2
def RS (f : Nat → Nat → Int32) (c : Nat) (a : Nat → Int32) (p0 p1 p2 : Nat) : Prop :=
  (f c 0 = a p0) ∧
  (f c 1 = a (p0 + 1)) ∧
  (f c 2 = a (p0 + 2)) ∧
  (f c 3 = a p1) ∧
  (f c 4 = a (p1 + 2)) ∧
  (∀ k, k < tn (a (p1 + 2)) → f (c + 1) k = a (p2 + k)) ∧
  (f c 6 = nI (min (tn (a (p1 + 1))) 20)) ∧
  (∀ i j, i < min (tn (a (p1 + 1))) 20 → j < 4 → f (c + 2) (4 * i + j) = a (1088 + 4 * ((tn (a (p1 + 1)) - min (tn (a (p1 + 1))) 20 + i) % 1220) + j))
theorem RS.wind {f : Nat → Nat → Int32} {c : Nat} {a : Nat → Int32} {p0 p1 p2 : Nat} (h : RS f c a p0 p1 p2) : f c 0 = a p0 := h.1
theorem RS.frost {f : Nat → Nat → Int32} {c : Nat} {a : Nat → Int32} {p0 p1 p2 : Nat} (h : RS f c a p0 p1 p2) : f c 1 = a (p0 + 1) := h.2.1
theorem RS.hour {f : Nat → Nat → Int32} {c : Nat} {a : Nat → Int32} {p0 p1 p2 : Nat} (h : RS f c a p0 p1 p2) : f c 2 = a (p0 + 2) := h.2.2.1
theorem RS.x {f : Nat → Nat → Int32} {c : Nat} {a : Nat → Int32} {p0 p1 p2 : Nat} (h : RS f c a p0 p1 p2) : f c 3 = a p1 := h.2.2.2.1
theorem RS.nr {f : Nat → Nat → Int32} {c : Nat} {a : Nat → Int32} {p0 p1 p2 : Nat} (h : RS f c a p0 p1 p2) : f c 4 = a (p1 + 2) := h.2.2.2.2.1
theorem RS.row {f : Nat → Nat → Int32} {c : Nat} {a : Nat → Int32} {p0 p1 p2 : Nat} (h : RS f c a p0 p1 p2) : ∀ k, k < tn (a (p1 + 2)) → f (c + 1) k = a (p2 + k) := h.2.2.2.2.2.1
theorem RS.sun {f : Nat → Nat → Int32} {c : Nat} {a : Nat → Int32} {p0 p1 p2 : Nat} (h : RS f c a p0 p1 p2) : f c 6 = nI (min (tn (a (p1 + 1))) 20) := h.2.2.2.2.2.2.1
theorem RS.pag {f : Nat → Nat → Int32} {c : Nat} {a : Nat → Int32} {p0 p1 p2 : Nat} (h : RS f c a p0 p1 p2) : ∀ i j, i < min (tn (a (p1 + 1))) 20 → j < 4 → f (c + 2) (4 * i + j) = a (1088 + 4 * ((tn (a (p1 + 1)) - min (tn (a (p1 + 1))) 20 + i) % 1220) + j) := h.2.2.2.2.2.2.2
def RC (f : Nat → Nat → Int32) (o : Nat) (a : Nat → Int32) : Prop :=
  (f (2 + o) 0 = a 0) ∧
  (f (2 + o) 4 = a 1) ∧
  (∀ b, b < tn (a 0) → f (3 + o) b = a (16 + 3 * b)) ∧
  (∀ b, b < tn (a 0) → f (4 + o) b = a (17 + 3 * b)) ∧
  (∀ b, b < tn (a 0) → f (5 + o) b = a (18 + 3 * b)) ∧
  (∀ w, w < tn (a 1) → f (8 + o) w = a (34 + 9 * w)) ∧
  (∀ w, w < tn (a 1) → f (9 + o) w = a (35 + 9 * w)) ∧
  (∀ w, w < tn (a 1) → f (7 + o) w = a (36 + 9 * w)) ∧
  (∀ w k, w < tn (a 1) → k < 4 → f (6 + o) (4 * w + k) = a (37 + 9 * w + k)) ∧
  (∀ w, w < tn (a 1) → f (108 + o) w = a (41 + 9 * w)) ∧
  (∀ w, w < tn (a 1) → f (109 + o) w = a (42 + 9 * w)) ∧
  (f (107 + o) 2 = a 5) ∧
  (∀ k, k < tn (a 5) → f (110 + o) k = a (124 + 2 * k)) ∧
  (∀ k, k < tn (a 5) → f (111 + o) k = a (125 + 2 * k)) ∧
  (∀ t, t < 2 → f (112 + o) t = a (6 + t)) ∧
  (∀ t k, t < 2 → k < tn (a (6 + t)) → f (113 + o) (12 * t + k) = a (140 + 12 * t + k)) ∧
  (f (1 + o) 4 = a 11) ∧
  (f (1 + o) 5 = a 2) ∧
  (f (1 + o) 6 = a 3) ∧
  (RS f (12 + o) a 8 12 164) ∧
  (f (15 + o) 0 = a 4) ∧
  (∀ i, i < 30 → bd (f (17 + o + 3 * i) 4) 0 24 ∧ bd (f (17 + o + 3 * i) 6) 0 20) ∧
  (∃ e, e < 30 ∧ f (15 + o) 1 = nI e ∧ ∀ i, i < tn (a 4) → RS f (17 + o + 3 * ((e + i) % 30)) a (188 + 30 * i) (191 + 30 * i) (194 + 30 * i))
theorem RC.nb {f : Nat → Nat → Int32} {o : Nat} {a : Nat → Int32} (h : RC f o a) : f (2 + o) 0 = a 0 := h.1
theorem RC.nw {f : Nat → Nat → Int32} {o : Nat} {a : Nat → Int32} (h : RC f o a) : f (2 + o) 4 = a 1 := h.2.1
theorem RC.loud {f : Nat → Nat → Int32} {o : Nat} {a : Nat → Int32} (h : RC f o a) : ∀ b, b < tn (a 0) → f (3 + o) b = a (16 + 3 * b) := h.2.2.1
theorem RC.pitch {f : Nat → Nat → Int32} {o : Nat} {a : Nat → Int32} (h : RC f o a) : ∀ b, b < tn (a 0) → f (4 + o) b = a (17 + 3 * b) := h.2.2.2.1
theorem RC.men {f : Nat → Nat → Int32} {o : Nat} {a : Nat → Int32} (h : RC f o a) : ∀ b, b < tn (a 0) → f (5 + o) b = a (18 + 3 * b) := h.2.2.2.2.1
theorem RC.kind {f : Nat → Nat → Int32} {o : Nat} {a : Nat → Int32} (h : RC f o a) : ∀ w, w < tn (a 1) → f (8 + o) w = a (34 + 9 * w) := h.2.2.2.2.2.1
theorem RC.means {f : Nat → Nat → Int32} {o : Nat} {a : Nat → Int32} (h : RC f o a) : ∀ w, w < tn (a 1) → f (9 + o) w = a (35 + 9 * w) := h.2.2.2.2.2.2.1
theorem RC.len {f : Nat → Nat → Int32} {o : Nat} {a : Nat → Int32} (h : RC f o a) : ∀ w, w < tn (a 1) → f (7 + o) w = a (36 + 9 * w) := h.2.2.2.2.2.2.2.1
theorem RC.str {f : Nat → Nat → Int32} {o : Nat} {a : Nat → Int32} (h : RC f o a) : ∀ w k, w < tn (a 1) → k < 4 → f (6 + o) (4 * w + k) = a (37 + 9 * w + k) := h.2.2.2.2.2.2.2.2.1
theorem RC.wei {f : Nat → Nat → Int32} {o : Nat} {a : Nat → Int32} (h : RC f o a) : ∀ w, w < tn (a 1) → f (108 + o) w = a (41 + 9 * w) := h.2.2.2.2.2.2.2.2.2.1
theorem RC.has {f : Nat → Nat → Int32} {o : Nat} {a : Nat → Int32} (h : RC f o a) : ∀ w, w < tn (a 1) → f (109 + o) w = a (42 + 9 * w) := h.2.2.2.2.2.2.2.2.2.2.1
theorem RC.nl {f : Nat → Nat → Int32} {o : Nat} {a : Nat → Int32} (h : RC f o a) : f (107 + o) 2 = a 5 := h.2.2.2.2.2.2.2.2.2.2.2.1
theorem RC.li0 {f : Nat → Nat → Int32} {o : Nat} {a : Nat → Int32} (h : RC f o a) : ∀ k, k < tn (a 5) → f (110 + o) k = a (124 + 2 * k) := h.2.2.2.2.2.2.2.2.2.2.2.2.1
theorem RC.li1 {f : Nat → Nat → Int32} {o : Nat} {a : Nat → Int32} (h : RC f o a) : ∀ k, k < tn (a 5) → f (111 + o) k = a (125 + 2 * k) := h.2.2.2.2.2.2.2.2.2.2.2.2.2.1
theorem RC.tl {f : Nat → Nat → Int32} {o : Nat} {a : Nat → Int32} (h : RC f o a) : ∀ t, t < 2 → f (112 + o) t = a (6 + t) := h.2.2.2.2.2.2.2.2.2.2.2.2.2.2.1
theorem RC.tow {f : Nat → Nat → Int32} {o : Nat} {a : Nat → Int32} (h : RC f o a) : ∀ t k, t < 2 → k < tn (a (6 + t)) → f (113 + o) (12 * t + k) = a (140 + 12 * t + k) := h.2.2.2.2.2.2.2.2.2.2.2.2.2.2.2.1
theorem RC.hd {f : Nat → Nat → Int32} {o : Nat} {a : Nat → Int32} (h : RC f o a) : f (1 + o) 4 = a 11 := h.2.2.2.2.2.2.2.2.2.2.2.2.2.2.2.2.1
theorem RC.nt {f : Nat → Nat → Int32} {o : Nat} {a : Nat → Int32} (h : RC f o a) : f (1 + o) 5 = a 2 := h.2.2.2.2.2.2.2.2.2.2.2.2.2.2.2.2.2.1
theorem RC.ru {f : Nat → Nat → Int32} {o : Nat} {a : Nat → Int32} (h : RC f o a) : f (1 + o) 6 = a 3 := h.2.2.2.2.2.2.2.2.2.2.2.2.2.2.2.2.2.2.1
theorem RC.now {f : Nat → Nat → Int32} {o : Nat} {a : Nat → Int32} (h : RC f o a) : RS f (12 + o) a 8 12 164 := h.2.2.2.2.2.2.2.2.2.2.2.2.2.2.2.2.2.2.2.1
theorem RC.ns {f : Nat → Nat → Int32} {o : Nat} {a : Nat → Int32} (h : RC f o a) : f (15 + o) 0 = a 4 := h.2.2.2.2.2.2.2.2.2.2.2.2.2.2.2.2.2.2.2.2.1
theorem RC.al {f : Nat → Nat → Int32} {o : Nat} {a : Nat → Int32} (h : RC f o a) : ∀ i, i < 30 → bd (f (17 + o + 3 * i) 4) 0 24 ∧ bd (f (17 + o + 3 * i) 6) 0 20 := h.2.2.2.2.2.2.2.2.2.2.2.2.2.2.2.2.2.2.2.2.2.1
theorem RC.sp {f : Nat → Nat → Int32} {o : Nat} {a : Nat → Int32} (h : RC f o a) : ∃ e, e < 30 ∧ f (15 + o) 1 = nI e ∧ ∀ i, i < tn (a 4) → RS f (17 + o + 3 * ((e + i) % 30)) a (188 + 30 * i) (191 + 30 * i) (194 + 30 * i) := h.2.2.2.2.2.2.2.2.2.2.2.2.2.2.2.2.2.2.2.2.2.2
def TP (f : Nat → Nat → Int32) : Prop :=
  (f 228 0 = f 273 5) ∧
  (bd (f 273 5) 0 300) ∧
  (∀ k, k < tn (f 273 5) → ∃ v, v < 256 ∧ f 278 k = nI v ∧ f 229 k = (nI v).toInt8.toInt32)
theorem TP.len {f : Nat → Nat → Int32} (h : TP f) : f 228 0 = f 273 5 := h.1
theorem TP.bd {f : Nat → Nat → Int32} (h : TP f) : bd (f 273 5) 0 300 := h.2.1
theorem TP.byt {f : Nat → Nat → Int32} (h : TP f) : ∀ k, k < tn (f 273 5) → ∃ v, v < 256 ∧ f 278 k = nI v ∧ f 229 k = (nI v).toInt8.toInt32 := h.2.2
def FA (f : Nat → Nat → Int32) : Prop :=
  (f 233 0 = f 273 6) ∧
  (f 233 1 = f 273 7)
theorem FA.fault {f : Nat → Nat → Int32} (h : FA f) : f 233 0 = f 273 6 := h.1
theorem FA.place {f : Nat → Nat → Int32} (h : FA f) : f 233 1 = f 273 7 := h.2
/-- the parts of the invariant that speak of TEXTS and of what was found of the grammar are given below (TX); here any -/
def Inv (TX : (Nat → Nat → Int32) → Prop) (n : Nat) (f : Nat → Nat → Int32) : Prop := WF (f 274) ∧ WF (f 275) ∧ RC f 0 (f 274) ∧ RC f 113 (f 275) ∧ TP f ∧ FA f ∧ TX f ∧ tn (f 274 13) ≤ 40 * n ∧ tn (f 275 13) ≤ 40 * n
-- ===== frames =====
theorem RS.fr {f g : Nat → Nat → Int32} {c : Nat} {a : Nat → Int32} {p0 p1 p2 : Nat} (h : RS f c a p0 p1 p2) (h0 : g c = f c) (h1 : g (c + 1) = f (c + 1)) (h2 : g (c + 2) = f (c + 2)) : RS g c a p0 p1 p2 := by
  unfold RS at h ⊢
  rw [h0, h1, h2]
  exact h
theorem RC.fr {f g : Nat → Nat → Int32} {o : Nat} {a : Nat → Int32} (h : RC f o a) (hg : ∀ c, 1 + o ≤ c → c ≤ 113 + o → c ≠ 10 + o → c ≠ 11 + o → g c = f c) : RC g o a := by
  obtain ⟨e, he, h1, h2⟩ := h.sp
  refine ⟨?_, ?_, ?_, ?_, ?_, ?_, ?_, ?_, ?_, ?_, ?_, ?_, ?_, ?_, ?_, ?_, ?_, ?_, ?_, h.now.fr ?_ ?_ ?_, ?_, ?_, e, he, ?_, fun i hi => (h2 i hi).fr ?_ ?_ ?_⟩
  · rw [hg _ (by omega) (by omega) (by omega) (by omega)]; exact h.nb
  · rw [hg _ (by omega) (by omega) (by omega) (by omega)]; exact h.nw
  · rw [hg _ (by omega) (by omega) (by omega) (by omega)]; exact h.loud
  · rw [hg _ (by omega) (by omega) (by omega) (by omega)]; exact h.pitch
  · rw [hg _ (by omega) (by omega) (by omega) (by omega)]; exact h.men
  · rw [hg _ (by omega) (by omega) (by omega) (by omega)]; exact h.kind
  · rw [hg _ (by omega) (by omega) (by omega) (by omega)]; exact h.means
  · rw [hg _ (by omega) (by omega) (by omega) (by omega)]; exact h.len
  · rw [hg _ (by omega) (by omega) (by omega) (by omega)]; exact h.str
  · rw [hg _ (by omega) (by omega) (by omega) (by omega)]; exact h.wei
  · rw [hg _ (by omega) (by omega) (by omega) (by omega)]; exact h.has
  · rw [hg _ (by omega) (by omega) (by omega) (by omega)]; exact h.nl
  · rw [hg _ (by omega) (by omega) (by omega) (by omega)]; exact h.li0
  · rw [hg _ (by omega) (by omega) (by omega) (by omega)]; exact h.li1
  · rw [hg _ (by omega) (by omega) (by omega) (by omega)]; exact h.tl
  · rw [hg _ (by omega) (by omega) (by omega) (by omega)]; exact h.tow
  · rw [hg _ (by omega) (by omega) (by omega) (by omega)]; exact h.hd
  · rw [hg _ (by omega) (by omega) (by omega) (by omega)]; exact h.nt
  · rw [hg _ (by omega) (by omega) (by omega) (by omega)]; exact h.ru
  · rw [hg _ (by omega) (by omega) (by omega) (by omega)]
  · rw [hg _ (by omega) (by omega) (by omega) (by omega)]
  · rw [hg _ (by omega) (by omega) (by omega) (by omega)]
  · rw [hg _ (by omega) (by omega) (by omega) (by omega)]; exact h.ns
  · intro i hi
    rw [hg _ (by omega) (by omega) (by omega) (by omega)]; exact h.al i hi
  · rw [hg _ (by omega) (by omega) (by omega) (by omega)]; exact h1
  · rw [hg _ (by omega) (by omega) (by omega) (by omega)]
  · rw [hg _ (by omega) (by omega) (by omega) (by omega)]
  · rw [hg _ (by omega) (by omega) (by omega) (by omega)]
