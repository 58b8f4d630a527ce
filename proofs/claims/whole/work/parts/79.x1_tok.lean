/-! TOKENS, said of the bytes alone -/
def srt (c : Nat) : Nat := if c = 32 ∨ c = 10 then 0 else if 48 ≤ c ∧ c ≤ 57 then 1 else if (97 ≤ c ∧ c ≤ 122) ∨ (65 ≤ c ∧ c ≤ 90) then 2 else 3
def rnEF (b : Nat → Nat) (s : Nat) : Nat → Nat → Nat
  | 0, k => k
  | f + 1, k => if srt (b k) = s then rnEF b s f (k + 1) else k
def rnE (b : Nat → Nat) (s k : Nat) : Nat := rnEF b s (301 - k) k
theorem rnE_s {b : Nat → Nat} {s k : Nat} (hk : k ≤ 300) (h : srt (b k) = s) : rnE b s k = rnE b s (k + 1) := by
  unfold rnE
  obtain ⟨f, hf⟩ : ∃ f, 301 - k = f + 1 := ⟨300 - k, by omega⟩
  rw [hf, show 301 - (k + 1) = f from by omega]
  exact if_pos h
theorem rnE_n {b : Nat → Nat} {s k : Nat} (h : ¬ srt (b k) = s) : rnE b s k = k := by
  unfold rnE
  cases hf : 301 - k with
  | zero => rfl
  | succ f => exact if_neg h
def BT (b : Nat → Nat) (n : Nat) : Prop := n ≤ 300 ∧ (∀ k, n ≤ k → b k = 256) ∧ ∀ k, k < n → b k < 256
theorem srt_lt (c : Nat) : srt c ≤ 3 := by unfold srt; repeat (first | omega | split)
theorem BT.in' {b : Nat → Nat} {n k s : Nat} (h : BT b n) (hs : s ≠ 3) (hk : srt (b k) = s) : k < n := by
  rcases Nat.lt_or_ge k n with q | q
  · exact q
  · rw [h.2.1 k q] at hk
    exact absurd hk.symm (by rw [show srt 256 = 3 from rfl]; exact hs)
theorem rnE_sp {b : Nat → Nat} {n s : Nat} (h : BT b n) (hs : s ≠ 3) : ∀ (f k : Nat), k + f = n → k ≤ rnE b s k ∧ rnE b s k ≤ n ∧ (∀ j, k ≤ j → j < rnE b s k → srt (b j) = s) ∧ ¬ srt (b (rnE b s k)) = s
  | 0, k, e => by
    have hn : ¬ srt (b k) = s := fun z => by have := h.in' hs z; omega
    rw [rnE_n hn]
    exact ⟨by omega, by omega, fun j _ _ => by omega, hn⟩
  | f + 1, k, e => by
    by_cases z : srt (b k) = s
    · rw [rnE_s (by have := h.1; omega) z]
      obtain ⟨i1, i2, i3, i4⟩ := rnE_sp h hs f (k + 1) (by omega)
      refine ⟨by omega, i2, fun j h1 h2 => ?_, i4⟩
      by_cases e : j = k
      · rw [e]; exact z
      · exact i3 j (by omega) h2
    · rw [rnE_n z]
      exact ⟨by omega, by omega, fun j _ _ => by omega, z⟩
theorem BT.run {b : Nat → Nat} {n s k : Nat} (h : BT b n) (hs : s ≠ 3) (hk : k ≤ n) : k ≤ rnE b s k ∧ rnE b s k ≤ n ∧ (∀ j, k ≤ j → j < rnE b s k → srt (b j) = s) ∧ ¬ srt (b (rnE b s k)) = s := rnE_sp h hs (n - k) k (by omega)
def sgL : List Nat := [35, 40, 41, 42, 43, 45, 47, 58, 59, 60, 61, 62, 94]
def ltr (b : Nat → Nat) (p : Nat) : Nat → List Nat
  | 0 => []
  | j + 1 => ltr b p j ++ [b (p + j)]
def KWs : List (List Nat) := [[111, 118, 101, 114], [102, 111, 108, 108, 111, 119, 115], [98, 101, 103, 105, 110, 115], [98, 101, 108, 108], [119, 111, 114, 100], [114, 105, 110, 103], [115, 112, 101, 97, 107], [119, 105, 110, 100], [102, 114, 111, 115, 116], [104, 111, 117, 114], [115, 117, 110, 100, 97, 121], [112, 105, 116, 99, 104], [109, 101, 110], [109, 101, 97, 110, 115], [111, 114], [97, 110, 100], [110, 111, 116], [108, 111, 117, 100], [115, 116, 114, 111, 107, 101, 115], [107, 105, 110, 100], [110, 101, 120, 116], [109, 101, 97, 110, 105, 110, 103], [112, 108, 97, 99, 101]]
def kwF (l : List Nat) : List (List Nat) → Nat → Nat
  | [], _ => 0
  | w :: r, k => if l = w then k else kwF l r (k + 1)
def kwL (l : List Nat) : Nat := kwF l KWs 100
theorem kwF_mem {l : List Nat} : ∀ (r : List (List Nat)) (k : Nat), 0 < k → (kwF l r k = 0 ∧ l ∉ r) ∨ (k ≤ kwF l r k ∧ kwF l r k < k + r.length ∧ r[kwF l r k - k]? = some l)
  | [], k, _ => Or.inl ⟨rfl, by simp⟩
  | w :: r, k, hk => by
    have e : kwF l (w :: r) k = if l = w then k else kwF l r (k + 1) := rfl
    rw [e]
    by_cases h : l = w
    · rw [if_pos h]; right; refine ⟨by omega, by simp, ?_⟩; rw [Nat.sub_self, h]; rfl
    · rw [if_neg h]
      rcases kwF_mem r (k + 1) (by omega) with ⟨h1, h2⟩ | ⟨h1, h2, h3⟩
      · left; exact ⟨h1, fun z => by rcases List.mem_cons.mp z with z | z; exact h z; exact h2 z⟩
      · right
        refine ⟨by omega, by simp only [List.length_cons]; omega, ?_⟩
        rw [show kwF l r (k + 1) - k = (kwF l r (k + 1) - (k + 1)) + 1 from by omega]
        exact h3
theorem kwL_sp (l : List Nat) : (kwL l = 0 ∧ l ∉ KWs) ∨ (100 ≤ kwL l ∧ kwL l < 123 ∧ KWs[kwL l - 100]? = some l) := kwF_mem KWs 100 (by omega)
/-- the code of a word of the list -/
theorem kwL_iff {l w : List Nat} {k : Nat} (h : KWs[k]? = some w) : l = w ↔ kwL l = 100 + k := by
  have hk : k < 23 := (List.getElem?_eq_some_iff.mp h).1
  have hd : ∀ i, i < 23 → ∀ j, j < 23 → KWs[i]? = KWs[j]? → i = j := by decide +kernel
  constructor
  · intro e
    rcases kwL_sp l with ⟨_, h2⟩ | ⟨h1, h2, h3⟩
    · exact absurd (e ▸ List.mem_of_getElem? h) h2
    · have := hd (kwL l - 100) (by omega) k hk (by rw [h3, h, e])
      omega
  · intro e
    rcases kwL_sp l with ⟨h1, _⟩ | ⟨h1, h2, h3⟩
    · omega
    · rw [e, show 100 + k - 100 = k from by omega, h] at h3
      exact (Option.some.inj h3).symm
def tkK (b : Nat → Nat) (p : Nat) : Nat := if b p = 256 then 1 else if srt (b p) = 1 then 2 else if srt (b p) = 2 then kwL (ltr b p (rnE b 2 p - p)) else if b p = 60 ∧ b (p + 1) = 61 then 3 else if b p = 62 ∧ b (p + 1) = 61 then 4 else if b p ∈ sgL then b p else 0
def tkE (b : Nat → Nat) (p : Nat) : Nat := if b p = 256 then p else if srt (b p) = 1 then rnE b 1 p else if srt (b p) = 2 then rnE b 2 p else if (b p = 60 ∨ b p = 62) ∧ b (p + 1) = 61 then p + 2 else p + 1
def tkM (b : Nat → Nat) (p : Nat) : Nat := if b p = 256 then 0 else if srt (b p) = 1 then 1 else if srt (b p) = 2 then 2 else if b p = 60 ∧ b (p + 1) = 61 then 4 else if b p = 62 ∧ b (p + 1) = 61 then 5 else if b p ∈ sgL then b p else 3
def nuC (b : Nat → Nat) (p : Nat) : Nat → Nat
  | 0 => 0
  | j + 1 => min 10000 (nuC b p j * 10 + (b (p + j) - 48))
def nuM (b : Nat → Nat) (p : Nat) : Nat → Nat
  | 0 => 0
  | j + 1 => if 99999 < nuM b p j then nuM b p j else 10 * nuM b p j + (b (p + j) - 48)
theorem srt1 {c : Nat} : srt c = 1 ↔ 48 ≤ c ∧ c ≤ 57 := by
  unfold srt
  constructor
  · intro h; revert h; repeat (first | omega | split)
  · intro h; repeat (first | omega | split)
theorem srt0 {c : Nat} : srt c = 0 ↔ c = 32 ∨ c = 10 := by
  unfold srt
  constructor
  · intro h; revert h; repeat (first | omega | split)
  · intro h; repeat (first | omega | split)
theorem srt2 {c : Nat} : srt c = 2 ↔ (97 ≤ c ∧ c ≤ 122) ∨ (65 ≤ c ∧ c ≤ 90) := by
  unfold srt
  constructor
  · intro h; revert h; repeat (first | omega | split)
  · intro h; repeat (first | omega | split)
theorem nu_both {b : Nat → Nat} {p : Nat} : ∀ L : Nat, (∀ j, j < L → srt (b (p + j)) = 1) → nuM b p L < 1000000 ∧ nuC b p L = min (nuM b p L) 10000
  | 0, _ => ⟨by unfold nuM; omega, rfl⟩
  | L + 1, h => by
    obtain ⟨h1, h2⟩ := nu_both L (fun j hj => h j (by omega))
    have h3 := srt1.mp (h L (by omega))
    have e1 : nuM b p (L + 1) = if 99999 < nuM b p L then nuM b p L else 10 * nuM b p L + (b (p + L) - 48) := rfl
    have e2 : nuC b p (L + 1) = min 10000 (nuC b p L * 10 + (b (p + L) - 48)) := rfl
    rw [e1, e2, h2]
    by_cases q : 99999 < nuM b p L
    · rw [if_pos q]; omega
    · rw [if_neg q]; omega
def tE (b : Nat → Nat) : Nat → Nat
  | 0 => 0
  | i + 1 => tkE b (rnE b 0 (tE b i))
def tkS (b : Nat → Nat) (i : Nat) : Nat := rnE b 0 (tE b i)
def tK (b : Nat → Nat) (i : Nat) : Nat := tkK b (tkS b i)
def tN (b : Nat → Nat) (i : Nat) : Nat := nuC b (tkS b i) (rnE b 1 (tkS b i) - tkS b i)
theorem tE_S (b : Nat → Nat) (i : Nat) : tE b (i + 1) = tkE b (tkS b i) := rfl
theorem BT.e {b : Nat → Nat} {n p : Nat} (h : BT b n) (hp : p ≤ n) : p ≤ tkE b p ∧ tkE b p ≤ n ∧ (b p ≠ 256 → p + 1 ≤ tkE b p) := by
  unfold tkE
  by_cases h0 : b p = 256
  · rw [if_pos h0]; exact ⟨by omega, by omega, fun z => absurd h0 z⟩
  · have hpn : p < n := by
      rcases Nat.lt_or_ge p n with q | q
      · exact q
      · exact absurd (h.2.1 p q) h0
    rw [if_neg h0]
    by_cases h1 : srt (b p) = 1
    · rw [if_pos h1, rnE_s (by have := h.1; omega) h1]
      obtain ⟨a1, a2, -, -⟩ := h.run (s := 1) (by omega) (k := p + 1) (by omega)
      omega
    · rw [if_neg h1]
      by_cases h2 : srt (b p) = 2
      · rw [if_pos h2, rnE_s (by have := h.1; omega) h2]
        obtain ⟨a1, a2, -, -⟩ := h.run (s := 2) (by omega) (k := p + 1) (by omega)
        omega
      · rw [if_neg h2]
        by_cases h3 : (b p = 60 ∨ b p = 62) ∧ b (p + 1) = 61
        · rw [if_pos h3]
          have : p + 1 < n := by
            rcases Nat.lt_or_ge (p + 1) n with q | q
            · exact q
            · have := h.2.1 (p + 1) q; omega
          omega
        · rw [if_neg h3]; omega
theorem BT.eb {b : Nat → Nat} {n : Nat} (h : BT b n) : ∀ i, tE b i ≤ n
  | 0 => Nat.zero_le _
  | i + 1 => by
    rw [tE_S]
    exact (h.e (h.run (s := 0) (by omega) (h.eb i)).2.1).2.1
theorem BT.sb {b : Nat → Nat} {n : Nat} (h : BT b n) (i : Nat) : tE b i ≤ tkS b i ∧ tkS b i ≤ n ∧ ¬ srt (b (tkS b i)) = 0 := by
  obtain ⟨a1, a2, -, a4⟩ := h.run (s := 0) (by omega) (h.eb i)
  exact ⟨a1, a2, a4⟩
theorem BT.k1 {b : Nat → Nat} {n p : Nat} (h : BT b n) (hp : p ≤ n) : tkK b p = 1 ↔ b p = 256 := by
  unfold tkK
  constructor
  · intro e
    by_cases h0 : b p = 256
    · exact h0
    · rw [if_neg h0] at e
      have hk := kwL_sp (ltr b p (rnE b 2 p - p))
      have hm : b p ∈ sgL → 35 ≤ b p := by
        have : ∀ c ∈ sgL, 35 ≤ c := by decide
        exact this _
      revert e
      repeat (first | omega | split)
      all_goals (intro e; rename_i z; first | omega | (have := hm z; omega))
  · intro e; rw [if_pos e]
def cnF (b : Nat → Nat) : Nat → Nat → Nat
  | 0, i => i
  | f + 1, i => if tK b i = 1 then i else cnF b f (i + 1)
def tC (b : Nat → Nat) : Nat := cnF b 301 0
theorem cnF_sp {b : Nat → Nat} {n : Nat} (h : BT b n) : ∀ (f i : Nat), i + f = 301 → i ≤ tE b i → (∀ j, j < i → tK b j ≠ 1) → tK b (cnF b f i) = 1 ∧ cnF b f i ≤ 300 ∧ ∀ j, j < cnF b f i → tK b j ≠ 1
  | 0, i, e, hi, _ => by have := h.eb i; have := h.1; omega
  | f + 1, i, e, hi, hj => by
    have e1 : cnF b (f + 1) i = if tK b i = 1 then i else cnF b f (i + 1) := rfl
    rw [e1]
    by_cases z : tK b i = 1
    · rw [if_pos z]; exact ⟨z, by omega, hj⟩
    · rw [if_neg z]
      refine cnF_sp h f (i + 1) (by omega) ?_ (fun j hj2 => ?_)
      · obtain ⟨s1, s2, -⟩ := h.sb i
        have := (h.e s2).2.2 (fun y => z ((h.k1 s2).mpr y))
        rw [tE_S]; omega
      · by_cases q : j = i
        · rw [q]; exact z
        · exact hj j (by omega)
theorem BT.cb {b : Nat → Nat} {n : Nat} (h : BT b n) : tK b (tC b) = 1 ∧ tC b ≤ 300 ∧ ∀ j, j < tC b → tK b j ≠ 1 := cnF_sp h 301 0 rfl (Nat.zero_le _) (fun j hj => absurd hj (Nat.not_lt_zero j))
theorem BT.rg {b : Nat → Nat} {n p : Nat} (h : BT b n) : tkK b p ≤ 4 ∨ (35 ≤ tkK b p ∧ tkK b p ≤ 94) ∨ (100 ≤ tkK b p ∧ tkK b p ≤ 122) := by
  have hk := kwL_sp (ltr b p (rnE b 2 p - p))
  have hm : b p ∈ sgL → 35 ≤ b p ∧ b p ≤ 94 := by
    have : ∀ c ∈ sgL, 35 ≤ c ∧ c ≤ 94 := by decide
    exact this _
  unfold tkK
  repeat (first | omega | split)
  all_goals (rename_i z; first | omega | (have := hm z; omega))
theorem shl_or {x y : Nat} (hx : x < 2 ^ 48) (hy : y < 256) : ((Int64.ofNat x) <<< ((8 : Int32).toInt64 &&& 63)) ||| (Int32.ofNat y).toInt64 = Int64.ofNat (x * 256 + y) := by
  have e1 : ((8 : Int32).toInt64 &&& 63) = 8 := by decide
  have e2 : (Int32.ofNat y).toInt64 = Int64.ofNat y := by
    apply Int64.toInt_inj.mp
    rw [Int32.toInt_toInt64, Int32.toInt_ofNat_of_lt (by omega), Int64.toInt_ofNat_of_lt (by omega)]
  rw [e1, e2]
  apply Int64.toBitVec_inj.mp
  rw [Int64.toBitVec_or, Int64.toBitVec_shiftLeft]
  apply BitVec.eq_of_toNat_eq
  have e8 : (Int64.toBitVec 8).smod 64 = 8#64 := by decide
  rw [e8, BitVec.toNat_or]
  simp only [BitVec.shiftLeft_eq', BitVec.toNat_shiftLeft, Int64.toBitVec_ofNat', BitVec.toNat_ofNat]
  rw [Nat.mod_eq_of_lt (show x < 2 ^ 64 by omega), Nat.mod_eq_of_lt (show y < 2 ^ 64 by omega), Nat.mod_eq_of_lt (show 8 < 2 ^ 64 by omega), Nat.mod_eq_of_lt (show x * 256 + y < 2 ^ 64 by omega), Nat.shiftLeft_eq, Nat.mod_eq_of_lt (show x * 2 ^ 8 < 2 ^ 64 by omega)]
  rw [show x * 2 ^ 8 = 2 ^ 8 * x from Nat.mul_comm _ _, ← Nat.two_pow_add_eq_or_of_lt (show y < 2 ^ 8 by omega) x]
theorem shr_z {x : Nat} (hx : x < 2 ^ 63) : (Int64.ofNat x) >>> ((48 : Int32).toInt64 &&& 63) = Int64.ofNat (x / 2 ^ 48) := by
  have e1 : ((48 : Int32).toInt64 &&& 63) = 48 := by decide
  rw [e1]
  apply Int64.toBitVec_inj.mp
  rw [Int64.toBitVec_shiftRight]
  have e8 : (Int64.toBitVec 48).smod 64 = 48#64 := by decide
  rw [e8]
  apply BitVec.eq_of_toNat_eq
  rw [Int64.toBitVec_ofNat']
  show ((BitVec.ofNat 64 x).sshiftRight 48).toNat = _
  rw [BitVec.sshiftRight_eq_of_msb_false]
  · simp only [BitVec.toNat_ushiftRight, BitVec.toNat_ofNat, Int64.toBitVec_ofNat']
    rw [Nat.mod_eq_of_lt (show x < 2 ^ 64 by omega), Nat.shiftRight_eq_div_pow, Nat.mod_eq_of_lt (show x / 2 ^ 48 < 2 ^ 64 by omega)]
  · rw [BitVec.msb_eq_decide]; simp; omega
theorem lN_inj {x y : Nat} (hx : x < 2 ^ 63) (hy : y < 2 ^ 63) : Int64.ofNat x = Int64.ofNat y ↔ x = y := by
  constructor
  · intro h
    have := congrArg Int64.toInt h
    rw [Int64.toInt_ofNat_of_lt hx, Int64.toInt_ofNat_of_lt hy] at this
    omega
  · intro h; rw [h]
def pkL : List Nat → Nat := fun l => l.foldl (fun a c => a * 256 + c) 0
theorem pkL_s (l : List Nat) (c : Nat) : pkL (l ++ [c]) = pkL l * 256 + c := by unfold pkL; rw [List.foldl_append]; rfl
def rng (l : List Nat) : Prop := ∀ c ∈ l, 1 ≤ c ∧ c ≤ 255
theorem pkL_b {l : List Nat} : ∀ (n : Nat), l.length = n → rng l → pkL l < 256 ^ n ∧ (0 < n → 256 ^ (n - 1) ≤ pkL l) := by
  intro n
  induction n generalizing l with
  | zero => intro h _; rw [List.length_eq_zero_iff.mp h]; exact ⟨by decide, fun z => absurd z (Nat.lt_irrefl 0)⟩
  | succ n ih =>
    intro h hr
    rcases List.eq_nil_or_concat l with e | ⟨l', c, e⟩
    · rw [e] at h; simp at h
    · rw [List.concat_eq_append] at e
      subst e
      have hl : l'.length = n := by simpa using h
      obtain ⟨h1, h2⟩ := ih hl (fun c hc => hr c (by simp [hc]))
      have hc := hr c (by simp)
      rw [pkL_s]
      refine ⟨by rw [Nat.pow_succ]; omega, fun _ => ?_⟩
      rw [Nat.add_sub_cancel]
      cases n with
      | zero => simp; omega
      | succ n => have := h2 (by omega); rw [Nat.add_sub_cancel] at this; rw [Nat.pow_succ]; omega
theorem pkL_inj : ∀ (n : Nat) {l w : List Nat}, l.length = n → rng l → rng w → pkL l = pkL w → l = w := by
  intro n
  induction n with
  | zero =>
    intro l w h hl hw e
    rw [List.length_eq_zero_iff.mp h] at e ⊢
    rcases List.eq_nil_or_concat w with e2 | ⟨w', c, e2⟩
    · exact e2.symm
    · rw [List.concat_eq_append] at e2
      subst e2
      rw [pkL_s] at e
      have := hw c (by simp)
      have : pkL [] = 0 := rfl
      omega
  | succ n ih =>
    intro l w h hl hw e
    rcases List.eq_nil_or_concat l with e1 | ⟨l', c, e1⟩
    · rw [e1] at h; simp at h
    · rw [List.concat_eq_append] at e1
      subst e1
      have hc := hl c (by simp)
      rcases List.eq_nil_or_concat w with e2 | ⟨w', c', e2⟩
      · subst e2
        rw [pkL_s] at e
        have : pkL [] = 0 := rfl
        omega
      · rw [List.concat_eq_append] at e2
        subst e2
        have hc' := hw c' (by simp)
        rw [pkL_s, pkL_s] at e
        have := ih (by simpa using h) (fun c hc => hl c (by simp [hc])) (fun c hc => hw c (by simp [hc])) (show pkL l' = pkL w' by omega)
        rw [this, show c = c' by omega]
def wv (l : List Nat) : Nat := if l.length ≤ 7 then pkL l else 1152921504606846976
theorem wv_b {l : List Nat} (hr : rng l) : wv l < 2 ^ 63 ∧ (wv l / 2 ^ 48 = 0 ↔ l.length ≤ 6) := by
  obtain ⟨h1, h2⟩ := pkL_b l.length rfl hr
  unfold wv
  by_cases q : l.length ≤ 7
  · rw [if_pos q]
    have h3 : pkL l < 256 ^ 7 := Nat.lt_of_lt_of_le h1 (Nat.pow_le_pow_right (by omega) q)
    refine ⟨by omega, ?_⟩
    by_cases q6 : l.length ≤ 6
    · have h4 : pkL l < 256 ^ 6 := Nat.lt_of_lt_of_le h1 (Nat.pow_le_pow_right (by omega) q6)
      exact ⟨fun _ => q6, fun _ => by omega⟩
    · have h5 := h2 (by omega)
      rw [show l.length - 1 = 6 from by omega] at h5
      exact ⟨fun z => by omega, fun z => absurd z q6⟩
  · rw [if_neg q]
    exact ⟨by omega, fun z => by omega, fun z => by omega⟩
theorem wv_s {l : List Nat} (c : Nat) (h : l.length ≤ 6) : wv (l ++ [c]) = wv l * 256 + c := by
  unfold wv
  rw [if_pos (show l.length ≤ 7 by omega), if_pos (show (l ++ [c]).length ≤ 7 by rw [List.length_append, List.length_singleton]; omega), pkL_s]
theorem wv_l {l : List Nat} (c : Nat) (h : ¬ l.length ≤ 6) : wv (l ++ [c]) = 1152921504606846976 := by
  unfold wv
  rw [if_neg (show ¬ (l ++ [c]).length ≤ 7 by rw [List.length_append, List.length_singleton]; omega)]
theorem wv_iff {l w : List Nat} (hl : rng l) (hw : rng w) (h7 : w.length ≤ 7) : wv l = wv w ↔ l = w := by
  constructor
  · intro e
    obtain ⟨g1, -⟩ := pkL_b w.length rfl hw
    have h3 : pkL w < 256 ^ 7 := Nat.lt_of_lt_of_le g1 (Nat.pow_le_pow_right (by omega) h7)
    have ew : wv w = pkL w := if_pos h7
    rw [ew] at e
    unfold wv at e
    by_cases q : l.length ≤ 7
    · rw [if_pos q] at e
      exact pkL_inj l.length rfl hl hw e
    · rw [if_neg q] at e; omega
  · intro e; rw [e]
theorem ltr_len (b : Nat → Nat) (p : Nat) : ∀ j, (ltr b p j).length = j
  | 0 => rfl
  | j + 1 => by
    have e : ltr b p (j + 1) = ltr b p j ++ [b (p + j)] := rfl
    rw [e, List.length_append, List.length_singleton, ltr_len b p j]
theorem ltr_rng {b : Nat → Nat} {p : Nat} : ∀ j, (∀ i, i < j → srt (b (p + i)) = 2) → rng (ltr b p j)
  | 0, _ => fun c hc => (by cases hc)
  | j + 1, h => fun c hc => by
    have e : ltr b p (j + 1) = ltr b p j ++ [b (p + j)] := rfl
    rw [e, List.mem_append, List.mem_singleton] at hc
    rcases hc with hc | hc
    · exact ltr_rng j (fun i hi => h i (by omega)) c hc
    · have := srt2.mp (h j (by omega))
      omega
theorem ltr_get {b : Nat → Nat} {p : Nat} : ∀ j i, i < j → (ltr b p j)[i]? = some (b (p + i))
  | 0, i, hi => absurd hi (Nat.not_lt_zero i)
  | j + 1, i, hi => by
    have e : ltr b p (j + 1) = ltr b p j ++ [b (p + j)] := rfl
    rw [e]
    by_cases q : i = j
    · rw [q, List.getElem?_append_right (by rw [ltr_len]; omega), ltr_len, Nat.sub_self]; rfl
    · rw [List.getElem?_append_left (by rw [ltr_len]; omega)]
      exact ltr_get j i (by omega)
