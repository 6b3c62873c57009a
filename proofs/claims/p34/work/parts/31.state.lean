/-! THE ABSTRACT STATE: the model's memory m, what is read of it, what always holds of it, and how a state of the class stands to it -/
def nV (m : Nat → Int32) : Nat := (m 1).toNatClampNeg
def nC (m : Nat → Int32) : Nat := (m 2).toNatClampNeg
def nW (m : Nat → Int32) : Nat := (m 3).toNatClampNeg
def nK (m : Nat → Int32) : Nat := (m 4).toNatClampNeg
def tm (m : Nat → Int32) : Nat := (m 0).toNatClampNeg
def vn (m : Nat → Int32) (v j : Nat) : Int32 := m (9 + 13 * v + j)
def cr (m : Nat → Int32) (c j : Nat) : Int32 := m (145 + 9 * c + j)
def wk (m : Nat → Int32) (i j : Nat) : Int32 := m (253 + 18 * i + j)
def co (m : Nat → Int32) (k : Nat) : Int32 := m (137 + 2 * k)
def tg (m : Nat → Int32) (k : Nat) : Int32 := m (137 + 2 * k + 1)
def ln (m : Nat → Int32) (l j : Nat) : Int32 := m (113 + 4 * l + j)
def hol (m : Nat → Int32) : Nat → Int32 := fun c => if c < 12 then cr m c 2 else -1
def opn (m : Nat → Int32) : Nat → Int32 := fun c => if c < 12 then cr m c 1 else 0
def atv (m : Nat → Int32) : Nat → Int32 := fun c => if c < 12 then cr m c 3 else -1
theorem hol_c {m : Nat → Int32} {c : Nat} (h : c < 12) : hol m c = cr m c 2 := if_pos h
theorem opn_c {m : Nat → Int32} {c : Nat} (h : c < 12) : opn m c = cr m c 1 := if_pos h
theorem atv_c {m : Nat → Int32} {c : Nat} (h : c < 12) : atv m c = cr m c 3 := if_pos h
-- chains outwards
def upk (h : Nat → Int32) : Nat → Int32 → Int32
  | 0, x => x
  | k + 1, x => upk h k (h x.toNatClampNeg)
def dp (h : Nat → Int32) : Nat → Int32 → Prop
  | 0, x => x = -1
  | k + 1, x => ¬ x = -1 ∧ dp h k (h x.toNatClampNeg)
def oN (h : Nat → Int32) : Nat → Nat → Nat
  | 0, c => c
  | k + 1, c => if h c = -1 then c else oN h k (h c).toNatClampNeg
def inN (h : Nat → Int32) : Nat → Int32 → Int32 → Bool
  | 0, _, _ => false
  | k + 1, x, t => if x = -1 then false else if x = t then true else inN h k (h x.toNatClampNeg) t
def rcN (h o a : Nat → Int32) : Nat → Nat → Bool
  | 0, _ => false
  | k + 1, c => if h c = -1 then (if a c = -1 then false else true) else if o (h c).toNatClampNeg = 0 then false else rcN h o a k (h c).toNatClampNeg
def cnN (h : Nat → Int32) : Nat → Int32 → Nat
  | 0, _ => 0
  | k + 1, x => if x = -1 then 0 else cnN h k (h x.toNatClampNeg) + 1
/-- a pointer: none, or a number below n -/
def ptr (n : Nat) (x : Int32) : Prop := x = -1 ∨ ∃ d, d < n ∧ x = iN d
def Ch (n : Nat) (h : Nat → Int32) : Prop := ∀ c, c < n → ptr n (h c)
theorem dp_fun {h : Nat → Int32} : ∀ {a b : Nat} {x : Int32}, dp h a x → dp h b x → a = b
  | 0, 0, _, _, _ => rfl
  | 0, _ + 1, _, p, q => (q.1 p).elim
  | _ + 1, 0, _, p, q => (p.1 q).elim
  | a + 1, b + 1, _, p, q => congrArg (· + 1) (dp_fun p.2 q.2)
theorem dp_up {h : Nat → Int32} : ∀ {i r : Nat} {x : Int32}, dp h (i + r) x → dp h r (upk h i x)
  | 0, r, x, p => by rwa [Nat.zero_add] at p
  | i + 1, r, x, p => by
    rw [show i + 1 + r = (i + r) + 1 by omega] at p
    exact dp_up (i := i) p.2
theorem pig : ∀ (n k : Nat) (f : Nat → Nat), (∀ i, i < k → f i < n) → (∀ i j, i < j → j < k → f i ≠ f j) → k ≤ n
  | 0, k, f, h1, _ => by
    by_cases hk : k = 0
    · omega
    · exact absurd (h1 0 (by omega)) (by omega)
  | n + 1, 0, f, _, _ => Nat.zero_le _
  | n + 1, k + 1, f, h1, h2 => by
    refine Nat.succ_le_succ (pig n k (fun i => if f i = n then f k else f i) (fun i hi => ?_) (fun i j hij hj => ?_))
    · have a := h1 i (by omega)
      have b := h1 k (by omega)
      have c := h2 i k hi (by omega)
      show (if f i = n then f k else f i) < n
      split <;> omega
    · have a := h2 i j hij (by omega)
      have b := h2 i k (by omega) (by omega)
      have c := h2 j k hj (by omega)
      show (if f i = n then f k else f i) ≠ (if f j = n then f k else f j)
      split <;> split <;> omega
theorem upk_ptr {n : Nat} {h : Nat → Int32} (hn : n ≤ 2147483648) (hc : Ch n h) : ∀ {i r : Nat} {x : Int32}, ptr n x → dp h (i + r) x → ptr n (upk h i x)
  | 0, _, _, p, _ => p
  | i + 1, r, x, p, q => by
    rw [show i + 1 + r = (i + r) + 1 by omega] at q
    rcases p with p | ⟨d, hd, rfl⟩
    · exact (q.1 p).elim
    · have := q.2
      rw [iN_nat (by omega)] at this
      show ptr n (upk h i (h (iN d).toNatClampNeg))
      rw [iN_nat (by omega)]
      exact upk_ptr hn hc (hc d hd) this
/-- no chain is longer than there are crates -/
theorem dp_le {n k : Nat} {h : Nat → Int32} {x : Int32} (hn : n ≤ 2147483648) (hc : Ch n h) (p : ptr n x) (q : dp h k x) : k ≤ n := by
  refine pig n k (fun i => (upk h i x).toNatClampNeg) (fun i hi => ?_) (fun i j hij hj e => ?_)
  · have a := upk_ptr (i := i) (r := k - i) hn hc p (by rwa [show i + (k - i) = k by omega])
    have b := dp_up (i := i) (r := k - i) (show dp h (i + (k - i)) x by rwa [show i + (k - i) = k by omega])
    rw [show k - i = (k - i - 1) + 1 by omega] at b
    rcases a with a | ⟨d, hd, e⟩
    · exact (b.1 a).elim
    · show (upk h i x).toNatClampNeg < n
      rw [e, iN_nat (by omega)]; exact hd
  · have ai := upk_ptr (i := i) (r := k - i) hn hc p (by rwa [show i + (k - i) = k by omega])
    have bi := dp_up (i := i) (r := k - i) (show dp h (i + (k - i)) x by rwa [show i + (k - i) = k by omega])
    have aj := upk_ptr (i := j) (r := k - j) hn hc p (by rwa [show j + (k - j) = k by omega])
    have bj := dp_up (i := j) (r := k - j) (show dp h (j + (k - j)) x by rwa [show j + (k - j) = k by omega])
    have e' : upk h i x = upk h j x := by
      have bi' := bi
      have bj' := bj
      rw [show k - i = (k - i - 1) + 1 by omega] at bi'
      rw [show k - j = (k - j - 1) + 1 by omega] at bj'
      rcases ai with a | ⟨d, hd, ed⟩
      · exact (bi'.1 a).elim
      rcases aj with a | ⟨d', hd', ed'⟩
      · exact (bj'.1 a).elim
      have e2 : (upk h i x).toNatClampNeg = (upk h j x).toNatClampNeg := e
      rw [ed, ed', iN_nat (by omega), iN_nat (by omega)] at e2
      rw [ed, ed', e2]
    rw [e'] at bi
    have := dp_fun bi bj
    omega
-- each function of a chain is the same from the chain's length on
theorem inN_st {h : Nat → Int32} {t : Int32} : ∀ {k j : Nat} {x : Int32}, dp h k x → k ≤ j → inN h j x t = inN h k x t
  | 0, 0, _, _, _ => rfl
  | 0, j + 1, x, p, _ => by
    show (if x = -1 then false else if x = t then true else inN h j (h x.toNatClampNeg) t) = false
    rw [if_pos (show x = -1 from p)]
  | k + 1, 0, _, _, q => by omega
  | k + 1, j + 1, x, p, q => by
    show (if x = -1 then false else if x = t then true else inN h j (h x.toNatClampNeg) t) = (if x = -1 then false else if x = t then true else inN h k (h x.toNatClampNeg) t)
    rw [inN_st p.2 (Nat.le_of_succ_le_succ q)]
theorem cnN_st {h : Nat → Int32} : ∀ {k j : Nat} {x : Int32}, dp h k x → k ≤ j → cnN h j x = k
  | 0, 0, _, _, _ => rfl
  | 0, j + 1, x, p, _ => by
    show (if x = -1 then 0 else cnN h j (h x.toNatClampNeg) + 1) = 0
    rw [if_pos (show x = -1 from p)]
  | k + 1, 0, _, _, q => by omega
  | k + 1, j + 1, x, p, q => by
    show (if x = -1 then 0 else cnN h j (h x.toNatClampNeg) + 1) = k + 1
    rw [if_neg p.1, cnN_st p.2 (Nat.le_of_succ_le_succ q)]
theorem oN_st {n : Nat} {h : Nat → Int32} (hn : n ≤ 2147483648) (hc : Ch n h) : ∀ {k j c : Nat}, c < n → dp h (k + 1) (iN c) → k ≤ j → oN h j c = oN h k c
  | 0, 0, _, _, _, _ => rfl
  | 0, j + 1, c, hcn, p, _ => by
    have p2 := p.2
    rw [iN_nat (by omega)] at p2
    show (if h c = -1 then c else oN h j (h c).toNatClampNeg) = c
    rw [if_pos (show h c = -1 from p2)]
  | k + 1, 0, _, _, _, q => by omega
  | k + 1, j + 1, c, hcn, p, q => by
    have p2 := p.2
    rw [iN_nat (by omega)] at p2
    show (if h c = -1 then c else oN h j (h c).toNatClampNeg) = (if h c = -1 then c else oN h k (h c).toNatClampNeg)
    rcases hc c hcn with e | ⟨d, hd, e⟩
    · rw [if_pos e, if_pos e]
    · rw [e] at p2 ⊢
      rw [if_neg (iN_m1 (by omega)), if_neg (iN_m1 (by omega)), iN_nat (by omega)]
      exact oN_st hn hc hd p2 (Nat.le_of_succ_le_succ q)
theorem rcN_st {n : Nat} {h o a : Nat → Int32} (hn : n ≤ 2147483648) (hc : Ch n h) : ∀ {k j c : Nat}, c < n → dp h k (iN c) → k ≤ j → rcN h o a j c = rcN h o a k c
  | 0, _, _, hcn, p, _ => (iN_m1 (by omega) p).elim
  | k + 1, 0, _, _, _, q => by omega
  | k + 1, j + 1, c, hcn, p, q => by
    have p2 := p.2
    rw [iN_nat (by omega)] at p2
    show (if h c = -1 then (if a c = -1 then false else true) else if o (h c).toNatClampNeg = 0 then false else rcN h o a j (h c).toNatClampNeg) = (if h c = -1 then (if a c = -1 then false else true) else if o (h c).toNatClampNeg = 0 then false else rcN h o a k (h c).toNatClampNeg)
    rcases hc c hcn with e | ⟨d, hd, e⟩
    · rw [if_pos e, if_pos e]
    · rw [e] at p2 ⊢
      rw [if_neg (iN_m1 (by omega)), if_neg (iN_m1 (by omega)), iN_nat (by omega), rcN_st hn hc hd p2 (Nat.le_of_succ_le_succ q)]
theorem oN_lt {n : Nat} {h : Nat → Int32} (hn : n ≤ 2147483648) (hc : Ch n h) : ∀ {k c : Nat}, c < n → oN h k c < n
  | 0, _, hcn => hcn
  | k + 1, c, hcn => by
    show (if h c = -1 then c else oN h k (h c).toNatClampNeg) < n
    rcases hc c hcn with e | ⟨d, hd, e⟩
    · rw [if_pos e]; exact hcn
    · rw [e, if_neg (iN_m1 (by omega)), iN_nat (by omega)]
      exact oN_lt hn hc hd
theorem oN_top {n : Nat} {h : Nat → Int32} (hn : n ≤ 2147483648) (hc : Ch n h) : ∀ {k c : Nat}, c < n → dp h (k + 1) (iN c) → h (oN h k c) = -1
  | 0, c, hcn, p => by
    have p2 := p.2
    rw [iN_nat (by omega)] at p2
    exact p2
  | k + 1, c, hcn, p => by
    have p2 := p.2
    rw [iN_nat (by omega)] at p2
    show h (if h c = -1 then c else oN h k (h c).toNatClampNeg) = -1
    rcases hc c hcn with e | ⟨d, hd, e⟩
    · rw [if_pos e]; exact e
    · rw [e] at p2 ⊢
      rw [if_neg (iN_m1 (by omega)), iN_nat (by omega)]
      exact oN_top hn hc hd p2
-- what is read
def out (m : Nat → Int32) (c : Nat) : Nat := oN (hol m) 12 c
def isin (m : Nat → Int32) (x t : Int32) : Bool := inN (hol m) 12 x t
def reach (m : Nat → Int32) (c : Nat) : Bool := rcN (hol m) (opn m) (atv m) 12 c
def outw (m : Nat → Int32) (x : Int32) : Nat := cnN (hol m) 12 x
def vof (m : Nat → Int32) (c : Nat) : Int32 := cr m (out m c) 3
/-- the venue of a work; the venue to which it goes -/
def wat (m : Nat → Int32) (i : Nat) : Int32 := if wk m i 4 = -1 then wk m i 5 else vof m (wk m i 4).toNatClampNeg
def wto (m : Nat → Int32) (i : Nat) : Int32 := if wk m i 4 = -1 then -1 else cr m (out m (wk m i 4).toNatClampNeg) 4
def clim (a b : Int32) : Prop := -10 ≤ a ∧ a ≤ 40 ∧ 20 ≤ b ∧ b ≤ 90
def COk (nv nc t : Nat) (s : Prop) (o f : Nat → Int32) : Prop :=
  (f 1 = 0 ∨ f 1 = 1) ∧ (∃ a, 1 ≤ a ∧ a ≤ 4 ∧ f 0 = iN a) ∧ (f 2 = -1 ∨ ∃ d, d < nc ∧ f 2 = iN d ∧ (f 1 = 1 → o d = 1)) ∧
  ((f 3 = -1 ∧ f 2 = -1 ∧ f 1 = 0 ∧ (∃ v, v < nv ∧ f 4 = iN v) ∧ ∃ a, f 5 = iN a ∧ t ≤ a ∧ (s → t < a) ∧ a ≤ t + 200) ∨ ((∃ v, v < nv ∧ f 3 = iN v) ∧ f 4 = -1 ∧ f 5 = -1)) ∧ (f 1 = 0 → clim (f 6) (f 7))
def WOk (nv nc : Nat) (f : Nat → Int32) : Prop :=
  (∃ l, l < 6 ∧ f 0 = iN l) ∧ (∃ a, 1 ≤ a ∧ a ≤ 1000000 ∧ f 1 = iN a) ∧ (f 3 = 0 ∨ f 3 = 1) ∧ ptr nc (f 4) ∧ (f 4 = -1 → ∃ v, v < nv ∧ f 5 = iN v) ∧ ∃ a, a ≤ 10 ∧ f 7 = iN a
def KOk (nv nc : Nat) (a : Nat → Int32) (x y : Int32) : Prop := ptr nv x ∧ (y = -1 ∨ ∃ c, c < nc ∧ y = iN c ∧ a c = -1) ∧ (¬ x = -1 → y = -1)
/-- what always holds; the crates from z on may arrive just now -/
def Iv (T z : Nat) (m : Nat → Int32) : Prop :=
  (m 0 = iN (tm m) ∧ tm m ≤ T ∧ T ≤ 1000000000) ∧ (m 1 = iN (nV m) ∧ nV m ≤ 8) ∧ (m 2 = iN (nC m) ∧ nC m ≤ 12) ∧ (m 3 = iN (nW m) ∧ nW m ≤ 16) ∧ (m 4 = iN (nK m) ∧ nK m ≤ 4) ∧
  (∀ v, v < nV m → clim (vn m v 0) (vn m v 1)) ∧ (∀ v, v < 8 → ∀ j, j < 8 → ∃ a, a ≤ 200 ∧ vn m v (5 + j) = iN a) ∧ (∀ v, v < 8 → vn m v (5 + v) = 0) ∧
  (∀ c, c < nC m → COk (nV m) (nC m) (tm m) (c < z) (opn m) (cr m c)) ∧ (∀ c, c < nC m → ∃ k, dp (hol m) k (iN c)) ∧
  (∀ i, i < nW m → WOk (nV m) (nC m) (wk m i)) ∧ (∀ k, k < nK m → KOk (nV m) (nC m) (atv m) (co m k) (tg m k))
def RlA (f g : Nat → Int32) : Prop := f 0 = g 0 ∧ f 1 = g 1 ∧ (g 1 = 0 ∨ g 1 = 1) ∧ f 7 = g 6 ∧ f 8 = g 7
def RlC (nk : Nat) (tg : Nat → Int32) (c : Nat) (f g : Nat → Int32) : Prop :=
  f 2 = g 2 ∧ f 3 = (if g 2 = -1 then g 3 else -1) ∧ f 4 = g 4 ∧ f 5 = g 5 ∧ (g 1 = 0 → f 9 = g 8) ∧ (f 6 = -1 ∨ ∃ k, k < nk ∧ f 6 = iN k) ∧ ∀ k, k < nk → (f 6 = iN k ↔ tg k = iN c)
def RlW (f g : Nat → Int32) : Prop := f 0 = g 0 ∧ f 1 = g 1 ∧ f 2 = g 2 ∧ f 3 = g 3 ∧ f 4 = g 4 ∧ f 5 = (if g 4 = -1 then g 5 else -1) ∧ f 6 = g 6 ∧ f 7 = g 7
def RlS (f m : Nat → Int32) : Prop := f 0 = m 0 ∧ f 1 = m 8 ∧ f 2 = m 5 ∧ f 3 = m 6 ∧ f 4 = m 7 ∧ f 5 = m 1 ∧ f 6 = m 2 ∧ f 7 = m 3 ∧ f 8 = m 4
/-- a state of the class (its block begins at q) stands to m -/
def Rl (w : Wl) (q : Nat) (m : Nat → Int32) : Prop :=
  RlS (w q) m ∧
  (∀ v, v < 8 → (∀ j, j < 5 → w (q + 12 + 2 * v) j = vn m v j) ∧ ∀ j, j < 8 → w (q + 12 + 2 * v + 1) j = vn m v (5 + j)) ∧
  (∀ c, c < 12 → RlA (w (q + 28 + c)) (cr m c)) ∧ (∀ c, c < nC m → RlC (nK m) (tg m) c (w (q + 28 + c)) (cr m c)) ∧
  (∀ i, i < 16 → (w (q + 40 + 2 * i) 3 = 0 ∨ w (q + 40 + 2 * i) 3 = 1) ∧ (∀ j, j < 10 → w (q + 40 + 2 * i + 1) j = wk m i (8 + j))) ∧
  (∀ i, i < nW m → RlW (w (q + 40 + 2 * i)) (wk m i)) ∧ (∀ i, nW m ≤ i → i < 16 → w (q + 40 + 2 * i) 6 = 0 ∧ w (q + 40 + 2 * i) 7 = 0) ∧
  (∀ l, l < 6 → ∀ j, j < 4 → w (q + 6 + l) j = ln m l j) ∧ (∀ k, k < 4 → w (q + 4) k = co m k)
section IV
variable {T z : Nat} {m : Nat → Int32}
theorem Iv.it (h : Iv T z m) : m 0 = iN (tm m) := h.1.1
theorem Iv.itT (h : Iv T z m) : tm m ≤ T := h.1.2.1
theorem Iv.iT9 (h : Iv T z m) : T ≤ 1000000000 := h.1.2.2
theorem Iv.iv (h : Iv T z m) : m 1 = iN (nV m) := h.2.1.1
theorem Iv.iv8 (h : Iv T z m) : nV m ≤ 8 := h.2.1.2
theorem Iv.ic (h : Iv T z m) : m 2 = iN (nC m) := h.2.2.1.1
theorem Iv.ic12 (h : Iv T z m) : nC m ≤ 12 := h.2.2.1.2
theorem Iv.iw (h : Iv T z m) : m 3 = iN (nW m) := h.2.2.2.1.1
theorem Iv.iw16 (h : Iv T z m) : nW m ≤ 16 := h.2.2.2.1.2
theorem Iv.ik (h : Iv T z m) : m 4 = iN (nK m) := h.2.2.2.2.1.1
theorem Iv.ik4 (h : Iv T z m) : nK m ≤ 4 := h.2.2.2.2.1.2
theorem Iv.icl (h : Iv T z m) : ∀ v, v < nV m → clim (vn m v 0) (vn m v 1) := h.2.2.2.2.2.1
theorem Iv.iwy (h : Iv T z m) : ∀ v, v < 8 → ∀ j, j < 8 → ∃ a, a ≤ 200 ∧ vn m v (5 + j) = iN a := h.2.2.2.2.2.2.1
theorem Iv.iwd (h : Iv T z m) : ∀ v, v < 8 → vn m v (5 + v) = 0 := h.2.2.2.2.2.2.2.1
theorem Iv.ico (h : Iv T z m) : ∀ c, c < nC m → COk (nV m) (nC m) (tm m) (c < z) (opn m) (cr m c) := h.2.2.2.2.2.2.2.2.1
theorem Iv.idp (h : Iv T z m) : ∀ c, c < nC m → ∃ k, dp (hol m) k (iN c) := h.2.2.2.2.2.2.2.2.2.1
theorem Iv.iwo (h : Iv T z m) : ∀ i, i < nW m → WOk (nV m) (nC m) (wk m i) := h.2.2.2.2.2.2.2.2.2.2.1
theorem Iv.iko (h : Iv T z m) : ∀ k, k < nK m → KOk (nV m) (nC m) (atv m) (co m k) (tg m k) := h.2.2.2.2.2.2.2.2.2.2.2
theorem Iv.ich (h : Iv T z m) : Ch (nC m) (hol m) := fun c hc => by
  have h12 := h.ic12
  rw [hol_c (by omega)]
  rcases (h.ico c hc).2.2.1 with e | ⟨d, hd, e, -⟩
  · exact Or.inl e
  · exact Or.inr ⟨d, hd, e⟩
/-- a pointer's chain ends within 12 -/
theorem Iv.idx (h : Iv T z m) {x : Int32} (hx : ptr (nC m) x) : ∃ k, k ≤ 12 ∧ dp (hol m) k x := by
  have h12 := h.ic12
  have hd : ∃ k, dp (hol m) k x := by
    rcases hx with e | ⟨d, hd, rfl⟩
    · exact ⟨0, e⟩
    · exact h.idp d hd
  obtain ⟨k, hk⟩ := hd
  exact ⟨k, Nat.le_trans (dp_le (by omega) h.ich hx hk) h12, hk⟩
/-- a crate's chain -/
theorem Iv.idc (h : Iv T z m) {c : Nat} (hc : c < nC m) : ∃ k, k + 1 ≤ 12 ∧ dp (hol m) (k + 1) (iN c) := by
  have h12 := h.ic12
  obtain ⟨k, h1, h2⟩ := h.idx (Or.inr ⟨c, hc, rfl⟩)
  cases k with
  | zero => exact (iN_m1 (by omega) h2).elim
  | succ k => exact ⟨k, h1, h2⟩
theorem Iv.iout (h : Iv T z m) {c : Nat} (hc : c < nC m) : out m c < nC m := oN_lt (by have := h.ic12; omega) h.ich hc
theorem Iv.itop (h : Iv T z m) {c : Nat} (hc : c < nC m) : cr m (out m c) 2 = -1 := by
  have h12 := h.ic12
  obtain ⟨k, h1, h2⟩ := h.idc hc
  have e : out m c = oN (hol m) k c := oN_st (by omega) h.ich hc h2 (by omega)
  have := oN_top (by omega) h.ich hc h2
  rw [← e, hol_c (by have := h.iout hc; omega)] at this
  exact this
end IV
