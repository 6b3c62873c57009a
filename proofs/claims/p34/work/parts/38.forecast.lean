/-! THE FORECASTS, both sides, in words of m -/
theorem of_int {x : Int32} {n : Nat} (h : x.toInt = n) : x = iN n := by
  have h2 := Int32.toInt_lt x
  rw [← Int32.toInt_inj, h]
  exact (iN_int (by omega)).symm
theorem ab_sub {x y : Int32} (hx1 : -100 ≤ x.toInt) (hx2 : x.toInt ≤ 100) (hy1 : -100 ≤ y.toInt) (hy2 : y.toInt ≤ 100) : ∃ k, k ≤ 200 ∧ ab (x - y) = iN k := by
  have e : (x - y).toInt = x.toInt - y.toInt := by
    rw [Int32.toInt_sub]
    exact Int.bmod_eq_of_le (by omega) (by omega)
  unfold ab
  by_cases h : 0 ≤ x - y
  · rw [if_pos h]
    have h' : 0 ≤ (x - y).toInt := by simpa using Int32.le_iff_toInt_le.mp h
    exact ⟨(x - y).toInt.toNat, by omega, of_int (by omega)⟩
  · rw [if_neg h]
    have h' : ¬ 0 ≤ (x - y).toInt := fun q => h (Int32.le_iff_toInt_le.mpr (by simpa using q))
    have e2 : (0 - (x - y)).toInt = -(x - y).toInt := by
      rw [Int32.toInt_sub]
      show ((0 : Int32).toInt - _).bmod _ = _
      rw [show (0 : Int32).toInt = 0 from rfl, Int.zero_sub]
      exact Int.bmod_eq_of_le (by omega) (by omega)
    exact ⟨(-(x - y).toInt).toNat, by omega, of_int (by omega)⟩
theorem clim_int {a b : Int32} (h : clim a b) : (-100 ≤ a.toInt ∧ a.toInt ≤ 100) ∧ -100 ≤ b.toInt ∧ b.toInt ≤ 100 := by
  obtain ⟨h1, h2, h3, h4⟩ := h
  have h1 := Int32.le_iff_toInt_le.mp h1
  have h2 := Int32.le_iff_toInt_le.mp h2
  have h3 := Int32.le_iff_toInt_le.mp h3
  have h4 := Int32.le_iff_toInt_le.mp h4
  rw [show (-10 : Int32).toInt = -10 by decide] at h1
  rw [show (40 : Int32).toInt = 40 by decide] at h2
  rw [show (20 : Int32).toInt = 20 by decide] at h3
  rw [show (90 : Int32).toInt = 90 by decide] at h4
  omega
def mx (t y : Int32) : Int32 := if t < y then y else t
theorem mx_iN {a b : Nat} (ha : a < 2147483648) (hb : b < 2147483648) : mx (iN a) (iN b) = iN (max a b) := by
  unfold mx
  by_cases h : a < b
  · rw [if_pos ((iN_lt ha hb).mpr h), Nat.max_eq_right (by omega)]
  · rw [if_neg (fun q => h ((iN_lt ha hb).mp q)), Nat.max_eq_left (by omega)]
def rG (h : Nat → Int32) (st : Nat → Int32 × Bool → Int32 × Bool) (s0 : Int32 × Bool) : Nat → Int32 → Int32 × Bool
  | 0, _ => s0
  | k + 1, x => if x = -1 then s0 else st x.toNatClampNeg (rG h st s0 k (h x.toNatClampNeg))
def stC (m : Nat → Int32) (v c : Nat) (s : Int32 × Bool) : Int32 × Bool := if opb m c = true then (s.1, false) else (mx s.1 ((if s.2 = true then s.1 else cr m c 8) + nd m c v), true)
def stM (m : Nat → Int32) (v : Nat) (g : Bool) (a : Int32) (c : Nat) (s : Int32 × Bool) : Int32 × Bool := if opb m c = true then s else (mx s.1 ((if s.2 = true then s.1 else if g = true then a else cr m c 8) + nd m c v), true)
def aReady (m : Nat → Int32) (i : Nat) : Int32 := if wk m i 4 = -1 then m 0 else
  if cr m (out m (wk m i 4).toNatClampNeg) 3 = -1 then (rG (hol m) (stM m (cr m (out m (wk m i 4).toNatClampNeg) 4).toNatClampNeg true (cr m (out m (wk m i 4).toNatClampNeg) 5)) (m 0, false) 12 (wk m i 4)).1
  else (rG (hol m) (stM m (cr m (out m (wk m i 4).toNatClampNeg) 3).toNatClampNeg false 0) (m 0, false) 12 (wk m i 4)).1
def aAll (m : Nat → Int32) (x : Int32) : Int32 := fld (fun i a => if isin m (wk m i 4) x = true then mx a (aReady m i) else a) (nW m) 0 (-1)
theorem rG_st {h : Nat → Int32} {st : Nat → Int32 × Bool → Int32 × Bool} {s0 : Int32 × Bool} : ∀ {k j : Nat} {x : Int32}, dp h k x → k ≤ j → rG h st s0 j x = rG h st s0 k x
  | 0, 0, _, _, _ => rfl
  | 0, j + 1, x, p, _ => by
    show (if x = -1 then s0 else st x.toNatClampNeg (rG h st s0 j (h x.toNatClampNeg))) = s0
    rw [if_pos (show x = -1 from p)]
  | k + 1, 0, _, _, q => by omega
  | k + 1, j + 1, x, p, q => by
    show (if x = -1 then s0 else st x.toNatClampNeg (rG h st s0 j (h x.toNatClampNeg))) = (if x = -1 then s0 else st x.toNatClampNeg (rG h st s0 k (h x.toNatClampNeg)))
    rw [rG_st p.2 (Nat.le_of_succ_le_succ q)]
theorem upk_s {h : Nat → Int32} : ∀ (i : Nat) (x : Int32), upk h (i + 1) x = h (upk h i x).toNatClampNeg
  | 0, _ => rfl
  | i + 1, x => upk_s i (h x.toNatClampNeg)
theorem upk_oN {n : Nat} {h : Nat → Int32} (hn : n ≤ 2147483648) (hc : Ch n h) : ∀ {k c : Nat}, c < n → dp h (k + 1) (iN c) → upk h k (iN c) = iN (oN h k c)
  | 0, _, _, _ => rfl
  | k + 1, c, hcn, p => by
    have p2 := p.2
    rw [iN_nat (by omega)] at p2
    show upk h k (h (iN c).toNatClampNeg) = iN (if h c = -1 then c else oN h k (h c).toNatClampNeg)
    rw [iN_nat (by omega)]
    rcases hc c hcn with e | ⟨d, hd, e⟩
    · exact (p2.1 e).elim
    · rw [e] at p2 ⊢
      rw [if_neg (iN_m1 (by omega)), iN_nat (by omega)]
      exact upk_oN hn hc hd p2
theorem rG_congr {n : Nat} {h h' : Nat → Int32} {st st' : Nat → Int32 × Bool → Int32 × Bool} {s0 : Int32 × Bool} (hn : n ≤ 2147483648) (hc : Ch n h) (e1 : ∀ c, c < n → h' c = h c) (e2 : ∀ c, c < n → ∀ s, st' c s = st c s) : ∀ (k : Nat) (x : Int32), ptr n x → rG h' st' s0 k x = rG h st s0 k x
  | 0, _, _ => rfl
  | k + 1, x, hx => by
    show (if x = -1 then s0 else st' x.toNatClampNeg (rG h' st' s0 k (h' x.toNatClampNeg))) = (if x = -1 then s0 else st x.toNatClampNeg (rG h st s0 k (h x.toNatClampNeg)))
    rcases hx with e | ⟨c, hcn, rfl⟩
    · rw [if_pos e, if_pos e]
    · rw [if_neg (iN_m1 (by omega)), if_neg (iN_m1 (by omega)), iN_nat (by omega), e1 c hcn, rG_congr hn hc e1 e2 k _ (hc c hcn), e2 c hcn]
section FC
variable {T z : Nat} {m : Nat → Int32} {w : Wl}
theorem Iv.ind (hI : Iv T z m) {c v : Nat} (hc : c < nC m) (hv : v < nV m) (ho : opb m c = false) : ∃ b, b ≤ 400 ∧ nd m c v = iN b := by
  have h0 : cr m c 1 = 0 := by
    rcases hI.iob hc with ⟨e, _⟩ | ⟨_, e⟩
    · exact e
    · rw [ho] at e; cases e
  obtain ⟨-, ⟨a, ha1, ha2, ea⟩, -, -, h5⟩ := hI.ico c hc
  obtain ⟨⟨x1, x2⟩, x3, x4⟩ := clim_int (h5 h0)
  obtain ⟨⟨y1, y2⟩, y3, y4⟩ := clim_int (hI.icl v hv)
  obtain ⟨p, hp, ep⟩ := ab_sub x1 x2 y1 y2
  obtain ⟨q, hq, eq⟩ := ab_sub x3 x4 y3 y4
  have hle : a * (4 * p + q) ≤ 4 * 1000 := Nat.mul_le_mul ha2 (by omega)
  refine ⟨a * (4 * p + q) / 10, by omega, ?_⟩
  unfold nd
  rw [ea, ep, eq, show (4 : Int32) = iN 4 from rfl, show (10 : Int32) = iN 10 from rfl, iN_mul, iN_add, iN_mul]
  exact (Int32.ofNat_div (by omega) (by decide)).symm
/-- both steps alike: at a venue -/
theorem rG_A (hI : Iv T z m) (v : Nat) (t0 : Int32) : ∀ (k : Nat) (x : Int32), ptr (nC m) x → dp (hol m) k x → rG (hol m) (stC m v) (t0, false) k x = rG (hol m) (stM m v false 0) (t0, false) k x ∧ ((rG (hol m) (stC m v) (t0, false) k x).2 = true → ∃ c, c < nC m ∧ x = iN c ∧ opb m c = false)
  | 0, _, _, _ => ⟨rfl, fun h => by cases h⟩
  | k + 1, x, hx, p => by
    have h12 := hI.ic12
    rcases hx with e | ⟨c, hc, rfl⟩
    · exact (p.1 e).elim
    have p2 := p.2
    rw [iN_nat (by omega)] at p2
    obtain ⟨e1, e2⟩ := rG_A hI v t0 k (hol m c) (hI.ich c hc) p2
    show (if iN c = -1 then (t0, false) else stC m v (iN c).toNatClampNeg (rG (hol m) (stC m v) (t0, false) k (hol m (iN c).toNatClampNeg))) = (if iN c = -1 then (t0, false) else stM m v false 0 (iN c).toNatClampNeg (rG (hol m) (stM m v false 0) (t0, false) k (hol m (iN c).toNatClampNeg))) ∧ ((if iN c = -1 then (t0, false) else stC m v (iN c).toNatClampNeg (rG (hol m) (stC m v) (t0, false) k (hol m (iN c).toNatClampNeg))).2 = true → _)
    rw [if_neg p.1, if_neg p.1, iN_nat (by omega), ← e1]
    generalize hs : rG (hol m) (stC m v) (t0, false) k (hol m c) = s at e2 ⊢
    unfold stC stM
    rcases hI.iob hc with ⟨o1, o2⟩ | ⟨o1, o2⟩
    · rw [o2]
      simp only [iF]
      exact ⟨trivial, fun _ => ⟨c, hc, rfl, o2⟩⟩
    · rw [o2]
      simp only [iT, if_true]
      have hf : s.2 = false := by
        cases hq : s.2
        · rfl
        · exfalso
          obtain ⟨d, hd, ed, od⟩ := e2 hq
          rw [hol_c (by omega)] at ed
          rcases (hI.ico c hc).2.2.1 with e | ⟨d', hd', e, q⟩
          · exact iN_m1 (by omega) (ed.symm.trans e)
          · have : d = d' := (iN_eq (by omega) (by omega)).mp (ed.symm.trans e)
            subst this
            have q := q o1
            rw [opn_c (by omega)] at q
            unfold opb at od
            rw [q] at od
            exact absurd od (by decide)
      refine ⟨?_, fun h => by cases h⟩
      rw [← hf]
/-- .. on the way -/
theorem rG_B (hI : Iv T z m) {v A : Nat} (hv : v < nV m) (hA : tm m ≤ A) (hA2 : A ≤ 1000000200) : ∀ (k c : Nat), c < nC m → dp (hol m) (k + 1) (iN c) → opb m (oN (hol m) k c) = false → rG (hol m) (stC m v) (iN A, true) (k + 1) (iN c) = rG (hol m) (stM m v true (iN A)) (m 0, false) (k + 1) (iN c) ∧ (rG (hol m) (stC m v) (iN A, true) (k + 1) (iN c)).2 = true ∧ ∃ t, A ≤ t ∧ t ≤ A + 400 * (k + 1) ∧ (rG (hol m) (stC m v) (iN A, true) (k + 1) (iN c)).1 = iN t
  | 0, c, hc, p, ho => by
    have h12 := hI.ic12
    have hm := hI.itT
    have h9 := hI.iT9
    have p2 := p.2
    obtain ⟨b, hb, eb⟩ := hI.ind hc hv (show opb m c = false from ho)
    show (if iN c = -1 then (iN A, true) else stC m v (iN c).toNatClampNeg (iN A, true)) = (if iN c = -1 then (m 0, false) else stM m v true (iN A) (iN c).toNatClampNeg (m 0, false)) ∧ (if iN c = -1 then (iN A, true) else stC m v (iN c).toNatClampNeg (iN A, true)).2 = true ∧ ∃ t, A ≤ t ∧ t ≤ A + 400 * (0 + 1) ∧ (if iN c = -1 then (iN A, true) else stC m v (iN c).toNatClampNeg (iN A, true)).1 = iN t
    rw [if_neg p.1, if_neg p.1, iN_nat (by omega)]
    unfold stC stM
    rw [show opb m c = false from ho, eb, hI.it]
    simp only [iF, iT, if_true]
    rw [iN_add, mx_iN (by omega) (by omega), mx_iN (by omega) (by omega), Nat.max_eq_right (by omega), Nat.max_eq_right (by omega)]
    exact ⟨rfl, trivial, A + b, by omega, by omega, rfl⟩
  | k + 1, c, hc, p, ho => by
    have h12 := hI.ic12
    have h9 := hI.iT9
    have p2 := p.2
    rw [iN_nat (by omega)] at p2
    have hoc : opb m c = false := by
      rcases hI.iob hc with ⟨_, e⟩ | ⟨e, _⟩
      · exact e
      · have := oN_open hI (k + 1) c hc e
        unfold opb at ho
        rw [this] at ho
        exact absurd ho (by decide)
    obtain ⟨b, hb, eb⟩ := hI.ind hc hv hoc
    have ho' : opb m (if hol m c = -1 then c else oN (hol m) k (hol m c).toNatClampNeg) = false := ho
    show (if iN c = -1 then (iN A, true) else stC m v (iN c).toNatClampNeg (rG (hol m) (stC m v) (iN A, true) (k + 1) (hol m (iN c).toNatClampNeg))) = (if iN c = -1 then (m 0, false) else stM m v true (iN A) (iN c).toNatClampNeg (rG (hol m) (stM m v true (iN A)) (m 0, false) (k + 1) (hol m (iN c).toNatClampNeg))) ∧ (if iN c = -1 then (iN A, true) else stC m v (iN c).toNatClampNeg (rG (hol m) (stC m v) (iN A, true) (k + 1) (hol m (iN c).toNatClampNeg))).2 = true ∧ ∃ t, A ≤ t ∧ t ≤ A + 400 * (k + 1 + 1) ∧ (if iN c = -1 then (iN A, true) else stC m v (iN c).toNatClampNeg (rG (hol m) (stC m v) (iN A, true) (k + 1) (hol m (iN c).toNatClampNeg))).1 = iN t
    rw [if_neg p.1, if_neg p.1, iN_nat (by omega)]
    have hk : k + 1 ≤ nC m := by
      have := dp_le (by omega) hI.ich (hI.ich c hc) p2
      exact this
    rcases hI.ich c hc with e | ⟨d, hd, e⟩
    · exact (p2.1 e).elim
    · rw [e] at p2 ⊢
      rw [e, if_neg (iN_m1 (by omega)), iN_nat (by omega)] at ho'
      obtain ⟨q1, q2, t, t1, t2, t3⟩ := rG_B hI hv hA hA2 k d hd p2 ho'
      rw [← q1]
      generalize rG (hol m) (stC m v) (iN A, true) (k + 1) (iN d) = s at q2 t3 ⊢
      unfold stC stM
      rw [hoc, q2, eb, t3]
      simp only [iF, iT, if_true]
      rw [iN_add, mx_iN (by omega) (by omega), Nat.max_eq_right (by omega)]
      exact ⟨trivial, trivial, t + b, by omega, by omega, rfl⟩
-- the class
theorem Rl.sameI (hR : Rl w 1 m) (hI : Iv T z m) {w' : Wl} (hw : ∀ r, r ≠ 77 → w' r = w r) : Rl w' 1 m := hR.same (fun r _ h => hw r (by omega)) hI.ic12 hI.iw16
theorem l5_list (hI : Iv T z m) : ∀ (k n a : Nat) (x : Int32) (w : Wl), Rl w 1 m → ptr (nC m) x → dp (hol m) k x → a + k ≤ 12 → k < n → ∃ w', sX5_listAround_4 n w (iN a) x = some (iN (a + k), w') ∧ (∀ r, r ≠ 77 → w' r = w r) ∧ (∀ j, j < k → w' 77 (a + j) = upk (hol m) j x) ∧ ∀ j, j < a → w' 77 j = w 77 j := by
  have h12 := hI.ic12
  intro k
  induction k with
  | zero =>
    intro n a x w hR hx hd ha hn
    obtain ⟨n, rfl⟩ : ∃ q, n = q + 1 := ⟨n - 1, by omega⟩
    have hd : x = -1 := hd
    refine ⟨w, ?_, fun _ _ => rfl, fun j hj => by omega, fun _ _ => rfl⟩
    rw [sX5_listAround_4.eq_2]
    by_cases h : (12 : Int32) ≤ iN a
    · rw [if_pos h]; rfl
    · rw [if_neg h, e6_hasCrate hR hI, ob, hd, ok_m1]
      simp only [iF]
      rfl
  | succ k ih =>
    intro n a x w hR hx hd ha hn
    obtain ⟨n, rfl⟩ : ∃ q, n = q + 1 := ⟨n - 1, by omega⟩
    rcases hx with e | ⟨c, hc, rfl⟩
    · exact (hd.1 e).elim
    have h2 := hd.2
    rw [iN_nat (by omega)] at h2
    have hR' : Rl (wst w 77 a (iN c)) 1 m := hR.sameI hI (fun r hr => wN hr)
    obtain ⟨w', q1, q2, q3, q4⟩ := ih n (a + 1) (hol m c) _ hR' (hI.ich c hc) h2 (by omega) (by omega)
    refine ⟨w', ?_, fun r hr => (q2 r hr).trans (wN hr), fun j hj => ?_, fun j hj => ?_⟩
    · rw [sX5_listAround_4.eq_2, if_neg (show ¬ (12 : Int32) ≤ iN a from fun q => by have := (iN_le (a := 12) (by decide) (by omega)).mp q; omega), e6_hasCrate hR hI, ob, ok_lt (by omega) hc]
      simp only [iT, if_true]
      rw [idx_iN (by omega) (by decide), ob, idx_iN (by omega) (by decide), ob, (hR'.c hc).1, ← hol_c (by omega), iN_s, q1, show a + 1 + k = a + (k + 1) by omega]
    · cases j with
      | zero => rw [Nat.add_zero, q4 a (by omega), wS, uS]; rfl
      | succ j =>
        have := q3 j (by omega)
        rw [show a + 1 + j = a + (j + 1) by omega] at this
        rw [this]
        show _ = upk (hol m) j (hol m (iN c).toNatClampNeg)
        rw [iN_nat (by omega)]
    · rw [q4 j (by omega), wS, uN (by omega)]
theorem l5_time (hR : Rl w 1 m) (hI : Iv T z m) {v k : Nat} {x : Int32} {s0 : Int32 × Bool} (hv : v < nV m) (hk : k ≤ 12) (hx : ptr (nC m) x) (hd : dp (hol m) k x) (hrow : ∀ j, j < k → w 77 j = upk (hol m) j x) : ∀ (i n : Nat) (t : Int32) (b : Bool), i ≤ k → i < n → rG (hol m) (stC m v) s0 (k - i) (upk (hol m) i x) = (t, b) → sX5_timeThrough_62 n w (iN v) t (bI b) (iN i - 1) = some ((rG (hol m) (stC m v) s0 k x).1, w) := by
  have h12 := hI.ic12
  have h8 := hI.iv8
  intro i
  induction i with
  | zero =>
    intro n t b hi hn hs
    obtain ⟨n, rfl⟩ : ∃ q, n = q + 1 := ⟨n - 1, by omega⟩
    rw [sX5_timeThrough_62.eq_2, if_pos (by decide)]
    have hs : rG (hol m) (stC m v) s0 k x = (t, b) := hs
    rw [hs]
  | succ i ih =>
    intro n t b hi hn hs
    obtain ⟨n, rfl⟩ : ∃ q, n = q + 1 := ⟨n - 1, by omega⟩
    have p1 := upk_ptr (i := i) (r := k - i) (by omega) hI.ich hx (by rwa [show i + (k - i) = k by omega])
    have p2 := dp_up (i := i) (r := k - i) (show dp (hol m) (i + (k - i)) x by rwa [show i + (k - i) = k by omega])
    rw [show k - i = (k - (i + 1)) + 1 by omega] at p2
    rcases p1 with e | ⟨c, hc, ec⟩
    · exact (p2.1 e).elim
    have hst : rG (hol m) (stC m v) s0 (k - i) (upk (hol m) i x) = stC m v c (t, b) := by
      rw [show k - i = (k - (i + 1)) + 1 by omega]
      show (if upk (hol m) i x = -1 then s0 else stC m v (upk (hol m) i x).toNatClampNeg (rG (hol m) (stC m v) s0 (k - (i + 1)) (hol m (upk (hol m) i x).toNatClampNeg))) = _
      rw [if_neg p2.1, ← upk_s (h := hol m), hs, ec, iN_nat (by omega)]
    have next : ∀ t' b', stC m v c (t, b) = (t', b') → sX5_timeThrough_62 n w (iN v) t' (bI b') (iN i + (-1)) = some ((rG (hol m) (stC m v) s0 k x).1, w) := fun t' b' e => by
      have := ih n t' b' (by omega) (by omega) (hst.trans e)
      rwa [Int32.sub_eq_add_neg] at this
    rw [sX5_timeThrough_62.eq_2, iN_p, if_neg (iN_neg (by omega)), idx_iN (by omega) (by decide), ob, hrow i (by omega), ec, idx_iN (by omega) (by decide), ob, (hR.a (by omega : c < 12)).2.1]
    rcases hI.iob hc with ⟨o1, o2⟩ | ⟨o1, o2⟩
    · rw [o1, if_pos rfl, (hR.c hc).2.2.2.2.1 o1]
      have k107 : ∀ s : Int32, sX5_timeThrough_107 (fun w l2 l5 l6 l7 => sX5_timeThrough_62 n w l2 l5 l6 l7) w (iN v) t (iN i) (29 + c) s = sX5_timeThrough_62 n w (iN v) (mx t (s + nd m c v)) (bI true) (iN i + (-1)) := fun s => by
        unfold sX5_timeThrough_107 sX5_timeThrough_133
        rw [idx_iN (by omega) (by decide), ob, e3_hours hR (by omega) (by omega), ob, (hR.a (by omega : c < 12)).2.1, o1, if_pos rfl]
        rfl
      rw [k107, k107]
      cases b
      · rw [if_pos (show bI false = 0 from rfl)]
        refine next _ _ ?_
        unfold stC
        rw [o2]
        simp only [iF]
      · rw [if_neg (show ¬ bI true = 0 by decide)]
        refine next _ _ ?_
        unfold stC
        rw [o2]
        simp only [iF, iT, if_true]
    · rw [o1, if_neg (by decide)]
      unfold sX5_timeThrough_133
      rw [(hR.a (by omega : c < 12)).2.1, o1, if_neg (by decide)]
      refine next t false ?_
      unfold stC
      rw [o2]
      simp only [iT, if_true]
theorem e5_timeThrough (hR : Rl w 1 m) (hI : Iv T z m) {c v : Nat} {a : Int32} (hc : c < nC m) (hv : v < nV m) : ∃ w', sX5_timeThrough w (iN c) (iN v) a = some ((rG (hol m) (stC m v) (if a = -1 then (m 0, false) else (a, true)) 12 (iN c)).1, w') ∧ ∀ r, r ≠ 77 → w' r = w r := by
  have h12 := hI.ic12
  have h8 := hI.iv8
  obtain ⟨k, k1, k2⟩ := hI.idc hc
  obtain ⟨w', q1, q2, q3, -⟩ := l5_list hI (k + 1) FU 0 (iN c) w hR (Or.inr ⟨c, hc, rfl⟩) k2 (by omega) (by show k + 1 < 4096; omega)
  have hR' := hR.sameI hI q2
  rw [Nat.zero_add] at q1
  refine ⟨w', ?_, q2⟩
  have hend : upk (hol m) (k + 1) (iN c) = -1 := dp_up (i := k + 1) (r := 0) k2
  have fin : ∀ t b, sX5_timeThrough_62 FU w' (iN v) t (bI b) (iN (k + 1) - 1) = some ((rG (hol m) (stC m v) (t, b) (k + 1) (iN c)).1, w') := fun t b => by
    refine l5_time hR' hI hv k1 (Or.inr ⟨c, hc, rfl⟩) k2 (fun j hj => ?_) (k + 1) FU t b (Nat.le_refl _) (by show k + 1 < 4096; omega) ?_
    · have := q3 j hj
      rwa [Nat.zero_add] at this
    · rw [Nat.sub_self]; rfl
  unfold sX5_timeThrough
  rw [e6_hasVenue hR hI, ob, ok_lt (by omega) hv]
  simp only [iT, if_true]
  unfold sX5_listAround
  rw [show sX5_listAround_4 FU w (0 : Int32) (iN c) = some (iN (k + 1), w') from q1, ob, rG_st k2 k1]
  unfold sX5_timeThrough_42
  show (if a = -1 then (if a = -1 then sX5_timeThrough_62 FU w' (iN v) (w' 1 0) (0 : Int32) (iN (k + 1) - 1) else sX5_timeThrough_62 FU w' (iN v) (w' 1 0) (1 : Int32) (iN (k + 1) - 1)) else (if a = -1 then sX5_timeThrough_62 FU w' (iN v) a (0 : Int32) (iN (k + 1) - 1) else sX5_timeThrough_62 FU w' (iN v) a (1 : Int32) (iN (k + 1) - 1))) = _
  by_cases h : a = -1
  · rw [if_pos h, if_pos h, if_pos h, hR'.s.1]
    exact fin (m 0) false
  · rw [if_neg h, if_neg h, if_neg h]
    exact fin a true
/-- what the class's forecast of a work is, is the model's -/
theorem ready_C (hI : Iv T z m) {i c : Nat} (hi : i < nW m) (hc : c < nC m) (e : wk m i 4 = iN c) :
    (¬ cr m (out m c) 3 = -1 → aReady m i = (rG (hol m) (stC m (cr m (out m c) 3).toNatClampNeg) (m 0, false) 12 (iN c)).1) ∧
    (cr m (out m c) 3 = -1 → ∀ v A, v < nV m → cr m (out m c) 4 = iN v → cr m (out m c) 5 = iN A → tm m ≤ A → A ≤ 1000000200 → aReady m i = (rG (hol m) (stC m v) (iN A, true) 12 (iN c)).1 ∧ ∃ t, A ≤ t ∧ t ≤ A + 400 * 12 ∧ aReady m i = iN t) := by
  have h12 := hI.ic12
  have h8 := hI.iv8
  obtain ⟨k, k1, k2⟩ := hI.idc hc
  unfold aReady
  rw [e, if_neg (iN_m1 (by omega)), iN_nat (by omega)]
  simp only [rG_st k2 k1]
  refine ⟨fun h => ?_, fun h v A hv ev eA hA hA2 => ?_⟩
  · rw [if_neg h, (rG_A hI _ _ (k + 1) (iN c) (Or.inr ⟨c, hc, rfl⟩) k2).1]
  · have ho : opb m (oN (hol m) k c) = false := by
      have e2 : out m c = oN (hol m) k c := oN_st (by omega) hI.ich hc k2 (by omega)
      rw [← e2]
      rcases (hI.ico _ (hI.iout hc)).2.2.2.1 with q | q
      · unfold opb; rw [q.2.2.1]; rfl
      · obtain ⟨⟨u, hu, eu⟩, -, -⟩ := q
        exact (iN_m1 (by omega) (eu.symm.trans h)).elim
    obtain ⟨q1, -, t, t1, t2, t3⟩ := rG_B hI hv hA hA2 k c hc k2 ho
    have t4 : t ≤ A + 400 * 12 := Nat.le_trans t2 (Nat.add_le_add_left (Nat.mul_le_mul_left 400 k1) A)
    rw [if_pos h, ev, eA, iN_nat (by omega), ← q1]
    exact ⟨rfl, t, t1, t4, t3⟩
theorem e5_timeOfWork (hR : Rl w 1 m) (hI : Iv T z m) {i : Nat} (hi : i < nW m) : ∃ w', sX5_timeOfWork w (iN i) = some (aReady m i, w') ∧ ∀ r, r ≠ 77 → w' r = w r := by
  have h12 := hI.ic12
  have h8 := hI.iv8
  have h16 := hI.iw16
  have h9 := hI.iT9
  have hT := hI.itT
  unfold sX5_timeOfWork
  rw [idx_iN (by omega) (by decide), ob, (hR.wo hi).2.2.2.2.1, e6_hasCrate hR hI, ob, ok_ptr (by omega) (hI.iwp hi)]
  rcases hI.iwp hi with e | ⟨c, hc, e⟩
  · rw [e, if_pos rfl]
    simp only [iF]
    refine ⟨w, ?_, fun _ _ => rfl⟩
    unfold aReady
    rw [e, if_pos rfl, hR.s.1]
  · have ho := hI.iout hc
    obtain ⟨rc1, rc2⟩ := ready_C hI hi hc e
    rw [e, if_neg (iN_m1 (by omega))]
    simp only [iT, if_true]
    rw [e6_outermost hR hI hc, ob, idx_iN (by omega) (by decide), ob, (hR.c ho).2.2.1, (hR.c ho).2.2.2.1, (hR.c ho).2.1, if_pos (hI.itop hc)]
    rcases (hI.ico _ ho).2.2.2.1 with ⟨q3, -, -, ⟨v, hv, q4⟩, A, q5, q6, -, q7⟩ | ⟨⟨v, hv, q3⟩, q4, q5⟩
    · obtain ⟨r1, -⟩ := rc2 q3 v A hv q4 q5 q6 (by omega)
      rw [q4, q5, if_neg (iN_m1 (by omega))]
      obtain ⟨w', e1, e2⟩ := e5_timeThrough hR hI (a := iN A) hc hv
      rw [e1, ob, if_neg (iN_m1 (by omega)), ← r1]
      exact ⟨w', rfl, e2⟩
    · have r1 := rc1 (by rw [q3]; exact iN_m1 (by omega))
      rw [q3, iN_nat (by omega)] at r1
      rw [q4, if_pos rfl, q3]
      obtain ⟨w', e1, e2⟩ := e5_timeThrough hR hI (a := -1) hc hv
      rw [e1, ob, if_pos rfl, ← r1]
      exact ⟨w', rfl, e2⟩
theorem e5_timeOfCrate (hR : Rl w 1 m) (hI : Iv T z m) (x : Int32) : ∃ w', sX5_timeOfCrate w x = some (aAll m x, w') ∧ ∀ r, r ≠ 77 → w' r = w r := by
  have h16 := hI.iw16
  unfold sX5_timeOfCrate aAll
  have A0 : ∀ (n : Nat) (a : Int32) (s : Int32 × Wl), (s.1 = a ∧ ∀ r, r ≠ 77 → s.2 r = w r) → sX5_timeOfCrate_4 (n + 1) s.2 x s.1 (iN (nW m)) = some s := by
    intro n a s hs
    have hR' := hR.sameI hI hs.2
    rw [sX5_timeOfCrate_4.eq_2, hR'.r7 hI, if_pos ((iN_le (by omega) (by omega)).mpr (Nat.le_refl _))]
  have A1 : ∀ (n : Nat) (a : Int32) (s : Int32 × Wl) (i : Nat), i < nW m → (s.1 = a ∧ ∀ r, r ≠ 77 → s.2 r = w r) → ∃ s' : Int32 × Wl, (s'.1 = (if isin m (wk m i 4) x = true then mx a (aReady m i) else a) ∧ ∀ r, r ≠ 77 → s'.2 r = w r) ∧ sX5_timeOfCrate_4 (n + 1) s.2 x s.1 (iN i) = sX5_timeOfCrate_4 n s'.2 x s'.1 (iN (i + 1)) := by
    intro n a s i hi hs
    obtain ⟨hs1, hs2⟩ := hs
    have hR' := hR.sameI hI hs2
    rw [sX5_timeOfCrate_4.eq_2, hR'.r7 hI, if_neg (show ¬ iN (nW m) ≤ iN i from fun q => by have := (iN_le (by omega) (by omega)).mp q; omega), idx_iN (by omega) (by decide), ob, (hR'.wo hi).2.2.2.2.1, e6_isInOrBelow hR' hI (hI.iwp hi), ob, iN_s]
    cases hin : isin m (wk m i 4) x
    · simp only [iF]
      exact ⟨s, ⟨hs1, hs2⟩, rfl⟩
    · simp only [iT, if_true]
      obtain ⟨w2, e1, e2⟩ := e5_timeOfWork hR' hI hi
      rw [e1, ob]
      exact ⟨(mx s.1 (aReady m i), w2), ⟨by show mx s.1 _ = _; rw [hs1], fun r hr => (e2 r hr).trans (hs2 r hr)⟩, rfl⟩
  obtain ⟨s', ⟨h1, h2⟩, h3⟩ := loopA (L := fun n (s : Int32 × Wl) l => sX5_timeOfCrate_4 n s.2 x s.1 l) (N := nW m) (fin := fun s => some s) (f := fun i a => if isin m (wk m i 4) x = true then mx a (aReady m i) else a) (fun _ a s => s.1 = a ∧ ∀ r, r ≠ 77 → s.2 r = w r) A0 A1 (nW m) 0 (-1) (-1, w) FU (by omega) (by show _ < 4096; omega) ⟨rfl, fun _ _ => rfl⟩
  refine ⟨s'.2, ?_, h2⟩
  rw [← h1]
  exact h3
end FC
