/-! THE CLASS'S READERS, in words of m. Written by wip/whole/pure/p32.py -/
def ok (n : Nat) (l : Int32) : Bool := if l < 0 then false else if iN n ≤ l then false else true
theorem ok_lt {n c : Nat} (hn : n < 2147483648) (hc : c < n) : ok n (iN c) = true := by
  unfold ok
  rw [if_neg (iN_neg (by omega)), if_neg (by rw [iN_le hn (by omega)]; omega)]
theorem ok_m1 {n : Nat} : ok n (-1) = false := by
  unfold ok
  rw [if_pos (by decide)]
theorem ok_inv {n : Nat} {l : Int32} (hn : n < 2147483648) (h : ok n l = true) : ∃ c, c < n ∧ l = iN c := by
  unfold ok at h
  by_cases h1 : l < 0
  · rw [if_pos h1] at h; cases h
  · rw [if_neg h1] at h
    by_cases h2 : iN n ≤ l
    · rw [if_pos h2] at h; cases h
    · refine ⟨l.toNatClampNeg, ?_, of_nn h1⟩
      rw [of_nn h1, iN_le hn (nat_lt l)] at h2
      omega
theorem ok_ptr {n : Nat} {x : Int32} (hn : n < 2147483648) (h : ptr n x) : ok n x = (if x = -1 then false else true) := by
  rcases h with rfl | ⟨d, hd, rfl⟩
  · rw [ok_m1, if_pos rfl]
  · rw [ok_lt hn hd, if_neg (iN_m1 (by omega))]
def aDirW (m : Nat → Int32) (x : Int32) : Int32 := fld (fun i a => if wk m i 4 = x then a + 1 else a) (nW m) 0 0
def aDirC (m : Nat → Int32) (x : Int32) : Int32 := fld (fun c a => if cr m c 2 = x then a + 1 else a) (nC m) 0 0
def aWin (m : Nat → Int32) (x : Int32) : Int32 := fld (fun i a => if isin m (wk m i 4) x = true then a + 1 else a) (nW m) 0 0
def aVin (m : Nat → Int32) (x : Int32) : Int32 := fld (fun i a => if isin m (wk m i 4) x = true then a + wk m i 1 else a) (nW m) 0 0
def aCbl (m : Nat → Int32) (x : Int32) : Int32 := fld (fun c a => if isin m (cr m c 2) x = true then a + 1 else a) (nC m) 0 0
def aVat (m : Nat → Int32) (x : Int32) : Int32 := fld (fun i a => if wat m i = x then a + wk m i 1 else a) (nW m) 0 0
def aVto (m : Nat → Int32) (x : Int32) : Int32 := fld (fun i a => if wto m i = x then a + wk m i 1 else a) (nW m) 0 0
section RL
variable {T z : Nat} {m : Nat → Int32} {w : Wl}
theorem Rl.s (hR : Rl w 1 m) : RlS (w 1) m := hR.1
theorem Rl.v (hR : Rl w 1 m) {v j : Nat} (hv : v < 8) (hj : j < 5) : w (13 + 2 * v) j = vn m v j := by
  have := (hR.2.1 v hv).1 j hj
  rwa [show 1 + 12 + 2 * v = 13 + 2 * v by omega] at this
theorem Rl.vw (hR : Rl w 1 m) {v j : Nat} (hv : v < 8) (hj : j < 8) : w (13 + 2 * v + 1) j = vn m v (5 + j) := by
  have := (hR.2.1 v hv).2 j hj
  rwa [show 1 + 12 + 2 * v + 1 = 13 + 2 * v + 1 by omega] at this
theorem Rl.a (hR : Rl w 1 m) {c : Nat} (hc : c < 12) : RlA (w (29 + c)) (cr m c) := by
  have := hR.2.2.1 c hc
  rwa [show 1 + 28 + c = 29 + c by omega] at this
theorem Rl.c (hR : Rl w 1 m) {c : Nat} (hc : c < nC m) : RlC (nK m) (tg m) c (w (29 + c)) (cr m c) := by
  have := hR.2.2.2.1 c hc
  rwa [show 1 + 28 + c = 29 + c by omega] at this
theorem Rl.w3 (hR : Rl w 1 m) {i : Nat} (hi : i < 16) : w (41 + 2 * i) 3 = 0 ∨ w (41 + 2 * i) 3 = 1 := by
  have := (hR.2.2.2.2.1 i hi).1
  rwa [show 1 + 40 + 2 * i = 41 + 2 * i by omega] at this
theorem Rl.pl (hR : Rl w 1 m) {i j : Nat} (hi : i < 16) (hj : j < 10) : w (41 + 2 * i + 1) j = wk m i (8 + j) := by
  have := (hR.2.2.2.2.1 i hi).2 j hj
  rwa [show 1 + 40 + 2 * i + 1 = 41 + 2 * i + 1 by omega] at this
theorem Rl.wo (hR : Rl w 1 m) {i : Nat} (hi : i < nW m) : RlW (w (41 + 2 * i)) (wk m i) := by
  have := hR.2.2.2.2.2.1 i hi
  rwa [show 1 + 40 + 2 * i = 41 + 2 * i by omega] at this
theorem Rl.w0 (hR : Rl w 1 m) {i : Nat} (h1 : nW m ≤ i) (hi : i < 16) : w (41 + 2 * i) 6 = 0 ∧ w (41 + 2 * i) 7 = 0 := by
  have := hR.2.2.2.2.2.2.1 i h1 hi
  rwa [show 1 + 40 + 2 * i = 41 + 2 * i by omega] at this
theorem Rl.l (hR : Rl w 1 m) {l j : Nat} (hl : l < 6) (hj : j < 4) : w (7 + l) j = ln m l j := by
  have := hR.2.2.2.2.2.2.2.1 l hl j hj
  rwa [show 1 + 6 + l = 7 + l by omega] at this
theorem Rl.k (hR : Rl w 1 m) {k : Nat} (hk : k < 4) : w 5 k = co m k := hR.2.2.2.2.2.2.2.2 k hk
theorem Rl.r5 (hR : Rl w 1 m) (hI : Iv T z m) : w 1 5 = iN (nV m) := by rw [hR.s.2.2.2.2.2.1, hI.iv]
theorem Rl.r6 (hR : Rl w 1 m) (hI : Iv T z m) : w 1 6 = iN (nC m) := by rw [hR.s.2.2.2.2.2.2.1, hI.ic]
theorem Rl.r7 (hR : Rl w 1 m) (hI : Iv T z m) : w 1 7 = iN (nW m) := by rw [hR.s.2.2.2.2.2.2.2.1, hI.iw]
theorem Rl.r8 (hR : Rl w 1 m) (hI : Iv T z m) : w 1 8 = iN (nK m) := by rw [hR.s.2.2.2.2.2.2.2.2, hI.ik]
theorem Rl.r0 (hR : Rl w 1 m) (hI : Iv T z m) : w 1 0 = iN (tm m) := by rw [hR.s.1, hI.it]
theorem Iv.iat (h : Iv T z m) {c : Nat} (hc : c < nC m) : ptr (nV m) (cr m c 3) := by
  rcases (h.ico c hc).2.2.2.1 with e | e
  · exact Or.inl e.1
  · exact Or.inr e.1
theorem Iv.ihp (h : Iv T z m) {c : Nat} (hc : c < nC m) : ptr (nC m) (cr m c 2) := by
  rcases (h.ico c hc).2.2.1 with e | ⟨d, hd, e, -⟩
  · exact Or.inl e
  · exact Or.inr ⟨d, hd, e⟩
theorem Iv.iwp (h : Iv T z m) {i : Nat} (hi : i < nW m) : ptr (nC m) (wk m i 4) := (h.iwo i hi).2.2.2.1
theorem Iv.ivof (h : Iv T z m) {c : Nat} (hc : c < nC m) : ptr (nV m) (vof m c) := h.iat (h.iout hc)
theorem e6_hasVenue (hR : Rl w 1 m) (hI : Iv T z m) (l : Int32) : sX6_hasVenue w l = some (ok (nV m) l) := by
  unfold sX6_hasVenue ok
  rw [hR.r5 hI]
  by_cases h1 : l < 0
  · rw [if_pos h1, if_pos h1]
  · rw [if_neg h1, if_neg h1]
    by_cases h2 : iN (nV m) ≤ l
    · rw [if_pos h2, if_pos h2]
    · rw [if_neg h2, if_neg h2]
theorem e6_hasCrate (hR : Rl w 1 m) (hI : Iv T z m) (l : Int32) : sX6_hasCrate w l = some (ok (nC m) l) := by
  unfold sX6_hasCrate ok
  rw [hR.r6 hI]
  by_cases h1 : l < 0
  · rw [if_pos h1, if_pos h1]
  · rw [if_neg h1, if_neg h1]
    by_cases h2 : iN (nC m) ≤ l
    · rw [if_pos h2, if_pos h2]
    · rw [if_neg h2, if_neg h2]
theorem e6_hasWork (hR : Rl w 1 m) (hI : Iv T z m) (l : Int32) : sX6_hasWork w l = some (ok (nW m) l) := by
  unfold sX6_hasWork ok
  rw [hR.r7 hI]
  by_cases h1 : l < 0
  · rw [if_pos h1, if_pos h1]
  · rw [if_neg h1, if_neg h1]
    by_cases h2 : iN (nW m) ≤ l
    · rw [if_pos h2, if_pos h2]
    · rw [if_neg h2, if_neg h2]
theorem e6_hasCourier (hR : Rl w 1 m) (hI : Iv T z m) (l : Int32) : sX6_hasCourier w l = some (ok (nK m) l) := by
  unfold sX6_hasCourier ok
  rw [hR.r8 hI]
  by_cases h1 : l < 0
  · rw [if_pos h1, if_pos h1]
  · rw [if_neg h1, if_neg h1]
    by_cases h2 : iN (nK m) ≤ l
    · rw [if_pos h2, if_pos h2]
    · rw [if_neg h2, if_neg h2]
theorem l6_outermost (hR : Rl w 1 m) (hI : Iv T z m) : ∀ (k lev c n : Nat), lev + k = 12 → c < nC m → k < n → sX6_outermost_4 n w (iN c) (iN lev) = some (iN (oN (hol m) k c)) := by
  have h12 := hI.ic12
  intro k
  induction k with
  | zero =>
    intro lev c n hl hc hn
    obtain ⟨n, rfl⟩ : ∃ q, n = q + 1 := ⟨n - 1, by omega⟩
    rw [sX6_outermost_4.eq_2, if_pos (show (12 : Int32) ≤ iN lev from (iN_le (a := 12) (by decide) (by omega)).mpr (by omega))]
    rfl
  | succ k ih =>
    intro lev c n hl hc hn
    obtain ⟨n, rfl⟩ : ∃ q, n = q + 1 := ⟨n - 1, by omega⟩
    rw [sX6_outermost_4.eq_2, if_neg (show ¬ (12 : Int32) ≤ iN lev from fun q => by have := (iN_le (a := 12) (by decide) (by omega)).mp q; omega), idx_iN (by omega) (by decide), ob, hR.r6 hI, (hR.c hc).1]
    show _ = some (iN (if hol m c = -1 then c else oN (hol m) k (hol m c).toNatClampNeg))
    rw [hol_c (by omega)]
    rcases hI.ihp hc with e | ⟨d, hd, e⟩
    · rw [e, if_pos (by decide), if_pos rfl]
    · rw [e, if_neg (iN_neg (by omega)), if_pos ((iN_lt (by omega) (by omega)).mpr hd), if_neg (iN_m1 (by omega)), iN_nat (by omega), iN_s]
      exact ih (lev + 1) d n (by omega) hd (by omega)
theorem e6_outermost (hR : Rl w 1 m) (hI : Iv T z m) {c : Nat} (hc : c < nC m) : sX6_outermost w (iN c) = some (iN (out m c)) := l6_outermost hR hI 12 0 c FU rfl hc (by decide)
theorem Rl.vo (hR : Rl w 1 m) (hI : Iv T z m) {c : Nat} (hc : c < nC m) : w (29 + out m c) 3 = vof m c := by
  rw [(hR.c (hI.iout hc)).2.1, if_pos (hI.itop hc)]
  rfl
theorem e6_venueOfCrate (hR : Rl w 1 m) (hI : Iv T z m) {c : Nat} (hc : c < nC m) : sX6_venueOfCrate w (iN c) = some (vof m c) := by
  have h12 := hI.ic12
  have ho := hI.iout hc
  unfold sX6_venueOfCrate
  rw [e6_outermost hR hI hc, ob, idx_iN (by omega) (by decide), ob, hR.vo hI hc]
theorem l6_isInOrBelow (hR : Rl w 1 m) (hI : Iv T z m) (t : Int32) : ∀ (k lev n : Nat) (x : Int32), lev + k = 12 → ptr (nC m) x → k < n → sX6_isInOrBelow_5 n w t x (iN lev) = some (inN (hol m) k x t) := by
  have h12 := hI.ic12
  intro k
  induction k with
  | zero =>
    intro lev n x hl hx hn
    obtain ⟨n, rfl⟩ : ∃ q, n = q + 1 := ⟨n - 1, by omega⟩
    rw [sX6_isInOrBelow_5.eq_2, if_pos (show (12 : Int32) ≤ iN lev from (iN_le (a := 12) (by decide) (by omega)).mpr (by omega))]
    rfl
  | succ k ih =>
    intro lev n x hl hx hn
    obtain ⟨n, rfl⟩ : ∃ q, n = q + 1 := ⟨n - 1, by omega⟩
    rw [sX6_isInOrBelow_5.eq_2, if_neg (show ¬ (12 : Int32) ≤ iN lev from fun q => by have := (iN_le (a := 12) (by decide) (by omega)).mp q; omega), e6_hasCrate hR hI, ob, ok_ptr (by omega) hx]
    show _ = some (if x = -1 then false else if x = t then true else inN (hol m) k (hol m x.toNatClampNeg) t)
    rcases hx with rfl | ⟨d, hd, rfl⟩
    · rw [if_pos rfl, if_pos rfl, if_neg (by decide)]
    · rw [if_neg (iN_m1 (by omega)), if_pos rfl, if_neg (iN_m1 (by omega))]
      by_cases ht : iN d = t
      · rw [if_pos ht, if_pos ht]
      · rw [if_neg ht, if_neg ht, idx_iN (by omega) (by decide), ob, iN_nat (by omega), hol_c (by omega), (hR.c hd).1, iN_s]
        exact ih (lev + 1) n _ (by omega) (hI.ihp hd) (by omega)
theorem e6_isInOrBelow (hR : Rl w 1 m) (hI : Iv T z m) {x t : Int32} (hx : ptr (nC m) x) : sX6_isInOrBelow w x t = some (isin m x t) := l6_isInOrBelow hR hI t 12 0 FU x rfl hx (by decide)
theorem l6_isWithinReach (hR : Rl w 1 m) (hI : Iv T z m) : ∀ (k lev n c : Nat), lev + k = 12 → c < nC m → k < n → sX6_isWithinReach_4 n w (iN c) (iN lev) = some (rcN (hol m) (opn m) (atv m) k c) := by
  have h12 := hI.ic12
  have h8 := hI.iv8
  intro k
  induction k with
  | zero =>
    intro lev n x hl hx hn
    obtain ⟨n, rfl⟩ : ∃ q, n = q + 1 := ⟨n - 1, by omega⟩
    rw [sX6_isWithinReach_4.eq_2, if_pos (show (12 : Int32) ≤ iN lev from (iN_le (a := 12) (by decide) (by omega)).mpr (by omega))]
    rfl
  | succ k ih =>
    intro lev n c hl hc hn
    obtain ⟨n, rfl⟩ : ∃ q, n = q + 1 := ⟨n - 1, by omega⟩
    rw [sX6_isWithinReach_4.eq_2, if_neg (show ¬ (12 : Int32) ≤ iN lev from fun q => by have := (iN_le (a := 12) (by decide) (by omega)).mp q; omega), idx_iN (by omega) (by decide), ob, (hR.c hc).1, e6_hasCrate hR hI, ob, ok_ptr (by omega) (hI.ihp hc), (hR.c hc).2.1]
    show _ = some (if hol m c = -1 then (if atv m c = -1 then false else true) else if opn m (hol m c).toNatClampNeg = 0 then false else rcN (hol m) (opn m) (atv m) k (hol m c).toNatClampNeg)
    rw [hol_c (by omega), atv_c (by omega)]
    rcases hI.ihp hc with e | ⟨d, hd, e⟩
    · rw [e, if_pos rfl, if_pos rfl, if_pos rfl, if_neg (by decide), e6_hasVenue hR hI, ob, ok_ptr (by omega) (hI.iat hc)]
    · rw [e, if_neg (iN_m1 (by omega)), if_pos rfl, if_neg (iN_m1 (by omega)), idx_iN (by omega) (by decide), ob, iN_nat (by omega), opn_c (by omega), (hR.a (by omega : d < 12)).2.1, iN_s]
      by_cases ho : cr m d 1 = 0
      · rw [if_pos ho, if_pos ho]
      · rw [if_neg ho, if_neg ho]
        exact ih (lev + 1) n d (by omega) hd (by omega)
theorem e6_isWithinReach (hR : Rl w 1 m) (hI : Iv T z m) {c : Nat} (hc : c < nC m) : sX6_isWithinReach w (iN c) = some (reach m c) := l6_isWithinReach hR hI 12 0 FU c rfl hc (by decide)
theorem l6_cratesOutwards (hR : Rl w 1 m) (hI : Iv T z m) : ∀ (k lev n : Nat) (x : Int32), lev + k = 12 → ptr (nC m) x → k < n → sX6_cratesOutwards_4 n w (iN lev) x = some (iN (lev + cnN (hol m) k x)) := by
  have h12 := hI.ic12
  intro k
  induction k with
  | zero =>
    intro lev n x hl hx hn
    obtain ⟨n, rfl⟩ : ∃ q, n = q + 1 := ⟨n - 1, by omega⟩
    rw [sX6_cratesOutwards_4.eq_2, if_pos (show (12 : Int32) ≤ iN lev from (iN_le (a := 12) (by decide) (by omega)).mpr (by omega))]
    rfl
  | succ k ih =>
    intro lev n x hl hx hn
    obtain ⟨n, rfl⟩ : ∃ q, n = q + 1 := ⟨n - 1, by omega⟩
    rw [sX6_cratesOutwards_4.eq_2, if_neg (show ¬ (12 : Int32) ≤ iN lev from fun q => by have := (iN_le (a := 12) (by decide) (by omega)).mp q; omega), e6_hasCrate hR hI, ob, ok_ptr (by omega) hx]
    show _ = some (iN (lev + (if x = -1 then 0 else cnN (hol m) k (hol m x.toNatClampNeg) + 1)))
    rcases hx with rfl | ⟨d, hd, rfl⟩
    · rw [if_pos rfl, if_pos rfl, if_neg (by decide), Nat.add_zero]
    · rw [if_neg (iN_m1 (by omega)), if_pos rfl, if_neg (iN_m1 (by omega)), idx_iN (by omega) (by decide), ob, iN_nat (by omega), hol_c (by omega), (hR.c hd).1, iN_s, ih (lev + 1) n _ (by omega) (hI.ihp hd) (by omega), show lev + 1 + cnN (hol m) k (cr m d 2) = lev + (cnN (hol m) k (cr m d 2) + 1) by omega]
theorem e6_cratesOutwards (hR : Rl w 1 m) (hI : Iv T z m) {x : Int32} (hx : ptr (nC m) x) : sX6_cratesOutwards w x = some (iN (outw m x)) := by
  have := l6_cratesOutwards hR hI 12 0 FU x rfl hx (by decide)
  rwa [Nat.zero_add] at this
theorem e6_isCourierOrNone (hR : Rl w 1 m) (hI : Iv T z m) (l : Int32) : sX6_isCourierOrNone w l = some (if l = -1 then true else ok (nK m) l) := by
  unfold sX6_isCourierOrNone
  rw [e6_hasCourier hR hI, ob]
  by_cases h : l = -1
  · rw [if_pos h, if_pos h]
  · rw [if_neg h, if_neg h]
    cases ok (nK m) l <;> rfl
theorem e6_hoursBetween (hR : Rl w 1 m) (hI : Iv T z m) {a b : Nat} (ha : a < nV m) (hb : b < nV m) : sX6_hoursBetween w (iN a) (iN b) = some (vn m a (5 + b)) := by
  have h8 := hI.iv8
  unfold sX6_hoursBetween
  rw [e6_hasVenue hR hI, ob, ok_lt (by omega) ha, if_pos rfl, e6_hasVenue hR hI, ob, ok_lt (by omega) hb, if_pos rfl, idx_iN (by omega) (by decide), ob, idx_iN (by omega) (by decide), ob, hR.vw (by omega) (by omega)]
theorem e6_venueOfWork (hR : Rl w 1 m) (hI : Iv T z m) {i : Nat} (hi : i < nW m) : sX6_venueOfWork w (iN i) = some (wat m i) := by
  have h16 := hI.iw16
  have h12 := hI.ic12
  unfold sX6_venueOfWork wat
  rw [idx_iN (by omega) (by decide), ob, (hR.wo hi).2.2.2.2.1, e6_hasCrate hR hI, ob, ok_ptr (by omega) (hI.iwp hi), (hR.wo hi).2.2.2.2.2.1]
  rcases hI.iwp hi with e | ⟨d, hd, e⟩
  · rw [e, if_pos rfl, if_neg (by decide), if_pos rfl, if_pos rfl]
  · have ho := hI.iout hd
    rw [e, if_neg (iN_m1 (by omega)), if_pos rfl, if_neg (iN_m1 (by omega)), e6_outermost hR hI hd, ob, idx_iN (by omega) (by decide), ob, iN_nat (by omega), hR.vo hI hd]
theorem e6_goalOfWork (hR : Rl w 1 m) (hI : Iv T z m) {i : Nat} (hi : i < nW m) : sX6_goalOfWork w (iN i) = some (wto m i) := by
  have h16 := hI.iw16
  have h12 := hI.ic12
  unfold sX6_goalOfWork wto
  rw [idx_iN (by omega) (by decide), ob, (hR.wo hi).2.2.2.2.1, e6_hasCrate hR hI, ob, ok_ptr (by omega) (hI.iwp hi)]
  rcases hI.iwp hi with e | ⟨d, hd, e⟩
  · rw [e, if_pos rfl, if_neg (by decide), if_pos rfl]
  · have ho := hI.iout hd
    rw [e, if_neg (iN_m1 (by omega)), if_pos rfl, if_neg (iN_m1 (by omega)), e6_outermost hR hI hd, ob, idx_iN (by omega) (by decide), ob, iN_nat (by omega), (hR.c ho).2.2.1]
theorem e6_worksDirectlyIn (hR : Rl w 1 m) (hI : Iv T z m) (x : Int32) : sX6_worksDirectlyIn w x = some (aDirW m x) := by
  have h16 := hI.iw16
  have h12 := hI.ic12
  unfold sX6_worksDirectlyIn aDirW
  refine loopR (L := fun n a l => sX6_worksDirectlyIn_4 n w x a l) (N := nW m) (fin := some) (f := fun i a => if wk m i 4 = x then a + 1 else a) (fun n a => ?_) (fun n a i hi => ?_) (by show _ < 4096; omega) 0
  · show sX6_worksDirectlyIn_4 (n + 1) w x a (iN (nW m)) = _
    rw [sX6_worksDirectlyIn_4.eq_2, hR.r7 hI, if_pos ((iN_le (by omega) (by omega)).mpr (Nat.le_refl _))]
  · show sX6_worksDirectlyIn_4 (n + 1) w x a (iN i) = sX6_worksDirectlyIn_4 n w x _ _
    rw [sX6_worksDirectlyIn_4.eq_2, hR.r7 hI, if_neg (fun q => by have := (iN_le (by omega) (by omega)).mp q; omega), idx_iN (by omega) (by decide), ob, (hR.wo hi).2.2.2.2.1, iN_s]
    by_cases h : wk m i 4 = x
    · simp only [if_pos h]
    · simp only [if_neg h]
theorem e6_cratesDirectlyIn (hR : Rl w 1 m) (hI : Iv T z m) (x : Int32) : sX6_cratesDirectlyIn w x = some (aDirC m x) := by
  have h16 := hI.iw16
  have h12 := hI.ic12
  unfold sX6_cratesDirectlyIn aDirC
  refine loopR (L := fun n a l => sX6_cratesDirectlyIn_4 n w x a l) (N := nC m) (fin := some) (f := fun c a => if cr m c 2 = x then a + 1 else a) (fun n a => ?_) (fun n a i hi => ?_) (by show _ < 4096; omega) 0
  · show sX6_cratesDirectlyIn_4 (n + 1) w x a (iN (nC m)) = _
    rw [sX6_cratesDirectlyIn_4.eq_2, hR.r6 hI, if_pos ((iN_le (by omega) (by omega)).mpr (Nat.le_refl _))]
  · show sX6_cratesDirectlyIn_4 (n + 1) w x a (iN i) = sX6_cratesDirectlyIn_4 n w x _ _
    rw [sX6_cratesDirectlyIn_4.eq_2, hR.r6 hI, if_neg (fun q => by have := (iN_le (by omega) (by omega)).mp q; omega), idx_iN (by omega) (by decide), ob, (hR.c hi).1, iN_s]
    by_cases h : cr m i 2 = x
    · simp only [if_pos h]
    · simp only [if_neg h]
theorem e6_worksInOrBelow (hR : Rl w 1 m) (hI : Iv T z m) (x : Int32) : sX6_worksInOrBelow w x = some (aWin m x) := by
  have h16 := hI.iw16
  have h12 := hI.ic12
  unfold sX6_worksInOrBelow aWin
  refine loopR (L := fun n a l => sX6_worksInOrBelow_4 n w x a l) (N := nW m) (fin := some) (f := fun i a => if isin m (wk m i 4) x = true then a + 1 else a) (fun n a => ?_) (fun n a i hi => ?_) (by show _ < 4096; omega) 0
  · show sX6_worksInOrBelow_4 (n + 1) w x a (iN (nW m)) = _
    rw [sX6_worksInOrBelow_4.eq_2, hR.r7 hI, if_pos ((iN_le (by omega) (by omega)).mpr (Nat.le_refl _))]
  · show sX6_worksInOrBelow_4 (n + 1) w x a (iN i) = sX6_worksInOrBelow_4 n w x _ _
    rw [sX6_worksInOrBelow_4.eq_2, hR.r7 hI, if_neg (fun q => by have := (iN_le (by omega) (by omega)).mp q; omega), idx_iN (by omega) (by decide), ob, (hR.wo hi).2.2.2.2.1, e6_isInOrBelow hR hI (hI.iwp hi), ob, iN_s]
    by_cases h : isin m (wk m i 4) x = true
    · simp only [if_pos h]
    · simp only [if_neg h]
theorem e6_valueInOrBelow (hR : Rl w 1 m) (hI : Iv T z m) (x : Int32) : sX6_valueInOrBelow w x = some (aVin m x) := by
  have h16 := hI.iw16
  have h12 := hI.ic12
  unfold sX6_valueInOrBelow aVin
  refine loopR (L := fun n a l => sX6_valueInOrBelow_4 n w x a l) (N := nW m) (fin := some) (f := fun i a => if isin m (wk m i 4) x = true then a + wk m i 1 else a) (fun n a => ?_) (fun n a i hi => ?_) (by show _ < 4096; omega) 0
  · show sX6_valueInOrBelow_4 (n + 1) w x a (iN (nW m)) = _
    rw [sX6_valueInOrBelow_4.eq_2, hR.r7 hI, if_pos ((iN_le (by omega) (by omega)).mpr (Nat.le_refl _))]
  · show sX6_valueInOrBelow_4 (n + 1) w x a (iN i) = sX6_valueInOrBelow_4 n w x _ _
    rw [sX6_valueInOrBelow_4.eq_2, hR.r7 hI, if_neg (fun q => by have := (iN_le (by omega) (by omega)).mp q; omega), idx_iN (by omega) (by decide), ob, (hR.wo hi).2.2.2.2.1, (hR.wo hi).2.1, e6_isInOrBelow hR hI (hI.iwp hi), ob, iN_s]
    by_cases h : isin m (wk m i 4) x = true
    · simp only [if_pos h]
    · simp only [if_neg h]
theorem e6_cratesBelow (hR : Rl w 1 m) (hI : Iv T z m) (x : Int32) : sX6_cratesBelow w x = some (aCbl m x) := by
  have h16 := hI.iw16
  have h12 := hI.ic12
  unfold sX6_cratesBelow aCbl
  refine loopR (L := fun n a l => sX6_cratesBelow_4 n w x a l) (N := nC m) (fin := some) (f := fun c a => if isin m (cr m c 2) x = true then a + 1 else a) (fun n a => ?_) (fun n a i hi => ?_) (by show _ < 4096; omega) 0
  · show sX6_cratesBelow_4 (n + 1) w x a (iN (nC m)) = _
    rw [sX6_cratesBelow_4.eq_2, hR.r6 hI, if_pos ((iN_le (by omega) (by omega)).mpr (Nat.le_refl _))]
  · show sX6_cratesBelow_4 (n + 1) w x a (iN i) = sX6_cratesBelow_4 n w x _ _
    rw [sX6_cratesBelow_4.eq_2, hR.r6 hI, if_neg (fun q => by have := (iN_le (by omega) (by omega)).mp q; omega), idx_iN (by omega) (by decide), ob, (hR.c hi).1, e6_isInOrBelow hR hI (hI.ihp hi), ob, iN_s]
    by_cases h : isin m (cr m i 2) x = true
    · simp only [if_pos h]
    · simp only [if_neg h]
theorem e6_valueAt (hR : Rl w 1 m) (hI : Iv T z m) (x : Int32) : sX6_valueAt w x = some (aVat m x) := by
  have h16 := hI.iw16
  have h12 := hI.ic12
  unfold sX6_valueAt aVat
  refine loopR (L := fun n a l => sX6_valueAt_4 n w x a l) (N := nW m) (fin := some) (f := fun i a => if wat m i = x then a + wk m i 1 else a) (fun n a => ?_) (fun n a i hi => ?_) (by show _ < 4096; omega) 0
  · show sX6_valueAt_4 (n + 1) w x a (iN (nW m)) = _
    rw [sX6_valueAt_4.eq_2, hR.r7 hI, if_pos ((iN_le (by omega) (by omega)).mpr (Nat.le_refl _))]
  · show sX6_valueAt_4 (n + 1) w x a (iN i) = sX6_valueAt_4 n w x _ _
    rw [sX6_valueAt_4.eq_2, hR.r7 hI, if_neg (fun q => by have := (iN_le (by omega) (by omega)).mp q; omega), e6_venueOfWork hR hI hi, ob, idx_iN (by omega) (by decide), ob, (hR.wo hi).2.1, iN_s]
    by_cases h : wat m i = x
    · simp only [if_pos h]
    · simp only [if_neg h]
theorem e6_valueOnTheWayTo (hR : Rl w 1 m) (hI : Iv T z m) (x : Int32) : sX6_valueOnTheWayTo w x = some (aVto m x) := by
  have h16 := hI.iw16
  have h12 := hI.ic12
  unfold sX6_valueOnTheWayTo aVto
  refine loopR (L := fun n a l => sX6_valueOnTheWayTo_4 n w x a l) (N := nW m) (fin := some) (f := fun i a => if wto m i = x then a + wk m i 1 else a) (fun n a => ?_) (fun n a i hi => ?_) (by show _ < 4096; omega) 0
  · show sX6_valueOnTheWayTo_4 (n + 1) w x a (iN (nW m)) = _
    rw [sX6_valueOnTheWayTo_4.eq_2, hR.r7 hI, if_pos ((iN_le (by omega) (by omega)).mpr (Nat.le_refl _))]
  · show sX6_valueOnTheWayTo_4 (n + 1) w x a (iN i) = sX6_valueOnTheWayTo_4 n w x _ _
    rw [sX6_valueOnTheWayTo_4.eq_2, hR.r7 hI, if_neg (fun q => by have := (iN_le (by omega) (by omega)).mp q; omega), e6_goalOfWork hR hI hi, ob, idx_iN (by omega) (by decide), ob, (hR.wo hi).2.1, iN_s]
    by_cases h : wto m i = x
    · simp only [if_pos h]
    · simp only [if_neg h]
end RL
