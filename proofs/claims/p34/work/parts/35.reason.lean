/-! THE REASONS, both sides, in words of m -/
theorem fld_map {α β : Type} {f : Nat → α → α} {g : Nat → β → β} (φ : α → β) : ∀ (k i : Nat) (a : α), (∀ j, i ≤ j → j < i + k → ∀ b, φ (f j b) = g j (φ b)) → φ (fld f k i a) = fld g k i (φ a)
  | 0, _, _, _ => rfl
  | k + 1, i, a, h => by
    show φ (fld f k (i + 1) (f i a)) = fld g k (i + 1) (g i (φ a))
    rw [← h i (Nat.le_refl _) (by omega)]
    exact fld_map φ k (i + 1) _ (fun j h1 h2 b => h j (by omega) (by omega) b)
def brd (m : Nat → Int32) (i v : Nat) : Bool := if (((ln m (wk m i 0).toNatClampNeg 3) >>> (iN v &&& 31)) &&& (1 : Int32)) = (1 : Int32) then true else false
def sut (m : Nat → Int32) (i v : Nat) : Bool := if vn m v 0 < ln m (wk m i 0).toNatClampNeg 0 then false else if ln m (wk m i 0).toNatClampNeg 1 < vn m v 0 then false else if ln m (wk m i 0).toNatClampNeg 2 < vn m v 1 then false else true
def lgo (m : Nat → Int32) (i : Nat) : Bool := if wk m i 2 = 0 then true else false
def lrf (m : Nat → Int32) (i v : Nat) : Int32 := if brd m i v = true then 6 else if sut m i v = true then 0 else 7
def wrf (m : Nat → Int32) (i v : Nat) : Int32 := if lgo m i = true then 5 else lrf m i v
def aWref (m : Nat → Int32) (c v : Nat) : Int32 := (fun a => if a = (8 : Int32) then (0 : Int32) else a) (fld (fun i a => if isin m (wk m i 4) (iN c) = true then (if wrf m i v = 0 then a else if a ≤ wrf m i v then a else wrf m i v) else a) (nW m) 0 8)
def aVfor (m : Nat → Int32) (c v : Nat) : Int64 := fld (fun i a => if isin m (wk m i 4) (iN c) = true then a + (wk m i 1).toInt64 else if wat m i = iN v then a + (wk m i 1).toInt64 else if wto m i = iN v then a + (wk m i 1).toInt64 else a) (nW m) 0 0
def aEsc (m : Nat → Int32) (x : Int32) : Bool := anyN (fun i => if wk m i 3 = 0 then false else isin m (wk m i 4) x) (nW m) 0
def aReason (m : Nat → Int32) (c v : Nat) (x : Int32) : Int32 :=
  if opb m c = true then 1 else if cr m c 2 = -1 then (if cr m c 3 = -1 then 3 else if cr m c 3 = iN v then 4 else if vn m (cr m c 3).toNatClampNeg (5 + v) = 0 then 4 else if aWref m c v = 0 then
    (if lg_cmp (aVfor m c v) (vn m v 3).toInt64 ≤ 0 then (if x = -1 then (if aEsc m (iN c) = true then 9 else 0) else if co m x.toNatClampNeg = cr m c 3 then 0 else 10) else 8) else aWref m c v) else 2
def mSend (m : Nat → Int32) (c v : Nat) (x : Int32) : Bool := if aReason m c v x = 0 then true else false
def okx (n : Nat) (x : Int32) : Bool := if x = -1 then true else ok n x
section RE
variable {T z : Nat} {m : Nat → Int32} {w : Wl}
theorem e1_bars (hR : Rl w 1 m) (hI : Iv T z m) {i l v : Nat} (hi : i < nW m) (hl : l < 6) (e : wk m i 0 = iN l) : sX1_bars w (7 + l) (iN v) = some (brd m i v) := by
  unfold sX1_bars brd
  rw [hR.l hl (by decide), e, iN_nat (by omega)]
  by_cases h : (((ln m l 3) >>> (iN v &&& 31)) &&& (1 : Int32)) = (1 : Int32)
  · rw [if_pos h, if_pos h]
  · rw [if_neg h, if_neg h]
theorem e1_suits (hR : Rl w 1 m) (hI : Iv T z m) {i l v : Nat} (hi : i < nW m) (hl : l < 6) (hv : v < 8) (e : wk m i 0 = iN l) : sX1_suits w (7 + l) (13 + 2 * v) = some (sut m i v) := by
  unfold sX1_suits sut
  rw [hR.l hl (by decide), hR.l hl (by decide), hR.l hl (by decide), hR.v hv (by decide), hR.v hv (by decide), e, iN_nat (by omega)]
  by_cases h : vn m v 0 < ln m l 0
  · rw [if_pos h, if_pos h]
  · rw [if_neg h, if_neg h]
    by_cases h : ln m l 1 < vn m v 0
    · rw [if_pos h, if_pos h]
    · rw [if_neg h, if_neg h]
      by_cases h : ln m l 2 < vn m v 1
      · rw [if_pos h, if_pos h]
      · rw [if_neg h, if_neg h]
theorem e1_reasonOfWorks (hR : Rl w 1 m) (hI : Iv T z m) {c v : Nat} (hv : v < nV m) : sX1_reasonOfWorks w (iN c) (iN v) = some (aWref m c v) := by
  have h16 := hI.iw16
  have h8 := hI.iv8
  unfold sX1_reasonOfWorks
  have key := loopR (L := fun n (a : Bool × Bool × Bool) l => sX1_reasonOfWorks_11 n w (iN c) (iN v) (bI a.1) (bI a.2.1) (bI a.2.2) l) (N := nW m) (fin := fun a => some (if a.1 = true then (5 : Int32) else if a.2.1 = true then 6 else if a.2.2 = true then 7 else 0)) (f := fun i a => if isin m (wk m i 4) (iN c) = true then (a.1 || lgo m i, a.2.1 || brd m i v, a.2.2 || !sut m i v) else a) (fun n a => ?_) (fun n a i hi => ?_) (by show _ < 4096; omega) (false, false, false)
  · refine Eq.trans key ?_
    unfold aWref
    show some _ = some _
    congr 1
    have hm := fld_map (f := fun i (a : Bool × Bool × Bool) => if isin m (wk m i 4) (iN c) = true then (a.1 || lgo m i, a.2.1 || brd m i v, a.2.2 || !sut m i v) else a) (g := fun i (a : Int32) => if isin m (wk m i 4) (iN c) = true then (if wrf m i v = 0 then a else if a ≤ wrf m i v then a else wrf m i v) else a) (fun a => if a.1 = true then (5 : Int32) else if a.2.1 = true then 6 else if a.2.2 = true then 7 else 8) (nW m) 0 (false, false, false) (fun j _ _ b => by
      obtain ⟨b1, b2, b3⟩ := b
      unfold wrf lrf
      cases isin m (wk m j 4) (iN c)
      · rfl
      · cases lgo m j <;> cases brd m j v <;> cases sut m j v <;> cases b1 <;> cases b2 <;> cases b3 <;> decide)
    show _ = (fun a => if a = (8 : Int32) then (0 : Int32) else a) (fld _ _ _ ((fun a : Bool × Bool × Bool => if a.1 = true then (5 : Int32) else if a.2.1 = true then 6 else if a.2.2 = true then 7 else 8) (false, false, false)))
    rw [← hm]
    generalize fld _ _ _ _ = q
    obtain ⟨b1, b2, b3⟩ := q
    cases b1 <;> cases b2 <;> cases b3 <;> decide
  · obtain ⟨b1, b2, b3⟩ := a
    show sX1_reasonOfWorks_11 (n + 1) w (iN c) (iN v) (bI b1) (bI b2) (bI b3) (iN (nW m)) = _
    rw [sX1_reasonOfWorks_11.eq_2, hR.r7 hI, if_pos ((iN_le (by omega) (by omega)).mpr (Nat.le_refl _))]
    cases b1 <;> cases b2 <;> cases b3 <;> rfl
  · obtain ⟨b1, b2, b3⟩ := a
    obtain ⟨l, hl, el⟩ := (hI.iwo i hi).1
    have hl2 : (w (41 + 2 * i) 0) = iN l := (hR.wo hi).1.trans el
    show sX1_reasonOfWorks_11 (n + 1) w (iN c) (iN v) (bI b1) (bI b2) (bI b3) (iN i) = (fun a : Bool × Bool × Bool => sX1_reasonOfWorks_11 n w (iN c) (iN v) (bI a.1) (bI a.2.1) (bI a.2.2) (iN (i + 1))) (if isin m (wk m i 4) (iN c) = true then (b1 || lgo m i, b2 || brd m i v, b3 || !sut m i v) else (b1, b2, b3))
    have k99 : ∀ p q : Bool, sX1_reasonOfWorks_99 (fun w l1 l2 l3 l4 l5 l6 => sX1_reasonOfWorks_11 n w l1 l2 l3 l4 l5 l6) w (iN c) (iN v) (bI p) (bI b3) (iN i) (41 + 2 * i) (bI q) = sX1_reasonOfWorks_11 n w (iN c) (iN v) (bI p) (bI q) (bI (b3 || !sut m i v)) (iN (i + 1)) := fun p q => by
      unfold sX1_reasonOfWorks_99
      rw [iN_s]
      cases b3
      · rw [if_pos (show bI false = 0 from rfl), hl2, idx_iN hl (by decide), ob, idx_iN (by omega) (by decide), ob, e1_suits hR hI hi hl (by omega) el, ob]
        cases sut m i v <;> rfl
      · rfl
    have k68 : ∀ p : Bool, sX1_reasonOfWorks_68 (fun w l1 l2 l3 l4 l5 l6 => sX1_reasonOfWorks_11 n w l1 l2 l3 l4 l5 l6) w (iN c) (iN v) (bI b2) (bI b3) (iN i) (41 + 2 * i) (bI p) = sX1_reasonOfWorks_11 n w (iN c) (iN v) (bI p) (bI (b2 || brd m i v)) (bI (b3 || !sut m i v)) (iN (i + 1)) := fun p => by
      unfold sX1_reasonOfWorks_68
      cases b2
      · rw [if_pos (show bI false = 0 from rfl), hl2, idx_iN hl (by decide), ob, e1_bars hR hI hi hl el, ob]
        cases brd m i v
        · exact k99 p false
        · exact k99 p true
      · exact k99 p true
    rw [sX1_reasonOfWorks_11.eq_2, hR.r7 hI, if_neg (fun q => by have := (iN_le (by omega) (by omega)).mp q; omega), idx_iN (by omega) (by decide), ob, (hR.wo hi).2.2.2.2.1, e6_isInOrBelow hR hI (hI.iwp hi), ob, iN_s, (hR.wo hi).2.2.1]
    cases isin m (wk m i 4) (iN c)
    · rfl
    · simp only [iF, iT, if_true]
      cases b1
      · rw [if_pos (show bI false = 0 from rfl)]
        unfold lgo
        by_cases h2 : wk m i 2 = 0
        · rw [if_pos h2, if_pos h2]
          exact k68 true
        · rw [if_neg h2, if_neg h2]
          exact k68 false
      · exact k68 true
theorem e1_needsCourier (hR : Rl w 1 m) (hI : Iv T z m) (x : Int32) : sX1_needsCourier w x = some (aEsc m x) := by
  have h16 := hI.iw16
  unfold sX1_needsCourier aEsc
  refine loopAny (L := fun n l => sX1_needsCourier_2 n w x l) (N := nW m) (p := fun i => if wk m i 3 = 0 then false else isin m (wk m i 4) x) (fun n => ?_) (fun n i hi => ?_) (nW m) 0 FU (by omega) (by show _ < 4096; omega)
  · show sX1_needsCourier_2 (n + 1) w x (iN (nW m)) = _
    rw [sX1_needsCourier_2.eq_2, hR.r7 hI, if_pos ((iN_le (by omega) (by omega)).mpr (Nat.le_refl _))]
  · show sX1_needsCourier_2 (n + 1) w x (iN i) = if (if wk m i 3 = 0 then false else isin m (wk m i 4) x) = true then some true else sX1_needsCourier_2 n w x (iN (i + 1))
    rw [sX1_needsCourier_2.eq_2, hR.r7 hI, if_neg (fun q => by have := (iN_le (by omega) (by omega)).mp q; omega), idx_iN (by omega) (by decide), ob, (hR.wo hi).2.2.2.1, (hR.wo hi).2.2.2.2.1, iN_s]
    by_cases h : wk m i 3 = 0
    · rw [if_pos h, if_pos h]; simp only [iF, iT, if_true]
    · rw [if_neg h, if_neg h, e6_isInOrBelow hR hI (hI.iwp hi), ob]
/-- the sum of three is the sum over all -/
theorem sum3 (hI : Iv T z m) {c v : Nat} (hx : ∀ i, i < nW m → isin m (wk m i 4) (iN c) = true → ¬ wat m i = iN v ∧ ¬ wto m i = iN v) (hy : ∀ i, i < nW m → wat m i = iN v → ¬ wto m i = iN v) :
    ∃ a b d, aVin m (iN c) = iN a ∧ aVat m (iN v) = iN b ∧ aVto m (iN v) = iN d ∧ aVfor m c v = (iN (a + b + d)).toInt64 ∧ a + b + d ≤ 16000000 := by
  have h16 := hI.iw16
  have key : ∀ k, k ≤ nW m → ∃ a b d, fld (fun i a => if isin m (wk m i 4) (iN c) = true then a + wk m i 1 else a) k 0 0 = iN a ∧ fld (fun i a => if wat m i = iN v then a + wk m i 1 else a) k 0 0 = iN b ∧ fld (fun i a => if wto m i = iN v then a + wk m i 1 else a) k 0 0 = iN d ∧
      fld (fun i a => if isin m (wk m i 4) (iN c) = true then a + (wk m i 1).toInt64 else if wat m i = iN v then a + (wk m i 1).toInt64 else if wto m i = iN v then a + (wk m i 1).toInt64 else a) k 0 0 = (iN (a + b + d)).toInt64 ∧ a + b + d ≤ 1000000 * k := by
    intro k
    induction k with
    | zero => intro _; exact ⟨0, 0, 0, rfl, rfl, rfl, rfl, by omega⟩
    | succ k ih =>
      intro hk
      obtain ⟨a, b, d, e1, e2, e3, e4, e5⟩ := ih (by omega)
      obtain ⟨y, hy1, hy2, ey⟩ := (hI.iwo k (by omega)).2.1
      rw [fld_last, fld_last, fld_last, fld_last, e1, e2, e3, e4, Nat.zero_add]
      have ad : ∀ n : Nat, n ≤ 1000000 * k → (iN n).toInt64 + (wk m k 1).toInt64 = (iN (n + y)).toInt64 := fun n hn => by
        rw [ey]
        unfold iN
        rw [Int32.toInt64_ofNat' (by show (n : Int) ≤ 2147483647; omega), Int32.toInt64_ofNat' (by show (y : Int) ≤ 2147483647; omega), Int32.toInt64_ofNat' (by show ((n + y : Nat) : Int) ≤ 2147483647; omega), Int64.ofNat_add]
      have hxk := hx k (by omega)
      have hyk := hy k (by omega)
      cases hi : isin m (wk m k 4) (iN c)
      · by_cases h1 : wat m k = iN v
        · have h2 := hyk h1
          refine ⟨a, b + y, d, ?_, ?_, ?_, ?_, by omega⟩
          · exact if_neg (by decide)
          · show (if wat m k = iN v then iN b + wk m k 1 else iN b) = _
            rw [if_pos h1, ey, iN_add]
          · exact if_neg h2
          · show (if false = true then _ else if wat m k = iN v then _ else _) = _
            simp only [iF, iT, if_true]; rw [if_pos h1, ad _ e5, show a + b + d + y = a + (b + y) + d by omega]
        · by_cases h2 : wto m k = iN v
          · refine ⟨a, b, d + y, ?_, ?_, ?_, ?_, by omega⟩
            · exact if_neg (by decide)
            · exact if_neg h1
            · show (if wto m k = iN v then iN d + wk m k 1 else iN d) = _
              rw [if_pos h2, ey, iN_add]
            · show (if false = true then _ else if wat m k = iN v then _ else if wto m k = iN v then _ else _) = _
              simp only [iF, iT, if_true]; rw [if_neg h1, if_pos h2, ad _ e5, show a + b + d + y = a + b + (d + y) by omega]
          · refine ⟨a, b, d, if_neg (by decide), if_neg h1, if_neg h2, ?_, by omega⟩
            show (if false = true then _ else if wat m k = iN v then _ else if wto m k = iN v then _ else _) = _
            simp only [iF, iT, if_true]; rw [if_neg h1, if_neg h2]
      · obtain ⟨h1, h2⟩ := hxk hi
        refine ⟨a + y, b, d, ?_, if_neg h1, if_neg h2, ?_, by omega⟩
        · show (if true = true then iN a + wk m k 1 else iN a) = _
          simp only [iF, iT, if_true]; rw [ey, iN_add]
        · show (if true = true then _ else _) = _
          simp only [iF, iT, if_true]; rw [ad _ e5, show a + b + d + y = a + y + b + d by omega]
  obtain ⟨a, b, d, e1, e2, e3, e4, e5⟩ := key (nW m) (Nat.le_refl _)
  exact ⟨a, b, d, e1, e2, e3, e4, by omega⟩
/-- whose chain meets c, its outermost is that of c -/
theorem in_out {n : Nat} {h : Nat → Int32} (hn : n ≤ 2147483648) (hc : Ch n h) {c : Nat} (hcn : c < n) (htop : h c = -1) : ∀ {k d : Nat}, d < n → dp h (k + 1) (iN d) → inN h (k + 1) (iN d) (iN c) = true → oN h k d = c
  | 0, d, hd, p, q => by
    have q : (if iN d = -1 then false else if iN d = iN c then true else false) = true := q
    rw [if_neg (iN_m1 (by omega))] at q
    by_cases e : iN d = iN c
    · show d = c; exact (iN_eq (by omega) (by omega)).mp e
    · rw [if_neg e] at q; cases q
  | k + 1, d, hd, p, q => by
    have p2 := p.2
    rw [iN_nat (by omega)] at p2
    have q : (if iN d = -1 then false else if iN d = iN c then true else inN h (k + 1) (h (iN d).toNatClampNeg) (iN c)) = true := q
    rw [if_neg (iN_m1 (by omega)), iN_nat (by omega)] at q
    show (if h d = -1 then d else oN h k (h d).toNatClampNeg) = c
    by_cases e : iN d = iN c
    · have := (iN_eq (by omega) (by omega)).mp e
      subst this
      rw [if_pos htop]
    · rw [if_neg e] at q
      rcases hc d hd with e2 | ⟨d', hd', e2⟩
      · exact (p2.1 e2).elim
      · rw [e2] at p2 q ⊢
        rw [if_neg (iN_m1 (by omega)), iN_nat (by omega)]
        exact in_out hn hc hcn htop hd' p2 q
theorem Iv.iio (h : Iv T z m) {c d : Nat} (hc : c < nC m) (hd : d < nC m) (htop : cr m c 2 = -1) (hi : isin m (iN d) (iN c) = true) : out m d = c := by
  have h12 := h.ic12
  obtain ⟨k, h1, h2⟩ := h.idc hd
  unfold isin at hi
  rw [inN_st h2 h1] at hi
  unfold out
  rw [oN_st (by omega) h.ich hd h2 (by omega : k ≤ 12)]
  exact in_out (by omega) h.ich hc (by rw [hol_c (by omega)]; exact htop) hd h2 hi
theorem e1_isAboveCap (hR : Rl w 1 m) (hI : Iv T z m) {c v : Nat} (hc : c < nC m) (hv : v < nV m) (h2 : cr m c 2 = -1) (h3 : ¬ cr m c 3 = -1) (h4 : ¬ cr m c 3 = iN v) : sX1_isAboveCap w (iN c) (iN v) = some (if lg_cmp (aVfor m c v) (vn m v 3).toInt64 ≤ 0 then false else true) := by
  have h12 := hI.ic12
  have h8 := hI.iv8
  have out4 : ∀ d, d < nC m → ¬ cr m d 3 = -1 → cr m d 4 = -1 := fun d hd hq => by
    rcases (hI.ico d hd).2.2.2.1 with e | e
    · exact (hq e.1).elim
    · exact e.2.1
  obtain ⟨a, b, d, e1, e2, e3, e4, e5⟩ := sum3 hI (c := c) (v := v) (fun i hi hin => by
      rcases hI.iwp hi with e | ⟨d, hd, e⟩
      · rw [e] at hin
        exact absurd hin (by unfold isin; rw [show inN (hol m) 12 (-1) (iN c) = false from if_pos rfl]; decide)
      · rw [e] at hin
        have ho := hI.iio hc hd h2 hin
        unfold wat wto vof
        rw [e, if_neg (iN_m1 (by omega)), if_neg (iN_m1 (by omega)), iN_nat (by omega), ho]
        exact ⟨h4, by rw [out4 c hc h3]; exact m1_iN (by omega)⟩) (fun i hi hat => by
      unfold wat vof at hat
      unfold wto
      rcases hI.iwp hi with e | ⟨d, hd, e⟩
      · rw [e, if_pos rfl]; exact m1_iN (by omega)
      · rw [e, if_neg (iN_m1 (by omega)), iN_nat (by omega)] at hat ⊢
        rw [out4 _ (hI.iout hd) (by rw [hat]; exact iN_m1 (by omega))]
        exact m1_iN (by omega))
  unfold sX1_isAboveCap
  rw [e6_valueInOrBelow hR hI, ob, e6_valueAt hR hI, ob, e6_valueOnTheWayTo hR hI, ob, idx_iN (by omega) (by decide), ob, hR.v (by omega) (by decide), e1, e2, e3, e4, iN_add, iN_add]
  have hl : lg_cmp (iN (a + b + d)).toInt64 (vn m v 3).toInt64 ≤ 0 ↔ iN (a + b + d) ≤ vn m v 3 := by
    unfold lg_cmp
    by_cases hg : iN (a + b + d) ≤ vn m v 3
    · have : ¬ (iN (a + b + d)).toInt64 > (vn m v 3).toInt64 := fun q => Int32.not_lt.mpr hg (Int32.toInt64_lt.mp q)
      rw [if_neg this]
      refine ⟨fun _ => hg, fun _ => ?_⟩
      split <;> decide
    · have : (iN (a + b + d)).toInt64 > (vn m v 3).toInt64 := Int32.toInt64_lt.mpr (Int32.not_le.mp hg)
      rw [if_pos this]
      exact ⟨fun q => absurd q (by decide), fun q => absurd q hg⟩
  by_cases hg : iN (a + b + d) ≤ vn m v 3
  · rw [if_pos hg, if_pos (hl.mpr hg)]
  · rw [if_neg hg, if_neg (fun q => hg (hl.mp q))]
theorem e1_reasonOfCourier (hR : Rl w 1 m) (hI : Iv T z m) {c : Nat} {x : Int32} (hc : c < nC m) (hx : ptr (nK m) x) (h2 : cr m c 2 = -1) : sX1_reasonOfCourier w (iN c) x = some (if x = -1 then (if aEsc m (iN c) = true then 9 else 0) else if co m x.toNatClampNeg = cr m c 3 then 0 else 10) := by
  have h12 := hI.ic12
  have h4 := hI.ik4
  unfold sX1_reasonOfCourier
  rw [e6_hasCourier hR hI, ob, ok_ptr (by omega) hx]
  rcases hx with e | ⟨k, hk, e⟩
  · rw [e, if_pos rfl, if_neg (by decide), if_pos rfl, e1_needsCourier hR hI, ob]
    cases aEsc m (iN c) <;> rfl
  · rw [e, if_neg (iN_m1 (by omega))]; simp only [iF, iT, if_true]; rw [if_neg (iN_m1 (by omega)), idx_iN (by omega) (by decide), ob, idx_iN (by omega) (by decide), ob, hR.k (by omega), (hR.c hc).2.1, if_pos h2, iN_nat (by omega)]
    unfold sX1_reasonOfCourier_55
    by_cases h9 : co m k = cr m c 3
    · rw [if_pos h9, if_pos h9]; rw [if_neg (show ¬ (1 : Int32) = 0 by decide)]
    · rw [if_neg h9, if_neg h9]; simp only [iF, iT, if_true]
theorem e1_reasonAgainst (hR : Rl w 1 m) (hI : Iv T z m) {c v : Nat} {x : Int32} (hc : c < nC m) (hv : v < nV m) (hx : ptr (nK m) x) : sX1_reasonAgainst w (iN c) (iN v) x = some (aReason m c v x) := by
  have h12 := hI.ic12
  have h8 := hI.iv8
  have st : ∀ r : Int32, ¬ r = 0 → sX1_reasonAgainst_21 w (iN c) (iN v) x r = some r := fun r hr => by
    unfold sX1_reasonAgainst_21 sX1_reasonAgainst_39
    rw [if_neg hr, if_neg hr]
  unfold sX1_reasonAgainst sX1_reasonOfCrate aReason
  rw [idx_iN (by omega) (by decide), ob, (hR.a (by omega : c < 12)).2.1, (hR.c hc).1, (hR.c hc).2.1, (hR.c hc).2.2.1]
  rcases hI.iob hc with ⟨e1, e2⟩ | ⟨e1, e2⟩
  · rw [e1, e2, if_pos (show (0 : Int32) = 0 from rfl)]; simp only [iF, iT, if_true]
    by_cases h2 : cr m c 2 = -1
    · rw [if_pos h2, if_pos h2, if_pos h2]
      rcases (hI.ico c hc).2.2.2.1 with ⟨q3, -, -, ⟨v', hv', q4⟩, -⟩ | ⟨⟨u, hu, q3⟩, q4, -⟩
      · rw [if_pos q3, q4, if_neg (iN_m1 (by omega)), ob]; rw [if_neg (show ¬ (3 : Int32) = 0 by decide)]
        exact st 3 (by decide)
      · have h3' : ¬ cr m c 3 = -1 := fun e => iN_m1 (by omega) (q3.symm.trans e)
        rw [if_neg h3', q4]; simp only [iF, iT, if_true]; rw [q3, e6_hoursBetween hR hI hu hv, ob, iN_nat (by omega)]
        by_cases h5 : iN u = iN v
        · have hd := hI.iwd v (by omega)
          rw [if_pos h5, (iN_eq (by omega) (by omega)).mp h5, hd, if_pos (show (0 : Int32) = 0 from rfl), ob, if_neg (show ¬ (4 : Int32) = 0 by decide)]
          exact st 4 (by decide)
        · rw [if_neg h5]
          by_cases h6 : vn m u (5 + v) = 0
          · rw [if_pos h6, if_pos h6, ob, if_neg (show ¬ (4 : Int32) = 0 by decide)]
            exact st 4 (by decide)
          · rw [if_neg h6, if_neg h6, ob]; simp only [iF, iT, if_true]; rw [e1_reasonOfWorks hR hI hv, ob]
            by_cases h7 : aWref m c v = 0
            · rw [if_pos h7, h7]
              unfold sX1_reasonAgainst_21
              simp only [iF, iT, if_true]; rw [e1_isAboveCap hR hI hc hv h2 h3' (by rw [q3]; exact h5), ob]
              by_cases h8' : lg_cmp (aVfor m c v) (vn m v 3).toInt64 ≤ 0
              · rw [if_pos h8', if_pos h8']; simp only [iF, iT, if_true]
                unfold sX1_reasonAgainst_39
                simp only [iF, iT, if_true]; rw [e1_reasonOfCourier hR hI hc hx h2, ob, q3]
              · rw [if_neg h8', if_neg h8']; simp only [iF, iT, if_true]
                rfl
            · rw [if_neg h7]
              exact st _ h7
    · rw [if_neg h2, if_neg h2, ob, if_neg (show ¬ (2 : Int32) = 0 by decide)]
      exact st 2 (by decide)
  · rw [e1, e2, if_neg (show ¬ (1 : Int32) = 0 by decide)]; rw [ob, if_neg (show ¬ (1 : Int32) = 0 by decide)]; simp only [iF, iT, if_true]
    exact st 1 (by decide)
theorem okx_inv {n : Nat} {x : Int32} (hn : n < 2147483648) (h : okx n x = true) : ptr n x := by
  unfold okx at h
  by_cases e : x = -1
  · exact Or.inl e
  · rw [if_neg e] at h
    exact Or.inr (ok_inv hn h)
theorem e1_ofLeg (hR : Rl w 1 m) (hI : Iv T z m) (l v x : Int32) : sX1_ofLeg w l v x = some (if (ok (nC m) l && (ok (nV m) v && okx (nK m) x)) = true then 0 else 1) := by
  unfold sX1_ofLeg
  rw [e6_hasCrate hR hI, ob]
  cases ok (nC m) l
  · rfl
  · simp only [iF, iT, if_true]; rw [e6_hasVenue hR hI, ob]
    cases ok (nV m) v
    · rfl
    · simp only [iF, iT, if_true]; rw [e6_isCourierOrNone hR hI, ob]
      show _ = some (if okx (nK m) x = true then 0 else 1)
      unfold okx
      cases (if x = -1 then true else ok (nK m) x) <;> rfl
theorem e1_ofSending (hR : Rl w 1 m) (hI : Iv T z m) (l v x : Int32) : sX1_ofSending w l v x = some (cc3 (ok (nC m) l && (ok (nV m) v && okx (nK m) x)) (mSend m l.toNatClampNeg v.toNatClampNeg x)) := by
  have h12 := hI.ic12
  have h8 := hI.iv8
  have h4 := hI.ik4
  unfold sX1_ofSending cc3 mSend
  rw [e1_ofLeg hR hI, ob]
  cases h : (ok (nC m) l && (ok (nV m) v && okx (nK m) x))
  · rfl
  · obtain ⟨ha, hb⟩ := Bool.and_eq_true_iff.mp h
    obtain ⟨hb, hd⟩ := Bool.and_eq_true_iff.mp hb
    obtain ⟨a, ha2, rfl⟩ := ok_inv (by omega) ha
    obtain ⟨b, hb2, rfl⟩ := ok_inv (by omega) hb
    simp only [iF, iT, if_true]; rw [e1_reasonAgainst hR hI ha2 hb2 (okx_inv (by omega) hd), ob, iN_nat (by omega), iN_nat (by omega)]
    by_cases e : aReason m a b x = 0
    · rw [if_pos e, if_pos e]; rfl
    · rw [if_neg e, if_neg e]; rfl
end RE
