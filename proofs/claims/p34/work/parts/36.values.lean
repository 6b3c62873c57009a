/-! THE VALUES, both sides, in words of m -/
def aCat (m : Nat → Int32) (x : Int32) : Int32 := fld (fun c a => if cr m c 2 = -1 then (if cr m c 3 = x then a + 1 else a) else a) (nC m) 0 0
def aKat (m : Nat → Int32) (x : Int32) : Int32 := fld (fun k a => if co m k = x then a + 1 else a) (nK m) 0 0
def aWay (m : Nat → Int32) : Int32 := fld (fun i a => if wat m i = -1 then a + 1 else a) (nW m) 0 0
def aOpn (m : Nat → Int32) : Int32 := fld (fun c a => if opb m c = true then a + 1 else a) (nC m) 0 0
def aCrate (m : Nat → Int32) (c : Nat) (l : Int32) : Int32 :=
  if l = 0 then cr m c 0 else if l = 1 then cr m c 1 else if l = 2 then cr m c 2 else if l = 3 then vof m c else if l = 4 then cr m (out m c) 4 else if l = 5 then cr m (out m c) 5
  else if l = 6 then (if opb m c = true then vn m (vof m c).toNatClampNeg 0 else cr m c 6) else if l = 7 then (if opb m c = true then vn m (vof m c).toNatClampNeg 1 else cr m c 7) else if l = 8 then (if opb m c = true then -1 else cr m c 8)
  else if l = 9 then (if opb m c = true then -1 else if vof m c = -1 then -1 else nd m c (vof m c).toNatClampNeg) else if l = 10 then aWin m (iN c) else if l = 11 then aCbl m (iN c) else if l = 12 then aVin m (iN c) else bI (reach m c)
def aWork (m : Nat → Int32) (i : Nat) (l : Int32) : Int32 :=
  if l = 0 then wk m i 0 else if l = 1 then wk m i 1 else if l = 2 then wk m i 2 else if l = 3 then wk m i 3 else if l = 4 then wk m i 4 else if l = 5 then wat m i else if l = 6 then iN (outw m (wk m i 4)) else wk m i 6
def aVenue (m : Nat → Int32) (v : Nat) (l : Int32) : Int32 :=
  if l = 0 then vn m v 0 else if l = 1 then vn m v 1 else if l = 2 then vn m v 2 else if l = 3 then vn m v 3 else if l = 4 then aVat m (iN v) else if l = 5 then aVto m (iN v) else if l = 6 then aCat m (iN v) else if l = 7 then aKat m (iN v) else vn m v 4
def aWhole (m : Nat → Int32) (l : Int32) : Int32 :=
  if l = 0 then m 0 else if l = 1 then m 1 else if l = 2 then m 2 else if l = 3 then m 3 else if l = 4 then m 4 else if l = 5 then m 5 else if l = 6 then m 6 else if l = 7 then m 7 else if l = 8 then aWay m else aOpn m
section VL
variable {T z : Nat} {m : Nat → Int32} {w : Wl}
theorem oN_open (hI : Iv T z m) : ∀ (k c : Nat), c < nC m → cr m c 1 = 1 → cr m (oN (hol m) k c) 1 = 1
  | 0, _, _, h => h
  | k + 1, c, hc, h => by
    have h12 := hI.ic12
    show cr m (if hol m c = -1 then c else oN (hol m) k (hol m c).toNatClampNeg) 1 = 1
    rw [hol_c (by omega)]
    rcases (hI.ico c hc).2.2.1 with e | ⟨d, hd, e, ho⟩
    · rw [if_pos e]; exact h
    · rw [e, if_neg (iN_m1 (by omega)), iN_nat (by omega)]
      have := ho h
      rw [opn_c (by omega)] at this
      exact oN_open hI k d hd this
/-- an open crate is at a venue -/
theorem Iv.ivo (hI : Iv T z m) {c : Nat} (hc : c < nC m) (h : opb m c = true) : ∃ v, v < nV m ∧ vof m c = iN v := by
  have ho := hI.iout hc
  have h1 : cr m c 1 = 1 := by
    rcases hI.iob hc with ⟨_, e⟩ | ⟨e, _⟩
    · rw [e] at h; cases h
    · exact e
  have h2 : cr m (out m c) 1 = 1 := oN_open hI 12 c hc h1
  rcases (hI.ico _ ho).2.2.2.1 with e | e
  · rw [e.2.2.1] at h2; exact absurd h2 (by decide)
  · exact e.1
theorem e8_temperatureIn (hR : Rl w 1 m) (hI : Iv T z m) {c : Nat} (hc : c < nC m) : sX8_temperatureIn w (29 + c) (vof m c) = some (if opb m c = true then vn m (vof m c).toNatClampNeg 0 else cr m c 6) := by
  have h12 := hI.ic12
  have h8 := hI.iv8
  unfold sX8_temperatureIn
  rw [(hR.a (by omega : c < 12)).2.1]
  rcases hI.iob hc with ⟨e1, e2⟩ | ⟨e1, e2⟩
  · rw [e1, e2, if_pos (show (0 : Int32) = 0 from rfl)]
    simp only [iF]
    unfold sX8_temperatureIn_23
    rw [if_pos rfl, (hR.a (by omega : c < 12)).2.2.2.1]
  · obtain ⟨v, hv, ev⟩ := hI.ivo hc e2
    rw [e1, e2, if_neg (show ¬ (1 : Int32) = 0 by decide), ev, e6_hasVenue hR hI, ob, ok_lt (by omega) hv, iN_nat (by omega)]
    simp only [iT, if_true]
    unfold sX8_temperatureIn_23
    rw [if_neg (show ¬ (1 : Int32) = 0 by decide), idx_iN (by omega) (by decide), ob, hR.v (by omega) (by decide)]
theorem e8_humidityIn (hR : Rl w 1 m) (hI : Iv T z m) {c : Nat} (hc : c < nC m) : sX8_humidityIn w (29 + c) (vof m c) = some (if opb m c = true then vn m (vof m c).toNatClampNeg 1 else cr m c 7) := by
  have h12 := hI.ic12
  have h8 := hI.iv8
  unfold sX8_humidityIn
  rw [(hR.a (by omega : c < 12)).2.1]
  rcases hI.iob hc with ⟨e1, e2⟩ | ⟨e1, e2⟩
  · rw [e1, e2, if_pos (show (0 : Int32) = 0 from rfl)]
    simp only [iF]
    unfold sX8_humidityIn_23
    rw [if_pos rfl, (hR.a (by omega : c < 12)).2.2.2.2]
  · obtain ⟨v, hv, ev⟩ := hI.ivo hc e2
    rw [e1, e2, if_neg (show ¬ (1 : Int32) = 0 by decide), ev, e6_hasVenue hR hI, ob, ok_lt (by omega) hv, iN_nat (by omega)]
    simp only [iT, if_true]
    unfold sX8_humidityIn_23
    rw [if_neg (show ¬ (1 : Int32) = 0 by decide), idx_iN (by omega) (by decide), ob, hR.v (by omega) (by decide)]
theorem e8_hoursNeeded (hR : Rl w 1 m) (hI : Iv T z m) {c : Nat} (hc : c < nC m) : sX8_hoursNeeded w (29 + c) (vof m c) = some (if opb m c = true then -1 else if vof m c = -1 then -1 else nd m c (vof m c).toNatClampNeg) := by
  have h12 := hI.ic12
  have h8 := hI.iv8
  unfold sX8_hoursNeeded
  rw [(hR.a (by omega : c < 12)).2.1]
  rcases hI.iob hc with ⟨e1, e2⟩ | ⟨e1, e2⟩
  · rw [e1, e2, if_pos (show (0 : Int32) = 0 from rfl), e6_hasVenue hR hI, ob, ok_ptr (by omega) (hI.ivof hc)]
    simp only [iF]
    unfold sX8_hoursNeeded_23
    rcases hI.ivof hc with e | ⟨v, hv, e⟩
    · rw [e, if_pos (show (-1 : Int32) = -1 from rfl), if_pos (show (-1 : Int32) = -1 from rfl)]
      simp only [iF, if_true]
    · rw [e, if_neg (iN_m1 (by omega)), if_neg (iN_m1 (by omega)), iN_nat (by omega)]
      simp only [iT, if_true]
      rw [if_neg (show ¬ (1 : Int32) = 0 by decide), idx_iN (by omega) (by decide), ob, e3_hours hR (by omega) (by omega), ob]
  · rw [e1, e2, if_neg (show ¬ (1 : Int32) = 0 by decide)]
    simp only [iT, if_true]
    rfl
theorem e8_asNumber (b : Bool) : sX8_asNumber w (bI b) = some (bI b) := by cases b <;> rfl
theorem e8_ofCrate (hR : Rl w 1 m) (hI : Iv T z m) {c : Nat} (hc : c < nC m) (l : Int32) : sX8_ofCrate w (iN c) l = some (aCrate m c l) := by
  have h12 := hI.ic12
  have ho := hI.iout hc
  unfold sX8_ofCrate aCrate
  rw [idx_iN (by omega) (by decide), ob, e6_outermost hR hI hc, ob, idx_iN (by omega) (by decide), ob, hR.vo hI hc, (hR.a (by omega : c < 12)).1, (hR.a (by omega : c < 12)).2.1, (hR.c hc).1, (hR.c ho).2.2.1, (hR.c ho).2.2.2.1, e8_temperatureIn hR hI hc, e8_humidityIn hR hI hc, e8_hoursNeeded hR hI hc, e6_worksInOrBelow hR hI, e6_cratesBelow hR hI, e6_valueInOrBelow hR hI, e6_isWithinReach hR hI hc]
  simp only [ob, e8_asNumber]
  by_cases h0 : l = 0
  · rw [if_pos h0, if_pos h0]
  rw [if_neg h0, if_neg h0]
  by_cases h1 : l = 1
  · rw [if_pos h1, if_pos h1]
    rcases hI.iob hc with ⟨e1, e2⟩ | ⟨e1, e2⟩
    · rw [e1]; rfl
    · rw [e1]; rfl
  rw [if_neg h1, if_neg h1]
  by_cases h2 : l = 2
  · rw [if_pos h2, if_pos h2]
  rw [if_neg h2, if_neg h2]
  by_cases h3 : l = 3
  · rw [if_pos h3, if_pos h3]
  rw [if_neg h3, if_neg h3]
  by_cases h4 : l = 4
  · rw [if_pos h4, if_pos h4]
  rw [if_neg h4, if_neg h4]
  by_cases h5 : l = 5
  · rw [if_pos h5, if_pos h5]
  rw [if_neg h5, if_neg h5]
  by_cases h6 : l = 6
  · rw [if_pos h6, if_pos h6]
  rw [if_neg h6, if_neg h6]
  by_cases h7 : l = 7
  · rw [if_pos h7, if_pos h7]
  rw [if_neg h7, if_neg h7]
  by_cases h8 : l = 8
  · rw [if_pos h8, if_pos h8]
    rcases hI.iob hc with ⟨e1, e2⟩ | ⟨e1, e2⟩
    · rw [e1, e2, if_pos (show (0 : Int32) = 0 from rfl), (hR.c hc).2.2.2.2.1 e1]
      simp only [iF]
    · rw [e1, e2, if_neg (show ¬ (1 : Int32) = 0 by decide)]
      simp only [iT, if_true]
  rw [if_neg h8, if_neg h8]
  by_cases h9 : l = 9
  · rw [if_pos h9, if_pos h9]
  rw [if_neg h9, if_neg h9]
  by_cases h10 : l = 10
  · rw [if_pos h10, if_pos h10]
  rw [if_neg h10, if_neg h10]
  by_cases h11 : l = 11
  · rw [if_pos h11, if_pos h11]
  rw [if_neg h11, if_neg h11]
  by_cases h12 : l = 12
  · rw [if_pos h12, if_pos h12]
  rw [if_neg h12, if_neg h12]
/-- a crate is not below itself -/
theorem in_self {h : Nat → Int32} {c : Nat} (hcn : c < 2147483648) : ∀ {k j : Nat} {x : Int32}, dp h (j + 1) (iN c) → dp h k x → k ≤ j → inN h k x (iN c) = false
  | 0, _, _, _, _, _ => rfl
  | k + 1, j, x, p, q, hk => by
    show (if x = -1 then false else if x = iN c then true else inN h k (h x.toNatClampNeg) (iN c)) = false
    rw [if_neg q.1]
    by_cases e : x = iN c
    · rw [e] at q
      have := dp_fun p q
      omega
    · rw [if_neg e]
      exact in_self hcn p q.2 (by omega)
theorem isin_up (hI : Iv T z m) {c d : Nat} (hc : c < nC m) (hd : d < nC m) : isin m (iN d) (iN c) = if d = c then true else isin m (cr m d 2) (iN c) := by
  have h12 := hI.ic12
  obtain ⟨k, h1, h2⟩ := hI.idc hd
  have h3 := h2.2
  rw [iN_nat (by omega)] at h3
  unfold isin
  rw [inN_st h2 h1, ← hol_c (by omega : d < 12), inN_st h3 (by omega)]
  show (if iN d = -1 then false else if iN d = iN c then true else inN (hol m) k (hol m (iN d).toNatClampNeg) (iN c)) = _
  rw [if_neg (iN_m1 (by omega)), iN_nat (by omega)]
  by_cases e : d = c
  · rw [if_pos e, if_pos (by rw [e])]
  · rw [if_neg e, if_neg (fun q => e ((iN_eq (by omega) (by omega)).mp q))]
theorem isin_not (hI : Iv T z m) {c : Nat} (hc : c < nC m) : isin m (cr m c 2) (iN c) = false := by
  have h12 := hI.ic12
  obtain ⟨k, h1, h2⟩ := hI.idc hc
  have h3 := h2.2
  rw [iN_nat (by omega)] at h3
  unfold isin
  rw [← hol_c (by omega : c < 12), inN_st h3 (by omega)]
  exact in_self (by omega) h2 h3 (Nat.le_refl _)
theorem cbl_eq (hI : Iv T z m) {c : Nat} (hc : c < nC m) : fld (fun d (a : Int32) => if isin m (iN d) (iN c) = true then a + 1 else a) (nC m) 0 (-1) = aCbl m (iN c) := by
  unfold aCbl
  have lem : ∀ k, k ≤ nC m → fld (fun d (a : Int32) => if isin m (iN d) (iN c) = true then a + 1 else a) k 0 (-1) = fld (fun d (a : Int32) => if isin m (cr m d 2) (iN c) = true then a + 1 else a) k 0 0 + (if c < k then 0 else -1) := by
    intro k
    induction k with
    | zero => intro _; rw [if_neg (Nat.not_lt_zero c)]; exact (Int32.zero_add _).symm
    | succ k ih =>
      intro hk
      rw [fld_last, fld_last, ih (by omega), Nat.zero_add]
      generalize fld (fun d (a : Int32) => if isin m (cr m d 2) (iN c) = true then a + 1 else a) k 0 0 = q
      show (if isin m (iN k) (iN c) = true then q + (if c < k then 0 else -1) + 1 else q + (if c < k then 0 else -1)) = (if isin m (cr m k 2) (iN c) = true then q + 1 else q) + (if c < k + 1 then 0 else -1)
      rw [isin_up hI hc (by omega)]
      by_cases e : k = c
      · subst e
        rw [if_pos rfl, isin_not hI hc, if_neg (Nat.lt_irrefl _), if_pos (Nat.lt_succ_self _)]
        simp only [iF, iT, if_true]
        rw [Int32.add_assoc, show (-1 : Int32) + 1 = 0 by decide]
      · rw [if_neg e]
        have e3 : (if c < k + 1 then (0 : Int32) else -1) = (if c < k then 0 else -1) := by
          by_cases h : c < k
          · rw [if_pos h, if_pos (by omega)]
          · rw [if_neg h, if_neg (by omega)]
        rw [e3]
        cases isin m (cr m k 2) (iN c)
        · simp only [iF]
        · simp only [iT, if_true]
          rw [Int32.add_assoc, Int32.add_assoc, Int32.add_comm 1]
  rw [lem _ (Nat.le_refl _), if_pos hc, Int32.add_zero]
-- works
theorem e8_ofWork (hR : Rl w 1 m) (hI : Iv T z m) {i : Nat} (hi : i < nW m) (l : Int32) : sX8_ofWork w (iN i) l = some (aWork m i l) := by
  have h16 := hI.iw16
  unfold sX8_ofWork aWork
  rw [idx_iN (by omega) (by decide), ob, (hR.wo hi).1, (hR.wo hi).2.1, (hR.wo hi).2.2.1, (hR.wo hi).2.2.2.1, (hR.wo hi).2.2.2.2.1, (hR.wo hi).2.2.2.2.2.2.1, e6_venueOfWork hR hI hi, e6_cratesOutwards hR hI (hI.iwp hi)]
  simp only [ob]
  by_cases h0 : l = 0
  · rw [if_pos h0, if_pos h0]
  rw [if_neg h0, if_neg h0]
  by_cases h1 : l = 1
  · rw [if_pos h1, if_pos h1]
  rw [if_neg h1, if_neg h1]
  by_cases h2 : l = 2
  · rw [if_pos h2, if_pos h2]
  rw [if_neg h2, if_neg h2]
  by_cases h3 : l = 3
  · rw [if_pos h3, if_pos h3]
    rcases (hI.iwo i hi).2.2.1 with e | e
    · rw [e]; rfl
    · rw [e]; rfl
  rw [if_neg h3, if_neg h3]
  by_cases h4 : l = 4
  · rw [if_pos h4, if_pos h4]
  rw [if_neg h4, if_neg h4]
  by_cases h5 : l = 5
  · rw [if_pos h5, if_pos h5]
  rw [if_neg h5, if_neg h5]
  by_cases h6 : l = 6
  · rw [if_pos h6, if_pos h6]
  rw [if_neg h6, if_neg h6]
-- venues
theorem e8_cratesAt (hR : Rl w 1 m) (hI : Iv T z m) {x : Int32} (hx : ¬ x = -1) : sX8_cratesAt w x = some (aCat m x) := by
  have h12 := hI.ic12
  unfold sX8_cratesAt aCat
  refine loopR (L := fun n a l => sX8_cratesAt_4 n w x a l) (N := nC m) (fin := some) (f := fun c a => if cr m c 2 = -1 then (if cr m c 3 = x then a + 1 else a) else a) (fun n a => ?_) (fun n a i hi => ?_) (by show _ < 4096; omega) 0
  · show sX8_cratesAt_4 (n + 1) w x a (iN (nC m)) = _
    rw [sX8_cratesAt_4.eq_2, hR.r6 hI, if_pos ((iN_le (by omega) (by omega)).mpr (Nat.le_refl _))]
  · show sX8_cratesAt_4 (n + 1) w x a (iN i) = sX8_cratesAt_4 n w x (if cr m i 2 = -1 then (if cr m i 3 = x then a + 1 else a) else a) (iN (i + 1))
    rw [sX8_cratesAt_4.eq_2, hR.r6 hI, if_neg (fun q => by have := (iN_le (by omega) (by omega)).mp q; omega), idx_iN (by omega) (by decide), ob, (hR.c hi).2.1, iN_s]
    by_cases h : cr m i 2 = -1
    · rw [if_pos h, if_pos h]
      by_cases h3 : cr m i 3 = x
      · rw [if_pos h3, if_pos h3]
      · rw [if_neg h3, if_neg h3]
    · rw [if_neg h, if_neg h, if_neg (fun e => hx e.symm)]
theorem e8_couriersAt (hR : Rl w 1 m) (hI : Iv T z m) (x : Int32) : sX8_couriersAt w x = some (aKat m x) := by
  have h12 := hI.ik4
  unfold sX8_couriersAt aKat
  refine loopR (L := fun n a l => sX8_couriersAt_4 n w x a l) (N := nK m) (fin := some) (f := fun k a => if co m k = x then a + 1 else a) (fun n a => ?_) (fun n a i hi => ?_) (by show _ < 4096; omega) 0
  · show sX8_couriersAt_4 (n + 1) w x a (iN (nK m)) = _
    rw [sX8_couriersAt_4.eq_2, hR.r8 hI, if_pos ((iN_le (by omega) (by omega)).mpr (Nat.le_refl _))]
  · show sX8_couriersAt_4 (n + 1) w x a (iN i) = sX8_couriersAt_4 n w x (if co m i = x then a + 1 else a) (iN (i + 1))
    rw [sX8_couriersAt_4.eq_2, hR.r8 hI, if_neg (fun q => by have := (iN_le (by omega) (by omega)).mp q; omega), idx_iN (by omega) (by decide), ob, hR.k (by omega), iN_s]
    by_cases h3 : co m i = x
    · rw [if_pos h3, if_pos h3]
    · rw [if_neg h3, if_neg h3]
theorem e8_ofVenue (hR : Rl w 1 m) (hI : Iv T z m) {v : Nat} (hv : v < nV m) (l : Int32) : sX8_ofVenue w (iN v) l = some (aVenue m v l) := by
  have h8 := hI.iv8
  unfold sX8_ofVenue aVenue
  rw [idx_iN (by omega) (by decide), ob, hR.v (by omega) (by decide), hR.v (by omega) (by decide), hR.v (by omega) (by decide), hR.v (by omega) (by decide), hR.v (by omega) (by decide), e6_valueAt hR hI, e6_valueOnTheWayTo hR hI, e8_cratesAt hR hI (iN_m1 (by omega)), e8_couriersAt hR hI]
  simp only [ob]
  by_cases h0 : l = 0
  · rw [if_pos h0, if_pos h0]
  rw [if_neg h0, if_neg h0]
  by_cases h1 : l = 1
  · rw [if_pos h1, if_pos h1]
  rw [if_neg h1, if_neg h1]
  by_cases h2 : l = 2
  · rw [if_pos h2, if_pos h2]
  rw [if_neg h2, if_neg h2]
  by_cases h3 : l = 3
  · rw [if_pos h3, if_pos h3]
  rw [if_neg h3, if_neg h3]
  by_cases h4 : l = 4
  · rw [if_pos h4, if_pos h4]
  rw [if_neg h4, if_neg h4]
  by_cases h5 : l = 5
  · rw [if_pos h5, if_pos h5]
  rw [if_neg h5, if_neg h5]
  by_cases h6 : l = 6
  · rw [if_pos h6, if_pos h6]
  rw [if_neg h6, if_neg h6]
  by_cases h7 : l = 7
  · rw [if_pos h7, if_pos h7]
  rw [if_neg h7, if_neg h7]
-- the whole
theorem wto_wat (hI : Iv T z m) {i : Nat} (hi : i < nW m) : wto m i = -1 ↔ ¬ wat m i = -1 := by
  have h12 := hI.ic12
  have h8 := hI.iv8
  unfold wto wat vof
  rcases hI.iwp hi with e | ⟨d, hd, e⟩
  · obtain ⟨v, hv, ev⟩ := (hI.iwo i hi).2.2.2.2.1 e
    rw [if_pos e, if_pos e, ev]
    exact ⟨fun _ => iN_m1 (by omega), fun _ => rfl⟩
  · rw [e, if_neg (iN_m1 (by omega)), if_neg (iN_m1 (by omega)), iN_nat (by omega)]
    rcases (hI.ico _ (hI.iout hd)).2.2.2.1 with ⟨q3, -, -, ⟨v, hv, q4⟩, -⟩ | ⟨⟨v, hv, q3⟩, q4, -⟩
    · rw [q3, q4]
      exact ⟨fun e => (iN_m1 (by omega) e).elim, fun e => (e rfl).elim⟩
    · rw [q3, q4]
      exact ⟨fun _ => iN_m1 (by omega), fun _ => rfl⟩
theorem e8_worksOnTheirWay (hR : Rl w 1 m) (hI : Iv T z m) : sX8_worksOnTheirWay w = some (aWay m) := by
  have h16 := hI.iw16
  unfold sX8_worksOnTheirWay aWay
  refine loopR (L := fun n a l => sX8_worksOnTheirWay_4 n w a l) (N := nW m) (fin := some) (f := fun i a => if wat m i = -1 then a + 1 else a) (fun n a => ?_) (fun n a i hi => ?_) (by show _ < 4096; omega) 0
  · show sX8_worksOnTheirWay_4 (n + 1) w a (iN (nW m)) = _
    rw [sX8_worksOnTheirWay_4.eq_2, hR.r7 hI, if_pos ((iN_le (by omega) (by omega)).mpr (Nat.le_refl _))]
  · show sX8_worksOnTheirWay_4 (n + 1) w a (iN i) = sX8_worksOnTheirWay_4 n w (if wat m i = -1 then a + 1 else a) (iN (i + 1))
    rw [sX8_worksOnTheirWay_4.eq_2, hR.r7 hI, if_neg (fun q => by have := (iN_le (by omega) (by omega)).mp q; omega), e6_goalOfWork hR hI hi, ob, iN_s]
    by_cases h : wat m i = -1
    · rw [if_pos h, if_neg (fun e => (wto_wat hI hi).mp e h)]
    · rw [if_neg h, if_pos ((wto_wat hI hi).mpr h)]
theorem e8_openCrates (hR : Rl w 1 m) (hI : Iv T z m) : sX8_openCrates w = some (aOpn m) := by
  have h12 := hI.ic12
  unfold sX8_openCrates aOpn
  refine loopR (L := fun n a l => sX8_openCrates_4 n w a l) (N := nC m) (fin := some) (f := fun i a => if opb m i = true then a + 1 else a) (fun n a => ?_) (fun n a i hi => ?_) (by show _ < 4096; omega) 0
  · show sX8_openCrates_4 (n + 1) w a (iN (nC m)) = _
    rw [sX8_openCrates_4.eq_2, hR.r6 hI, if_pos ((iN_le (by omega) (by omega)).mpr (Nat.le_refl _))]
  · show sX8_openCrates_4 (n + 1) w a (iN i) = sX8_openCrates_4 n w (if opb m i = true then a + 1 else a) (iN (i + 1))
    rw [sX8_openCrates_4.eq_2, hR.r6 hI, if_neg (fun q => by have := (iN_le (by omega) (by omega)).mp q; omega), idx_iN (by omega) (by decide), ob, (hR.a (by omega : i < 12)).2.1, iN_s]
    rcases hI.iob hi with ⟨e1, e2⟩ | ⟨e1, e2⟩
    · rw [e1, e2, if_pos (show (0 : Int32) = 0 from rfl)]; simp only [iF]
    · rw [e1, e2, if_neg (show ¬ (1 : Int32) = 0 by decide)]; simp only [iT, if_true]
theorem e8_ofWhole (hR : Rl w 1 m) (hI : Iv T z m) (l : Int32) : sX8_ofWhole w l = some (aWhole m l) := by
  unfold sX8_ofWhole aWhole
  rw [e8_worksOnTheirWay hR hI, e8_openCrates hR hI, hR.s.1, hR.s.2.2.1, hR.s.2.2.2.1, hR.s.2.2.2.2.1, hR.s.2.2.2.2.2.1, hR.s.2.2.2.2.2.2.1, hR.s.2.2.2.2.2.2.2.1, hR.s.2.2.2.2.2.2.2.2]
  simp only [ob]
  by_cases h0 : l = 0
  · rw [if_pos h0, if_pos h0]
  rw [if_neg h0, if_neg h0]
  by_cases h1 : l = 1
  · rw [if_pos h1, if_pos h1]
  rw [if_neg h1, if_neg h1]
  by_cases h2 : l = 2
  · rw [if_pos h2, if_pos h2]
  rw [if_neg h2, if_neg h2]
  by_cases h3 : l = 3
  · rw [if_pos h3, if_pos h3]
  rw [if_neg h3, if_neg h3]
  by_cases h4 : l = 4
  · rw [if_pos h4, if_pos h4]
  rw [if_neg h4, if_neg h4]
  by_cases h5 : l = 5
  · rw [if_pos h5, if_pos h5]
  rw [if_neg h5, if_neg h5]
  by_cases h6 : l = 6
  · rw [if_pos h6, if_pos h6]
  rw [if_neg h6, if_neg h6]
  by_cases h7 : l = 7
  · rw [if_pos h7, if_pos h7]
  rw [if_neg h7, if_neg h7]
  by_cases h8 : l = 8
  · rw [if_pos h8, if_pos h8]
  rw [if_neg h8, if_neg h8]
def aNoted (m : Nat → Int32) (i : Nat) (l : Int32) : Int32 := if wk m i 7 ≤ l then -1 else wk m i (8 + l.toNatClampNeg)
theorem e11_placeNoted (hR : Rl w 1 m) (hI : Iv T z m) {i : Nat} {l : Int32} (hi : i < nW m) (hl : ¬ l < 0) : sX11_placeNoted w (41 + 2 * i) l = some (aNoted m i l) := by
  have h16 := hI.iw16
  obtain ⟨a, ha, ea⟩ := (hI.iwo i hi).2.2.2.2.2
  unfold sX11_placeNoted aNoted
  rw [if_neg hl, (hR.wo hi).2.2.2.2.2.2.2]
  by_cases h : wk m i 7 ≤ l
  · rw [if_pos h, if_pos h]
  · rw [if_neg h, if_neg h]
    have e := of_nn hl
    have hlt : l.toNatClampNeg < 10 := by
      rw [ea, e, iN_le (by omega) (nat_lt l)] at h
      omega
    rw [e, idx_iN hlt (by decide), ob, iN_nat (nat_lt l), hR.pl (by omega) hlt]
end VL
