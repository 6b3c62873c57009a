/-! THE CHECKS, both sides, in words of m -/
def anyN (p : Nat → Bool) : Nat → Nat → Bool
  | 0, _ => false
  | k + 1, i => p i || anyN p k (i + 1)
theorem loopAny {L : Nat → Int32 → Option Bool} {N : Nat} {p : Nat → Bool} (h0 : ∀ n, L (n + 1) (iN N) = some false) (h1 : ∀ n i, i < N → L (n + 1) (iN i) = if p i = true then some true else L n (iN (i + 1))) : ∀ (k i n : Nat), i + k = N → k < n → L n (iN i) = some (anyN p k i)
  | 0, i, n, hi, hn => by
    obtain ⟨n, rfl⟩ : ∃ m, n = m + 1 := ⟨n - 1, by omega⟩
    have e : i = N := by omega
    subst e
    exact h0 n
  | k + 1, i, n, hi, hn => by
    obtain ⟨n, rfl⟩ : ∃ m, n = m + 1 := ⟨n - 1, by omega⟩
    rw [h1 n i (by omega)]
    show _ = some (p i || anyN p k (i + 1))
    cases p i
    · simp only [iF, iT, if_true]; rw [Bool.false_or]; exact loopAny h0 h1 k (i + 1) n (by omega) (by omega)
    · simp only [iF, iT, if_true]; rw [Bool.true_or]
theorem fld_and {p : Nat → Bool} : ∀ (k i : Nat) (b : Bool), fld (fun i b => b && !p i) k i b = (b && !anyN p k i)
  | 0, _, b => (Bool.and_true b).symm
  | k + 1, i, b => by
    show fld (fun i b => b && !p i) k (i + 1) (b && !p i) = (b && !(p i || anyN p k (i + 1)))
    rw [fld_and k (i + 1)]
    cases b <;> cases p i <;> rfl
theorem fld_or {p : Nat → Bool} : ∀ (k i : Nat) (b : Bool), fld (fun i b => b || p i) k i b = (b || anyN p k i)
  | 0, _, b => (Bool.or_false b).symm
  | k + 1, i, b => by
    show fld (fun i b => b || p i) k (i + 1) (b || p i) = (b || (p i || anyN p k (i + 1)))
    rw [fld_or k (i + 1)]
    cases b <;> cases p i <;> rfl
theorem anyN_congr {p q : Nat → Bool} : ∀ (k i : Nat), (∀ j, i ≤ j → j < i + k → p j = q j) → anyN p k i = anyN q k i
  | 0, _, _ => rfl
  | k + 1, i, h => by
    show (p i || anyN p k (i + 1)) = (q i || anyN q k (i + 1))
    rw [h i (Nat.le_refl _) (by omega), anyN_congr k (i + 1) (fun j h1 h2 => h j (by omega) (by omega))]
theorem anyN_t {p : Nat → Bool} : ∀ (k i : Nat), anyN p k i = true ↔ ∃ j, i ≤ j ∧ j < i + k ∧ p j = true
  | 0, i => by
    constructor
    · intro h; cases h
    · rintro ⟨j, h1, h2, -⟩; omega
  | k + 1, i => by
    show (p i || anyN p k (i + 1)) = true ↔ _
    rw [Bool.or_eq_true, anyN_t k (i + 1)]
    constructor
    · rintro (h | ⟨j, h1, h2, h3⟩)
      · exact ⟨i, Nat.le_refl _, by omega, h⟩
      · exact ⟨j, by omega, by omega, h3⟩
    · rintro ⟨j, h1, h2, h3⟩
      by_cases e : j = i
      · subst e; exact Or.inl h3
      · exact Or.inr ⟨j, by omega, by omega, h3⟩
def ab (x : Int32) : Int32 := if 0 ≤ x then x else 0 - x
def nd (m : Nat → Int32) (c v : Nat) : Int32 := (cr m c 0 * ((4 : Int32) * ab (cr m c 6 - vn m v 0) + ab (cr m c 7 - vn m v 1))) / (10 : Int32)
def cc3 (e p : Bool) : Int32 := if e = true then (if p = true then 0 else 3) else 1
def cc2 (e p : Bool) : Int32 := if e = true then (if p = true then 0 else 2) else 1
def mOpen (m : Nat → Int32) (c : Nat) : Bool := if opb m c = true then false else if reach m c = true then (if m 0 < cr m c 8 + nd m c (vof m c).toNatClampNeg then false else true) else false
def aHop (m : Nat → Int32) (x : Int32) : Bool := anyN (fun k => if cr m k 2 = x then opb m k else false) (nC m) 0
def mClose (m : Nat → Int32) (c : Nat) : Bool := if opb m c = true then (if reach m c = true then !aHop m (iN c) else false) else false
def mUse (m : Nat → Int32) (c : Nat) (x : Int32) : Bool := if opb m c = true then (if reach m c = true then (if vof m c = x then true else false) else false) else false
def mNest (m : Nat → Int32) (c d : Nat) : Bool := if c = d then false else if opb m c = true then false else if cr m c 2 = -1 then (if cr m c 3 = -1 then false else mUse m d (cr m c 3)) else false
def mTake (m : Nat → Int32) (c : Nat) : Bool := if cr m c 2 = -1 then false else if opb m c = true then false else reach m c
def mPack (m : Nat → Int32) (i c : Nat) : Bool := if wk m i 4 = -1 then mUse m c (wk m i 5) else false
def mUnp (m : Nat → Int32) (i : Nat) : Bool := if wk m i 4 = -1 then false else if opb m (wk m i 4).toNatClampNeg = true then reach m (wk m i 4).toNatClampNeg else false
section CK
variable {T z : Nat} {m : Nat → Int32} {w : Wl}
theorem Iv.iob (h : Iv T z m) {c : Nat} (hc : c < nC m) : (cr m c 1 = 0 ∧ opb m c = false) ∨ (cr m c 1 = 1 ∧ opb m c = true) := by
  unfold opb
  rcases (h.ico c hc).1 with e | e
  · exact Or.inl ⟨e, by rw [e]; rfl⟩
  · exact Or.inr ⟨e, by rw [e]; rfl⟩
theorem Iv.irv (h : Iv T z m) {c : Nat} (hc : c < nC m) (hr : reach m c = true) : ∃ v, v < nV m ∧ vof m c = iN v := by
  have h12 := h.ic12
  have ho := h.iout hc
  obtain ⟨k, h1, h2⟩ := h.idc hc
  have e := rc_ao (w := fun _ => m) h k c hc h2
  unfold reach at hr
  rw [rcN_st (by omega) h.ich hc h2 h1, e, ← oN_st (by omega) h.ich hc h2 (by omega : k ≤ 12)] at hr
  have h3 := (Bool.and_eq_true_iff.mp hr).1
  rcases h.ivof hc with e | e
  · exfalso
    have h4 : (if atv m (out m c) = -1 then false else true) = true := h3
    rw [atv_c (by omega), show cr m (out m c) 3 = -1 from e, if_pos rfl] at h4
    cases h4
  · exact e
theorem e3_hours (hR : Rl w 1 m) {c v : Nat} (hc : c < 12) (hv : v < 8) : sX3_hoursNeededAt w (29 + c) (13 + 2 * v) = some (nd m c v) := by
  unfold sX3_hoursNeededAt nd ab
  rw [(hR.a hc).1, (hR.a hc).2.2.2.1, (hR.a hc).2.2.2.2, hR.v hv (by decide), hR.v hv (by decide)]
theorem e1_firstWrong (a b c : Bool) : sX1_firstWrong w (bI a) (bI b) (bI c) = some (if a = true then (if b = true then (if c = true then 0 else 3) else 2) else 1) := by
  cases a <;> cases b <;> cases c <;> rfl
theorem e1_fw1 (e p : Bool) : sX1_firstWrong w (bI e) (1 : Int32) (bI p) = some (if e = true then (if p = true then 0 else 3) else 1) := by
  cases e <;> cases p <;> rfl
theorem e1_mayBeOpened (hR : Rl w 1 m) (hI : Iv T z m) {c : Nat} (hc : c < nC m) : sX1_mayBeOpened w (iN c) = some (mOpen m c) := by
  have h12 := hI.ic12
  have h8 := hI.iv8
  unfold sX1_mayBeOpened mOpen
  rw [idx_iN (by omega) (by decide), ob, (hR.a (by omega : c < 12)).2.1]
  rcases hI.iob hc with ⟨e1, e2⟩ | ⟨e1, e2⟩
  · rw [e1, e2, if_pos (show (0 : Int32) = 0 from rfl)]; simp only [iF, iT, if_true]; rw [e6_isWithinReach hR hI hc, ob]
    cases hr : reach m c
    · simp only [iF, iT, if_true]
    · obtain ⟨v, hv, ev⟩ := hI.irv hc hr
      simp only [iF, iT, if_true]; rw [e6_venueOfCrate hR hI hc, ob, ev, e6_hasVenue hR hI, ob, ok_lt (by omega) hv]; simp only [iF, iT, if_true]; rw [idx_iN (by omega) (by decide), ob, e3_hours hR (by omega) (by omega), ob, hR.s.1, (hR.c hc).2.2.2.2.1 e1, iN_nat (by omega)]
      by_cases h : m 0 < cr m c 8 + nd m c v
      · rw [if_pos h, if_pos h]
      · rw [if_neg h, if_neg h]
  · rw [e1, e2, if_neg (show ¬ (1 : Int32) = 0 by decide)]; simp only [iF, iT, if_true]
theorem e1_ofOpening (hR : Rl w 1 m) (hI : Iv T z m) (l : Int32) : sX1_ofOpening w l = some (cc3 (ok (nC m) l) (mOpen m l.toNatClampNeg)) := by
  have h12 := hI.ic12
  unfold sX1_ofOpening cc3
  rw [e6_hasCrate hR hI, ob]
  cases h : ok (nC m) l
  · rfl
  · obtain ⟨c, hc, rfl⟩ := ok_inv (by omega) h
    simp only [iF, iT, if_true]; rw [e1_mayBeOpened hR hI hc, ob, iN_nat (by omega)]
    cases mOpen m c <;> rfl
theorem e1_holdsOpenCrate (hR : Rl w 1 m) (hI : Iv T z m) (x : Int32) : sX1_holdsOpenCrate w x = some (aHop m x) := by
  have h12 := hI.ic12
  unfold sX1_holdsOpenCrate aHop
  refine loopAny (L := fun n l => sX1_holdsOpenCrate_2 n w x l) (N := nC m) (p := fun k => if cr m k 2 = x then opb m k else false) (fun n => ?_) (fun n i hi => ?_) (nC m) 0 FU (by omega) (by show _ < 4096; omega)
  · show sX1_holdsOpenCrate_2 (n + 1) w x (iN (nC m)) = _
    rw [sX1_holdsOpenCrate_2.eq_2, hR.r6 hI, if_pos ((iN_le (by omega) (by omega)).mpr (Nat.le_refl _))]
  · show sX1_holdsOpenCrate_2 (n + 1) w x (iN i) = if (if cr m i 2 = x then opb m i else false) = true then some true else sX1_holdsOpenCrate_2 n w x (iN (i + 1))
    rw [sX1_holdsOpenCrate_2.eq_2, hR.r6 hI, if_neg (fun q => by have := (iN_le (by omega) (by omega)).mp q; omega), idx_iN (by omega) (by decide), ob, (hR.c hi).1, (hR.a (by omega : i < 12)).2.1, iN_s]
    by_cases h : cr m i 2 = x
    · rw [if_pos h, if_pos h]
      rcases hI.iob hi with ⟨e1, e2⟩ | ⟨e1, e2⟩
      · rw [e1, e2, if_pos (show (0 : Int32) = 0 from rfl)]; simp only [iF, iT, if_true]
      · rw [e1, e2, if_neg (show ¬ (1 : Int32) = 0 by decide)]; simp only [iF, iT, if_true]
    · rw [if_neg h, if_neg h]; simp only [iF, iT, if_true]
theorem e1_ofClosing (hR : Rl w 1 m) (hI : Iv T z m) (l : Int32) : sX1_ofClosing w l = some (cc3 (ok (nC m) l) (mClose m l.toNatClampNeg)) := by
  have h12 := hI.ic12
  have fw : ∀ e p : Bool, sX1_ofClosing_52 w (bI e) (bI p) = some (if e = true then (if p = true then 0 else 3) else 1) := fun e p => by
    unfold sX1_ofClosing_52
    rw [e1_fw1]; rfl
  unfold sX1_ofClosing cc3 mClose
  rw [e6_hasCrate hR hI, ob]
  cases h : ok (nC m) l
  · exact fw false false
  · obtain ⟨c, hc, rfl⟩ := ok_inv (by omega) h
    simp only [iF, iT, if_true]; rw [idx_iN (by omega) (by decide), ob, (hR.a (by omega : c < 12)).2.1, iN_nat (by omega)]
    rcases hI.iob hc with ⟨e1, e2⟩ | ⟨e1, e2⟩
    · rw [e1, e2, if_pos (show (0 : Int32) = 0 from rfl)]
      exact fw true false
    · rw [e1, e2, if_neg (show ¬ (1 : Int32) = 0 by decide)]; simp only [iF, iT, if_true]; rw [e6_isWithinReach hR hI hc, ob]
      cases hr : reach m c
      · exact fw true false
      · simp only [iF, iT, if_true]; rw [e1_holdsOpenCrate hR hI, ob]
        cases aHop m (iN c)
        · exact fw true true
        · exact fw true false
theorem e1_use (hR : Rl w 1 m) (hI : Iv T z m) {d : Nat} (hd : d < nC m) (x : Int32) : (if (w (29 + d) 1) = 0 then some false else (sX6_isWithinReach w (iN d)).bind (fun r11 => (if r11 = true then (sX6_venueOfCrate w (iN d)).bind (fun r14 => (if r14 = x then some true else some false)) else some false))) = some (mUse m d x) := by
  have h12 := hI.ic12
  unfold mUse
  rw [(hR.a (by omega : d < 12)).2.1]
  rcases hI.iob hd with ⟨e1, e2⟩ | ⟨e1, e2⟩
  · rw [e1, e2, if_pos (show (0 : Int32) = 0 from rfl)]; simp only [iF, iT, if_true]
  · rw [e1, e2, if_neg (show ¬ (1 : Int32) = 0 by decide)]; simp only [iF, iT, if_true]; rw [e6_isWithinReach hR hI hd, ob]
    cases reach m d
    · rfl
    · simp only [iF, iT, if_true]; rw [e6_venueOfCrate hR hI hd, ob]
      by_cases h : vof m d = x
      · rw [if_pos h, if_pos h]
      · rw [if_neg h, if_neg h]
theorem e1_mayBeNested (hR : Rl w 1 m) (hI : Iv T z m) {c d : Nat} (hc : c < nC m) (hd : d < nC m) (hn : ¬ c = d) : sX1_mayBeNested w (iN c) (iN d) = some (mNest m c d) := by
  have h12 := hI.ic12
  unfold sX1_mayBeNested mNest
  rw [idx_iN (by omega) (by decide), ob, (hR.a (by omega : c < 12)).2.1, if_neg hn, (hR.c hc).1, (hR.c hc).2.1, (hR.c hc).2.2.1]
  rcases hI.iob hc with ⟨e1, e2⟩ | ⟨e1, e2⟩
  · rw [e1, e2, if_pos (show (0 : Int32) = 0 from rfl)]; simp only [iF, iT, if_true]
    by_cases h2 : cr m c 2 = -1
    · rw [if_pos h2, if_pos h2, if_pos h2]
      rcases (hI.ico c hc).2.2.2.1 with ⟨q3, -, -, ⟨v, hv, q4⟩, -⟩ | ⟨⟨v, hv, q3⟩, q4, -⟩
      · rw [if_pos q3, q4, if_neg (iN_m1 (by have := hI.iv8; omega))]
      · rw [if_neg (show ¬ cr m c 3 = -1 from fun e => iN_m1 (by have := hI.iv8; omega) (q3.symm.trans e)), if_pos q4, idx_iN (by omega) (by decide), ob]
        exact e1_use hR hI hd _
    · rw [if_neg h2, if_neg h2]
  · rw [e1, e2, if_neg (show ¬ (1 : Int32) = 0 by decide)]; simp only [iF, iT, if_true]
theorem e1_ofNesting (hR : Rl w 1 m) (hI : Iv T z m) (l d : Int32) : sX1_ofNesting w l d = some (cc3 (ok (nC m) l && ok (nC m) d) (mNest m l.toNatClampNeg d.toNatClampNeg)) := by
  have h12 := hI.ic12
  unfold sX1_ofNesting cc3
  rw [e6_hasCrate hR hI, ob]
  cases h : ok (nC m) l
  · rfl
  · simp only [iF, iT, if_true]; rw [e6_hasCrate hR hI, ob]
    cases h' : ok (nC m) d
    · rfl
    · obtain ⟨a, ha, rfl⟩ := ok_inv (by omega) h
      obtain ⟨b, hb, rfl⟩ := ok_inv (by omega) h'
      simp only [iF, iT, if_true]; rw [iN_nat (by omega), iN_nat (by omega)]
      unfold sX1_ofNesting_27
      rw [if_neg (show ¬ (1 : Int32) = 0 by decide)]
      by_cases e : a = b
      · rw [if_pos (by rw [e])]
        unfold mNest
        rw [if_pos e]; rfl
      · rw [if_neg (fun q => e ((iN_eq (by omega) (by omega)).mp q)), e1_mayBeNested hR hI ha hb e, ob]
        cases mNest m a b <;> rfl
theorem e1_ofTakingOut (hR : Rl w 1 m) (hI : Iv T z m) (l : Int32) : sX1_ofTakingOut w l = some (cc3 (ok (nC m) l) (mTake m l.toNatClampNeg)) := by
  have h12 := hI.ic12
  have fw : ∀ e p : Bool, sX1_ofTakingOut_60 w (bI e) (bI p) = some (if e = true then (if p = true then 0 else 3) else 1) := fun e p => by
    unfold sX1_ofTakingOut_60
    rw [e1_fw1]; rfl
  unfold sX1_ofTakingOut cc3 mTake
  rw [e6_hasCrate hR hI, ob]
  cases h : ok (nC m) l
  · exact fw false false
  · obtain ⟨c, hc, rfl⟩ := ok_inv (by omega) h
    simp only [iF, iT, if_true]; rw [idx_iN (by omega) (by decide), ob, (hR.c hc).1, (hR.a (by omega : c < 12)).2.1, iN_nat (by omega)]
    by_cases h2 : cr m c 2 = -1
    · rw [if_pos h2, if_pos h2]
      exact fw true false
    · rw [if_neg h2, if_neg h2]
      rcases hI.iob hc with ⟨e1, e2⟩ | ⟨e1, e2⟩
      · rw [e1, e2, if_pos (show (0 : Int32) = 0 from rfl)]; simp only [iF, iT, if_true]; rw [e6_isWithinReach hR hI hc, ob]
        cases reach m c
        · exact fw true false
        · exact fw true true
      · rw [e1, e2, if_neg (show ¬ (1 : Int32) = 0 by decide)]; simp only [iF, iT, if_true]
        exact fw true false
theorem e1_ofPacking (hR : Rl w 1 m) (hI : Iv T z m) (l d : Int32) : sX1_ofPacking w l d = some (cc3 (ok (nW m) l && ok (nC m) d) (mPack m l.toNatClampNeg d.toNatClampNeg)) := by
  have h12 := hI.ic12
  have h16 := hI.iw16
  have fw : ∀ e p : Bool, sX1_ofPacking_102 w (bI e) (bI p) = some (if e = true then (if p = true then 0 else 3) else 1) := fun e p => by
    unfold sX1_ofPacking_102
    rw [e1_fw1]; rfl
  unfold sX1_ofPacking cc3
  rw [e6_hasWork hR hI, ob]
  cases h : ok (nW m) l
  · exact fw false false
  · simp only [iF, iT, if_true]; rw [e6_hasCrate hR hI, ob]
    cases h' : ok (nC m) d
    · exact fw false false
    · obtain ⟨a, ha, rfl⟩ := ok_inv (by omega) h
      obtain ⟨b, hb, rfl⟩ := ok_inv (by omega) h'
      simp only [iF, iT, if_true]; rw [iN_nat (by omega), iN_nat (by omega)]
      unfold sX1_ofPacking_27 mPack
      rw [if_neg (show ¬ (1 : Int32) = 0 by decide), idx_iN (by omega) (by decide), ob, (hR.wo ha).2.2.2.2.1]
      by_cases h2 : wk m a 4 = -1
      · rw [if_pos h2, if_pos h2, idx_iN (by omega) (by decide), ob, (hR.wo ha).2.2.2.2.2.1, if_pos h2]
        have := e1_use hR hI hb (wk m a 5)
        unfold mUse at this ⊢
        rw [(hR.a (by omega : b < 12)).2.1] at this ⊢
        rcases hI.iob hb with ⟨e1, e2⟩ | ⟨e1, e2⟩
        · rw [e1, e2, if_pos (show (0 : Int32) = 0 from rfl)]; simp only [iF, iT, if_true]
          exact fw true false
        · rw [e1, e2, if_neg (show ¬ (1 : Int32) = 0 by decide)]; simp only [iF, iT, if_true]; rw [e6_isWithinReach hR hI hb, ob]
          cases reach m b
          · exact fw true false
          · simp only [iF, iT, if_true]; rw [e6_venueOfCrate hR hI hb, ob]
            by_cases h : vof m b = wk m a 5
            · rw [if_pos h, if_pos h]; exact fw true true
            · rw [if_neg h, if_neg h]; exact fw true false
      · rw [if_neg h2, if_neg h2]
        exact fw true false
theorem e1_ofUnpacking (hR : Rl w 1 m) (hI : Iv T z m) (l : Int32) : sX1_ofUnpacking w l = some (cc3 (ok (nW m) l) (mUnp m l.toNatClampNeg)) := by
  have h12 := hI.ic12
  have h16 := hI.iw16
  have fw : ∀ e p : Bool, sX1_ofUnpacking_72 w (bI e) (bI p) = some (if e = true then (if p = true then 0 else 3) else 1) := fun e p => by
    unfold sX1_ofUnpacking_72
    rw [e1_fw1]; rfl
  unfold sX1_ofUnpacking cc3 mUnp
  rw [e6_hasWork hR hI, ob]
  cases h : ok (nW m) l
  · simp only [iF, iT, if_true]
    unfold sX1_ofUnpacking_29
    rw [e6_hasCrate hR hI, ob, ok_m1]; simp only [iF, iT, if_true]
    exact fw false false
  · obtain ⟨a, ha, rfl⟩ := ok_inv (by omega) h
    simp only [iF, iT, if_true]; rw [idx_iN (by omega) (by decide), ob, (hR.wo ha).2.2.2.2.1, iN_nat (by omega)]
    unfold sX1_ofUnpacking_29
    rw [e6_hasCrate hR hI, ob, ok_ptr (by omega) (hI.iwp ha)]
    rcases hI.iwp ha with e | ⟨c, hc, e⟩
    · rw [e, if_pos rfl, if_neg (by decide), if_pos rfl]
      exact fw true false
    · rw [e, if_neg (iN_m1 (by omega))]; simp only [iF, iT, if_true]; rw [if_neg (iN_m1 (by omega)), idx_iN (by omega) (by decide), ob, (hR.a (by omega : c < 12)).2.1, iN_nat (by omega)]
      rcases hI.iob hc with ⟨e1, e2⟩ | ⟨e1, e2⟩
      · rw [e1, e2, if_pos (show (0 : Int32) = 0 from rfl)]; simp only [iF, iT, if_true]
        exact fw true false
      · rw [e1, e2, if_neg (show ¬ (1 : Int32) = 0 by decide)]; simp only [iF, iT, if_true]; rw [e6_isWithinReach hR hI hc, ob]
        cases reach m c
        · exact fw true false
        · exact fw true true
end CK
