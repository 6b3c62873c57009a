/-! BOTH SIDES: makers and setters. Written by wip/whole/pure/p64.py -/
section BM
variable {w : Wl} {T : Nat} {m : Nat → Int32}
def rng (a b x : Int32) : Bool := if x < a then false else if b < x then false else true
theorem e1_in {a b x : Int32} : sX1_isIn w x a b = some (rng a b x) := by
  unfold sX1_isIn rng
  by_cases h1 : x < a
  · rw [if_pos h1, if_pos h1]
  · rw [if_neg h1, if_neg h1]
    by_cases h2 : b < x
    · rw [if_pos h2, if_pos h2]
    · rw [if_neg h2, if_neg h2]
theorem e13_rng {a b x : Int32} : sX13_in w x a b = some (rng a b x) := e1_in (w := w)
theorem rng_t {a b x : Int32} (h : rng a b x = true) : a ≤ x ∧ x ≤ b := by
  unfold rng at h
  by_cases h1 : x < a
  · rw [if_pos h1] at h; cases h
  · rw [if_neg h1] at h
    by_cases h2 : b < x
    · rw [if_pos h2] at h; cases h
    · exact ⟨Int32.not_lt.mp h1, Int32.not_lt.mp h2⟩
theorem rng_n {a b : Nat} {x : Int32} (ha : a < 2147483648) (hb : b < 2147483648) (h : rng (iN a) (iN b) x = true) : ∃ k, a ≤ k ∧ k ≤ b ∧ x = iN k := by
  obtain ⟨h1, h2⟩ := rng_t h
  have h0 : ¬ x < 0 := fun q => by
    have : iN a < 0 := Int32.lt_of_le_of_lt h1 q
    exact iN_neg ha this
  have e := of_nn h0
  have hl := nat_lt x
  generalize x.toNatClampNeg = k at e hl
  subst e
  exact ⟨k, (iN_le ha hl).mp h1, (iN_le hl hb).mp h2, rfl⟩
def clB (a b : Int32) : Bool := rng (-10) 40 a && rng 20 90 b
theorem e1_climate {a b : Int32} : sX1_isClimate w a b = some (clB a b) := by
  unfold sX1_isClimate clB
  rw [e1_in, ob]
  cases rng (-10) 40 a
  · rfl
  · simp only [if_true]
    rw [e1_in, ob]
    cases rng 20 90 b <;> rfl
theorem e13_climate {a b : Int32} : sX13_isClimate w a b = some (clB a b) := e1_climate (w := w)
theorem clB_t {a b : Int32} (h : clB a b = true) : clim a b := by
  obtain ⟨x, y⟩ := band h
  obtain ⟨h1, h2⟩ := rng_t x
  obtain ⟨h3, h4⟩ := rng_t y
  exact ⟨h1, h2, h3, h4⟩
def leB (j a : Int32) : Bool := if j = 0 then rng (-10) 40 a else if j = 1 then rng (-10) 40 a else if j = 2 then rng 20 90 a else if j = 3 then rng 0 255 a else false
theorem e1_lent {a b : Int32} : sX1_isLenderValue w a b = some (leB a b) := by
  unfold sX1_isLenderValue leB
  simp only [e1_in, ob]
  by_cases h0 : a = 0
  · rw [if_pos h0, if_pos h0]
  rw [if_neg h0, if_neg h0]
  by_cases h1 : a = 1
  · rw [if_pos h1, if_pos h1]
  rw [if_neg h1, if_neg h1]
  by_cases h2 : a = 2
  · rw [if_pos h2, if_pos h2]
  rw [if_neg h2, if_neg h2]
  by_cases h3 : a = 3
  · rw [if_pos h3, if_pos h3]
  rw [if_neg h3, if_neg h3]
theorem e13_lent {a b : Int32} : sX13_isLent w a b = some (leB a b) := e1_lent (w := w)
theorem leB_t {j a : Int32} (h : leB j a = true) : ∃ k, k < 4 ∧ j = iN k := by
  unfold leB at h
  by_cases h0 : j = 0
  · exact ⟨0, by decide, h0⟩
  rw [if_neg h0] at h
  by_cases h1 : j = 1
  · exact ⟨1, by decide, h1⟩
  rw [if_neg h1] at h
  by_cases h2 : j = 2
  · exact ⟨2, by decide, h2⟩
  rw [if_neg h2] at h
  by_cases h3 : j = 3
  · exact ⟨3, by decide, h3⟩
  rw [if_neg h3] at h; cases h
/-- which of three wrongs comes first -/
def f3 (e r s : Bool) : Int32 := if e = true then (if r = true then (if s = true then 0 else 3) else 2) else 1
theorem e1_f3 {e r s : Bool} : sX1_firstWrong w (bI e) (bI r) (bI s) = some (f3 e r s) := e1_firstWrong e r s
theorem f3_0 {e r s : Bool} (h : f3 e r s = 0) : e = true ∧ r = true ∧ s = true := by
  cases e <;> cases r <;> cases s <;> first | exact ⟨rfl, rfl, rfl⟩ | exact absurd h (by decide)
/-- there is room for one more -/
def room (n N : Nat) : Bool := if N ≤ n then false else true
theorem room_t {n N : Nat} (h : room n N = true) : n < N := by
  unfold room at h
  by_cases h1 : N ≤ n
  · rw [if_pos h1] at h; cases h
  · omega
def ksel (k1 k2 k3 : Int32) (e r s : Bool) : Int32 := if e = true then (if r = true then (if s = true then 0 else k3) else k2) else k1
theorem ks1 {k1 k2 k3 : Int32} {r s : Bool} : ksel k1 k2 k3 false r s = k1 := rfl
theorem ks2 {k1 k2 k3 : Int32} {s : Bool} : ksel k1 k2 k3 true false s = k2 := rfl
theorem ks3 {k1 k2 k3 : Int32} : ksel k1 k2 k3 true true false = k3 := rfl
theorem ks0 {k1 k2 k3 : Int32} : ksel k1 k2 k3 true true true = 0 := rfl
theorem bw {α : Type} {x y : Bool} {A B : α} : (if x = true then (if y = true then A else B) else B) = if (x && y) = true then A else B := by cases x <;> cases y <;> rfl
theorem CK_f3 {e r s : Bool} {c1 c2 c3 : Option Int32} {k1 k2 k3 : Int32} (h1 : e = true ∨ (c1 = some k1 ∧ ¬ k1 = 0)) (h2 : r = true ∨ (c2 = some k2 ∧ ¬ k2 = 0)) (h3 : s = true ∨ (c3 = some k3 ∧ ¬ k3 = 0)) : CK c1 c2 c3 (f3 e r s) (ksel k1 k2 k3 e r s) := by
  cases e
  · rcases h1 with h | ⟨h, g⟩
    · cases h
    · exact Or.inr ⟨g, Or.inl ⟨rfl, h⟩⟩
  · cases r
    · rcases h2 with h | ⟨h, g⟩
      · cases h
      · exact Or.inr ⟨g, Or.inr (Or.inl ⟨rfl, h⟩)⟩
    · cases s
      · rcases h3 with h | ⟨h, g⟩
        · cases h
        · exact Or.inr ⟨g, Or.inr (Or.inr ⟨rfl, h⟩)⟩
      · exact Or.inl ⟨rfl, rfl⟩
-- the checks of the class
theorem e1_newVenue (hR : Rl w 1 m) (hI : Iv T 12 m) {a b c d : Int32} : sX1_ofNewVenue w a b c d = some (f3 true (clB a b && (rng 0 500 c && rng 0 10000000 d)) (room (nV m) 8)) := by
  have h8 := hI.iv8
  have k : ∀ s : Bool, sX1_ofNewVenue_35 w (bI s) = some (f3 true s (room (nV m) 8)) := fun s => by
    unfold sX1_ofNewVenue_35 room
    rw [hR.r5 hI]
    by_cases h : 8 ≤ nV m
    · rw [if_pos (show (8 : Int32) ≤ iN (nV m) from (iN_le (a := 8) (by decide) (by omega)).mpr h), if_pos h]
      cases s <;> rfl
    · rw [if_neg (show ¬ (8 : Int32) ≤ iN (nV m) from fun q => h ((iN_le (a := 8) (by decide) (by omega)).mp q)), if_neg h]
      cases s <;> rfl
  unfold sX1_ofNewVenue
  rw [e1_climate, ob]
  cases clB a b
  · simp only [iF]; exact k false
  · simp only [if_true]
    rw [e1_in, ob]
    cases rng 0 500 c
    · simp only [iF]; exact k false
    · simp only [if_true]
      rw [e1_in, ob]
      cases rng 0 10000000 d
      · simp only [iF]; exact k false
      · simp only [if_true]; exact k true
theorem e1_ofClimate' (hR : Rl w 1 m) (hI : Iv T 12 m) {l a b : Int32} : sX1_ofClimate w l a b = some (f3 (ok (nV m) l) (clB a b) true) := by
  unfold sX1_ofClimate
  rw [e6_hasVenue hR hI, ob, e1_climate, ob, ← bI_t, e1_f3, ob]
theorem e1_ofWay' (hR : Rl w 1 m) (hI : Iv T 12 m) {l a b : Int32} : sX1_ofWay w l a b = some (f3 (ok (nV m) l && ok (nV m) a) (if l = a then false else rng 0 200 b) true) := by
  have k : ∀ s : Bool, sX1_ofWay_27 w l a b (bI s) = some (f3 s (if l = a then false else rng 0 200 b) true) := fun s => by
    unfold sX1_ofWay_27
    by_cases h : l = a
    · rw [if_pos h, if_pos h]
      cases s <;> rfl
    · rw [if_neg h, if_neg h, e1_in, ob]
      cases rng 0 200 b <;> cases s <;> rfl
  unfold sX1_ofWay
  rw [e6_hasVenue hR hI, ob]
  cases ok (nV m) l
  · simp only [iF]; exact k false
  · simp only [if_true]
    rw [e6_hasVenue hR hI, ob]
    cases ok (nV m) a
    · simp only [iF]; exact k false
    · simp only [if_true]; exact k true
theorem e1_ofLender' {l a b : Int32} : sX1_ofLenderValue w l a b = some (f3 true (rng 0 5 l && leB a b) true) := by
  have k : ∀ s : Bool, sX1_ofLenderValue_22 w (bI s) = some (f3 true s true) := fun s => by cases s <;> rfl
  unfold sX1_ofLenderValue
  rw [e1_in, ob]
  cases rng 0 5 l
  · simp only [iF]; exact k false
  · simp only [if_true]
    rw [e1_lent, ob]
    cases leB a b
    · simp only [iF]; exact k false
    · simp only [if_true]; exact k true
theorem e1_ofRate' {l : Int32} : sX1_ofWayRate w l = some (f3 true (rng 0 5000 l) true) := by
  unfold sX1_ofWayRate
  rw [e1_in, ob]
  cases rng 0 5000 l <;> rfl
theorem e1_newCourier (hR : Rl w 1 m) (hI : Iv T 12 m) {l : Int32} : sX1_ofNewCourier w l = some (f3 (ok (nV m) l) true (room (nK m) 4)) := by
  have h8 := hI.ik4
  unfold sX1_ofNewCourier room
  rw [e6_hasVenue hR hI, ob, hR.r8 hI]
  by_cases h : 4 ≤ nK m
  · rw [if_pos (show (4 : Int32) ≤ iN (nK m) from (iN_le (a := 4) (by decide) (by omega)).mpr h), if_pos h]
    cases ok (nV m) l <;> rfl
  · rw [if_neg (show ¬ (4 : Int32) ≤ iN (nK m) from fun q => h ((iN_le (a := 4) (by decide) (by omega)).mp q)), if_neg h]
    cases ok (nV m) l <;> rfl
theorem e1_newCrate (hR : Rl w 1 m) (hI : Iv T 12 m) {l a : Int32} : sX1_ofNewCrate w l a = some (f3 (ok (nV m) l) (rng 1 4 a) (room (nC m) 12)) := by
  have h8 := hI.ic12
  unfold sX1_ofNewCrate room
  rw [e6_hasVenue hR hI, ob, hR.r6 hI, e1_in, ob]
  by_cases h : 12 ≤ nC m
  · rw [if_pos (show (12 : Int32) ≤ iN (nC m) from (iN_le (a := 12) (by decide) (by omega)).mpr h), if_pos h]
    cases ok (nV m) l <;> cases rng 1 4 a <;> rfl
  · rw [if_neg (show ¬ (12 : Int32) ≤ iN (nC m) from fun q => h ((iN_le (a := 12) (by decide) (by omega)).mp q)), if_neg h]
    cases ok (nV m) l <;> cases rng 1 4 a <;> rfl
theorem e1_newWork (hR : Rl w 1 m) (hI : Iv T 12 m) {l a b c : Int32} : sX1_ofNewWork w l a b c = some (f3 (ok (nV m) l) (rng 0 5 a && (rng 1 1000000 b && rng 0 20 c)) (room (nW m) 16)) := by
  have h8 := hI.iw16
  have k : ∀ s : Bool, sX1_ofNewWork_35 w l (bI s) = some (f3 (ok (nV m) l) s (room (nW m) 16)) := fun s => by
    unfold sX1_ofNewWork_35 room
    rw [e6_hasVenue hR hI, ob, hR.r7 hI]
    by_cases h : 16 ≤ nW m
    · rw [if_pos (show (16 : Int32) ≤ iN (nW m) from (iN_le (a := 16) (by decide) (by omega)).mpr h), if_pos h]
      cases ok (nV m) l <;> cases s <;> rfl
    · rw [if_neg (show ¬ (16 : Int32) ≤ iN (nW m) from fun q => h ((iN_le (a := 16) (by decide) (by omega)).mp q)), if_neg h]
      cases ok (nV m) l <;> cases s <;> rfl
  unfold sX1_ofNewWork
  rw [e1_in, ob]
  cases rng 0 5 a
  · simp only [iF]; exact k false
  · simp only [if_true]
    rw [e1_in, ob]
    cases rng 1 1000000 b
    · simp only [iF]; exact k false
    · simp only [if_true]
      rw [e1_in, ob]
      cases rng 0 20 c
      · simp only [iF]; exact k false
      · simp only [if_true]; exact k true
-- the checks of the model
theorem full_if {α : Type} {A B : α} {n N : Nat} (h : n ≤ N) (hN : N < 2147483648) : (if iN n = iN N then A else B) = if room n N = true then B else A := by
  unfold room
  by_cases g : N ≤ n
  · rw [if_pos ((iN_eq (by omega) hN).mpr (by omega)), if_pos g]; rfl
  · rw [if_neg (fun q => by have := (iN_eq (by omega) hN).mp q; omega), if_neg g]; rfl
theorem e13_addVenue (hI : Iv T 12 (w 372)) {a b c d : Int32} : sX13_addVenue w a b c d = sX13_addVenue_63 w a b c d (ksel 0 1 2 true (clB a b && (rng 0 500 c && rng 0 10000000 d)) (room (nV (w 372)) 8)) := by
  have k : ∀ s : Bool, sX13_addVenue_35 w a b c d (bI s) = sX13_addVenue_63 w a b c d (ksel 0 1 2 true s (room (nV (w 372)) 8)) := fun s => by
    unfold sX13_addVenue_35
    rw [hI.iv, show (8 : Int32) = iN 8 from rfl, full_if hI.iv8 (by decide)]
    cases s
    · rw [if_pos (show bI false = 0 from rfl), ks2]
    · rw [if_neg (show ¬ bI true = 0 by decide)]
      cases room (nV (w 372)) 8
      · simp only [iF, iT, if_true, ks1, ks2, ks3, ks0, Bool.true_and, Bool.false_and, Bool.and_true, Bool.and_false]
      · simp only [iF, iT, if_true, ks1, ks2, ks3, ks0, Bool.true_and, Bool.false_and, Bool.and_true, Bool.and_false]
  unfold sX13_addVenue
  rw [e13_climate, ob]
  cases clB a b
  · simp only [iF, Bool.false_and]; exact k false
  · simp only [iT, if_true, Bool.true_and]
    rw [e13_rng, ob]
    cases rng 0 500 c
    · simp only [iF, Bool.false_and]; exact k false
    · simp only [iT, if_true, Bool.true_and]
      rw [e13_rng, ob]
      cases rng 0 10000000 d
      · simp only [iF]; exact k false
      · simp only [iT, if_true]; exact k true
theorem e13_setClimate (hI : Iv T 12 (w 372)) {l a b : Int32} : sX13_setClimate w l a b = sX13_setClimate_26 w l a b (ksel 1 2 0 (ok (nV (w 372)) l) (clB a b) true) := by
  unfold sX13_setClimate
  rw [e13_isVenue hI, ob]
  cases ok (nV (w 372)) l
  · simp only [iF, iT, if_true, ks1, ks2, ks3, ks0, Bool.true_and, Bool.false_and, Bool.and_true, Bool.and_false]
  · simp only [iT, if_true]
    rw [e13_climate, ob]
    cases clB a b
    · simp only [iF, iT, if_true, ks1, ks2, ks3, ks0, Bool.true_and, Bool.false_and, Bool.and_true, Bool.and_false]
    · simp only [iF, iT, if_true, ks1, ks2, ks3, ks0, Bool.true_and, Bool.false_and, Bool.and_true, Bool.and_false]
theorem e13_setWay (hI : Iv T 12 (w 372)) {l a b : Int32} : sX13_setWay w l a b = sX13_setWay_42 w l a b (ksel 1 2 0 (ok (nV (w 372)) l && ok (nV (w 372)) a) (if l = a then false else rng 0 200 b) true) := by
  unfold sX13_setWay
  rw [e13_isVenue hI, ob]
  cases ok (nV (w 372)) l
  · simp only [iF, iT, if_true, ks1, ks2, ks3, ks0, Bool.true_and, Bool.false_and, Bool.and_true, Bool.and_false]
  · simp only [iT, if_true, Bool.true_and]
    rw [e13_isVenue hI, ob]
    cases ok (nV (w 372)) a
    · simp only [iF, iT, if_true, ks1, ks2, ks3, ks0, Bool.true_and, Bool.false_and, Bool.and_true, Bool.and_false]
    · simp only [iT, if_true]
      by_cases h : l = a
      · rw [if_pos h, if_pos h, ks2]
      · rw [if_neg h, if_neg h, e13_rng, ob]
        cases rng 0 200 b
        · simp only [iF, iT, if_true, ks1, ks2, ks3, ks0, Bool.true_and, Bool.false_and, Bool.and_true, Bool.and_false]
        · simp only [iF, iT, if_true, ks1, ks2, ks3, ks0, Bool.true_and, Bool.false_and, Bool.and_true, Bool.and_false]
theorem e13_setLender {l a b : Int32} : sX13_setLender w l a b = sX13_setLender_23 w l a b (ksel 0 1 0 true (rng 0 5 l && leB a b) true) := by
  unfold sX13_setLender
  rw [e13_rng, ob]
  cases rng 0 5 l
  · simp only [iF, iT, if_true, ks1, ks2, ks3, ks0, Bool.true_and, Bool.false_and, Bool.and_true, Bool.and_false]
  · simp only [iT, if_true, Bool.true_and]
    rw [e13_lent, ob]
    cases leB a b
    · simp only [iF, iT, if_true, ks1, ks2, ks3, ks0, Bool.true_and, Bool.false_and, Bool.and_true, Bool.and_false]
    · simp only [iF, iT, if_true, ks1, ks2, ks3, ks0, Bool.true_and, Bool.false_and, Bool.and_true, Bool.and_false]
theorem e13_setWayRate {l : Int32} : sX13_setWayRate w l = sX13_setWayRate_17 w l (ksel 0 1 0 true (rng 0 5000 l) true) := by
  unfold sX13_setWayRate
  rw [e13_rng, ob]
  cases rng 0 5000 l
  · simp only [iF, iT, if_true, ks1, ks2, ks3, ks0, Bool.true_and, Bool.false_and, Bool.and_true, Bool.and_false]
  · simp only [iF, iT, if_true, ks1, ks2, ks3, ks0, Bool.true_and, Bool.false_and, Bool.and_true, Bool.and_false]
theorem e13_addCourier (hI : Iv T 12 (w 372)) {l : Int32} : sX13_addCourier w l = sX13_addCourier_28 w l (ksel 1 0 2 (ok (nV (w 372)) l) true (room (nK (w 372)) 4)) := by
  unfold sX13_addCourier
  rw [e13_isVenue hI, ob, hI.ik, show (4 : Int32) = iN 4 from rfl, full_if hI.ik4 (by decide)]
  cases ok (nV (w 372)) l
  · simp only [iF, iT, if_true, ks1, ks2, ks3, ks0, Bool.true_and, Bool.false_and, Bool.and_true, Bool.and_false]
  · cases room (nK (w 372)) 4
    · simp only [iF, iT, if_true, ks1, ks2, ks3, ks0, Bool.true_and, Bool.false_and, Bool.and_true, Bool.and_false]
    · simp only [iF, iT, if_true, ks1, ks2, ks3, ks0, Bool.true_and, Bool.false_and, Bool.and_true, Bool.and_false]
theorem e13_addCrate (hI : Iv T 12 (w 372)) {l a : Int32} : sX13_addCrate w l a = sX13_addCrate_42 w l a (ksel 1 2 3 (ok (nV (w 372)) l) (rng 1 4 a) (room (nC (w 372)) 12)) := by
  unfold sX13_addCrate
  rw [e13_isVenue hI, ob, hI.ic, e13_rng, ob, show (12 : Int32) = iN 12 from rfl, full_if hI.ic12 (by decide)]
  cases ok (nV (w 372)) l
  · simp only [iF, iT, if_true, ks1, ks2, ks3, ks0, Bool.true_and, Bool.false_and, Bool.and_true, Bool.and_false]
  · cases rng 1 4 a
    · simp only [iF, iT, if_true, ks1, ks2, ks3, ks0, Bool.true_and, Bool.false_and, Bool.and_true, Bool.and_false]
    · cases room (nC (w 372)) 12
      · simp only [iF, iT, if_true, ks1, ks2, ks3, ks0, Bool.true_and, Bool.false_and, Bool.and_true, Bool.and_false]
      · simp only [iF, iT, if_true, ks1, ks2, ks3, ks0, Bool.true_and, Bool.false_and, Bool.and_true, Bool.and_false]
theorem e13_addWork (hI : Iv T 12 (w 372)) {l a b c e : Int32} : sX13_addWork w l a b c e = sX13_addWork_75 w l a b c e (ksel 1 2 3 (ok (nV (w 372)) l) (rng 0 5 a && (rng 1 1000000 b && rng 0 20 c)) (room (nW (w 372)) 16)) := by
  have k : ∀ s : Bool, sX13_addWork_35 w l a b c e (bI s) = sX13_addWork_75 w l a b c e (ksel 1 2 3 (ok (nV (w 372)) l) s (room (nW (w 372)) 16)) := fun s => by
    unfold sX13_addWork_35
    rw [e13_isVenue hI, ob, hI.iw, show (16 : Int32) = iN 16 from rfl, full_if hI.iw16 (by decide)]
    cases ok (nV (w 372)) l
    · simp only [iF, iT, if_true, ks1, ks2, ks3, ks0, Bool.true_and, Bool.false_and, Bool.and_true, Bool.and_false]
    · cases s
      · rw [if_pos (show bI false = 0 from rfl), ks2]
        simp only [iT, if_true]
      · rw [if_neg (show ¬ bI true = 0 by decide)]
        cases room (nW (w 372)) 16
        · simp only [iF, iT, if_true, ks1, ks2, ks3, ks0, Bool.true_and, Bool.false_and, Bool.and_true, Bool.and_false]
        · simp only [iF, iT, if_true, ks1, ks2, ks3, ks0, Bool.true_and, Bool.false_and, Bool.and_true, Bool.and_false]
  unfold sX13_addWork
  rw [e13_rng, ob]
  cases rng 0 5 a
  · simp only [iF, Bool.false_and]; exact k false
  · simp only [iT, if_true, Bool.true_and]
    rw [e13_rng, ob]
    cases rng 1 1000000 b
    · simp only [iF, Bool.false_and]; exact k false
    · simp only [iT, if_true, Bool.true_and]
      rw [e13_rng, ob]
      cases rng 0 20 c
      · simp only [iF]; exact k false
      · simp only [iT, if_true]; exact k true
end BM
