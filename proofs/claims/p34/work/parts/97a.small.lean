/-! SMALL FACTS of checks (kept out of the proof of whole) -/
section SQ
variable {w : Wl} {T : Nat} {m : Nat → Int32}
theorem tiw_0 {β : Type} {A : Option (Sum Int32 β)} : tiw 0 A = A := by
  unfold tiw
  rw [if_neg (by decide), if_neg (by decide), if_neg (by decide)]
def rng (a b x : Int32) : Bool := if x < a then false else if b < x then false else true
theorem e1_in {a b x : Int32} : sX1_isIn w x a b = some (rng a b x) := by
  unfold sX1_isIn rng
  by_cases h1 : x < a
  · rw [if_pos h1, if_pos h1]
  · rw [if_neg h1, if_neg h1]
    by_cases h2 : b < x
    · rw [if_pos h2, if_pos h2]
    · rw [if_neg h2, if_neg h2]
theorem rng_t {a b x : Int32} (h : rng a b x = true) : a ≤ x ∧ x ≤ b := by
  unfold rng at h
  by_cases h1 : x < a
  · rw [if_pos h1] at h; cases h
  · rw [if_neg h1] at h
    by_cases h2 : b < x
    · rw [if_pos h2] at h; cases h
    · exact ⟨Int32.not_lt.mp h1, Int32.not_lt.mp h2⟩
theorem rng_n {a b : Nat} {x : Int32} (ha : a < 2147483648) (hb : b < 2147483648) (h : rng (iN a) (iN b) x = true) : ∃ k, a ≤ k ∧ k ≤ b ∧ x = iN k := by
  obtain ⟨h1, h2⟩ := rng_t h
  have h0 : ¬ x < 0 := fun q => by
    have : iN a < 0 := Int32.lt_of_le_of_lt h1 q
    exact iN_neg ha this
  have e := of_nn h0
  have hl := nat_lt x
  generalize x.toNatClampNeg = k at e hl
  subst e
  exact ⟨k, (iN_le ha hl).mp h1, (iN_le hl hb).mp h2, rfl⟩
def clB (a b : Int32) : Bool := rng (-10) 40 a && rng 20 90 b
theorem e1_climate {a b : Int32} : sX1_isClimate w a b = some (clB a b) := by
  unfold sX1_isClimate clB
  rw [e1_in, ob]
  cases rng (-10) 40 a
  · rfl
  · simp only [if_true]
    rw [e1_in, ob]
    cases rng 20 90 b <;> rfl
theorem clB_t {a b : Int32} (h : clB a b = true) : clim a b := by
  obtain ⟨x, y⟩ := band h
  obtain ⟨h1, h2⟩ := rng_t x
  obtain ⟨h3, h4⟩ := rng_t y
  exact ⟨h1, h2, h3, h4⟩
def leB (j a : Int32) : Bool := if j = 0 then rng (-10) 40 a else if j = 1 then rng (-10) 40 a else if j = 2 then rng 20 90 a else if j = 3 then rng 0 255 a else false
theorem e1_lent {a b : Int32} : sX1_isLenderValue w a b = some (leB a b) := by
  unfold sX1_isLenderValue leB
  simp only [e1_in, ob]
  by_cases h0 : a = 0
  · rw [if_pos h0, if_pos h0]
  rw [if_neg h0, if_neg h0]
  by_cases h1 : a = 1
  · rw [if_pos h1, if_pos h1]
  rw [if_neg h1, if_neg h1]
  by_cases h2 : a = 2
  · rw [if_pos h2, if_pos h2]
  rw [if_neg h2, if_neg h2]
  by_cases h3 : a = 3
  · rw [if_pos h3, if_pos h3]
  rw [if_neg h3, if_neg h3]
theorem leB_t {j a : Int32} (h : leB j a = true) : ∃ k, k < 4 ∧ j = iN k := by
  unfold leB at h
  by_cases h0 : j = 0
  · exact ⟨0, by decide, h0⟩
  rw [if_neg h0] at h
  by_cases h1 : j = 1
  · exact ⟨1, by decide, h1⟩
  rw [if_neg h1] at h
  by_cases h2 : j = 2
  · exact ⟨2, by decide, h2⟩
  rw [if_neg h2] at h
  by_cases h3 : j = 3
  · exact ⟨3, by decide, h3⟩
  rw [if_neg h3] at h; cases h
def f3 (e r s : Bool) : Int32 := if e = true then (if r = true then (if s = true then 0 else 3) else 2) else 1
theorem e1_f3 {e r s : Bool} : sX1_firstWrong w (bI e) (bI r) (bI s) = some (f3 e r s) := e1_firstWrong e r s
theorem f3_0 {e r s : Bool} (h : f3 e r s = 0) : e = true ∧ r = true ∧ s = true := by
  cases e <;> cases r <;> cases s <;> first | exact ⟨rfl, rfl, rfl⟩ | exact absurd h (by decide)
def room (n N : Nat) : Bool := if N ≤ n then false else true
theorem room_t {n N : Nat} (h : room n N = true) : n < N := by
  unfold room at h
  by_cases h1 : N ≤ n
  · rw [if_pos h1] at h; cases h
  · omega
theorem bw {α : Type} {x y : Bool} {A B : α} : (if x = true then (if y = true then A else B) else B) = if (x && y) = true then A else B := by cases x <;> cases y <;> rfl
theorem e1_newVenue (hR : Rl w 1 m) (hI : Iv T 12 m) {a b c d : Int32} : sX1_ofNewVenue w a b c d = some (f3 true (clB a b && (rng 0 500 c && rng 0 10000000 d)) (room (nV m) 8)) := by
  have h8 := hI.iv8
  have k : ∀ s : Bool, sX1_ofNewVenue_35 w (bI s) = some (f3 true s (room (nV m) 8)) := fun s => by
    unfold sX1_ofNewVenue_35 room
    rw [hR.r5 hI]
    by_cases h : 8 ≤ nV m
    · rw [if_pos (show (8 : Int32) ≤ iN (nV m) from (iN_le (a := 8) (by decide) (by omega)).mpr h), if_pos h]
      cases s <;> rfl
    · rw [if_neg (show ¬ (8 : Int32) ≤ iN (nV m) from fun q => h ((iN_le (a := 8) (by decide) (by omega)).mp q)), if_neg h]
      cases s <;> rfl
  unfold sX1_ofNewVenue
  rw [e1_climate, ob]
  cases clB a b
  · simp only [iF]; exact k false
  · simp only [if_true]
    rw [e1_in, ob]
    cases rng 0 500 c
    · simp only [iF]; exact k false
    · simp only [if_true]
      rw [e1_in, ob]
      cases rng 0 10000000 d
      · simp only [iF]; exact k false
      · simp only [if_true]; exact k true
theorem e1_ofClimate' (hR : Rl w 1 m) (hI : Iv T 12 m) {l a b : Int32} : sX1_ofClimate w l a b = some (f3 (ok (nV m) l) (clB a b) true) := by
  unfold sX1_ofClimate
  rw [e6_hasVenue hR hI, ob, e1_climate, ob, ← bI_t, e1_f3, ob]
theorem e1_ofWay' (hR : Rl w 1 m) (hI : Iv T 12 m) {l a b : Int32} : sX1_ofWay w l a b = some (f3 (ok (nV m) l && ok (nV m) a) (if l = a then false else rng 0 200 b) true) := by
  have k : ∀ s : Bool, sX1_ofWay_27 w l a b (bI s) = some (f3 s (if l = a then false else rng 0 200 b) true) := fun s => by
    unfold sX1_ofWay_27
    by_cases h : l = a
    · rw [if_pos h, if_pos h]
      cases s <;> rfl
    · rw [if_neg h, if_neg h, e1_in, ob]
      cases rng 0 200 b <;> cases s <;> rfl
  unfold sX1_ofWay
  rw [e6_hasVenue hR hI, ob]
  cases ok (nV m) l
  · simp only [iF]; exact k false
  · simp only [if_true]
    rw [e6_hasVenue hR hI, ob]
    cases ok (nV m) a
    · simp only [iF]; exact k false
    · simp only [if_true]; exact k true
theorem e1_ofLender' {l a b : Int32} : sX1_ofLenderValue w l a b = some (f3 true (rng 0 5 l && leB a b) true) := by
  have k : ∀ s : Bool, sX1_ofLenderValue_22 w (bI s) = some (f3 true s true) := fun s => by cases s <;> rfl
  unfold sX1_ofLenderValue
  rw [e1_in, ob]
  cases rng 0 5 l
  · simp only [iF]; exact k false
  · simp only [if_true]
    rw [e1_lent, ob]
    cases leB a b
    · simp only [iF]; exact k false
    · simp only [if_true]; exact k true
theorem e1_ofRate' {l : Int32} : sX1_ofWayRate w l = some (f3 true (rng 0 5000 l) true) := by
  unfold sX1_ofWayRate
  rw [e1_in, ob]
  cases rng 0 5000 l <;> rfl
theorem e1_newCourier (hR : Rl w 1 m) (hI : Iv T 12 m) {l : Int32} : sX1_ofNewCourier w l = some (f3 (ok (nV m) l) true (room (nK m) 4)) := by
  have h8 := hI.ik4
  unfold sX1_ofNewCourier room
  rw [e6_hasVenue hR hI, ob, hR.r8 hI]
  by_cases h : 4 ≤ nK m
  · rw [if_pos (show (4 : Int32) ≤ iN (nK m) from (iN_le (a := 4) (by decide) (by omega)).mpr h), if_pos h]
    cases ok (nV m) l <;> rfl
  · rw [if_neg (show ¬ (4 : Int32) ≤ iN (nK m) from fun q => h ((iN_le (a := 4) (by decide) (by omega)).mp q)), if_neg h]
    cases ok (nV m) l <;> rfl
theorem e1_newCrate (hR : Rl w 1 m) (hI : Iv T 12 m) {l a : Int32} : sX1_ofNewCrate w l a = some (f3 (ok (nV m) l) (rng 1 4 a) (room (nC m) 12)) := by
  have h8 := hI.ic12
  unfold sX1_ofNewCrate room
  rw [e6_hasVenue hR hI, ob, hR.r6 hI, e1_in, ob]
  by_cases h : 12 ≤ nC m
  · rw [if_pos (show (12 : Int32) ≤ iN (nC m) from (iN_le (a := 12) (by decide) (by omega)).mpr h), if_pos h]
    cases ok (nV m) l <;> cases rng 1 4 a <;> rfl
  · rw [if_neg (show ¬ (12 : Int32) ≤ iN (nC m) from fun q => h ((iN_le (a := 12) (by decide) (by omega)).mp q)), if_neg h]
    cases ok (nV m) l <;> cases rng 1 4 a <;> rfl
theorem e1_newWork (hR : Rl w 1 m) (hI : Iv T 12 m) {l a b c : Int32} : sX1_ofNewWork w l a b c = some (f3 (ok (nV m) l) (rng 0 5 a && (rng 1 1000000 b && rng 0 20 c)) (room (nW m) 16)) := by
  have h8 := hI.iw16
  have k : ∀ s : Bool, sX1_ofNewWork_35 w l (bI s) = some (f3 (ok (nV m) l) s (room (nW m) 16)) := fun s => by
    unfold sX1_ofNewWork_35 room
    rw [e6_hasVenue hR hI, ob, hR.r7 hI]
    by_cases h : 16 ≤ nW m
    · rw [if_pos (show (16 : Int32) ≤ iN (nW m) from (iN_le (a := 16) (by decide) (by omega)).mpr h), if_pos h]
      cases ok (nV m) l <;> cases s <;> rfl
    · rw [if_neg (show ¬ (16 : Int32) ≤ iN (nW m) from fun q => h ((iN_le (a := 16) (by decide) (by omega)).mp q)), if_neg h]
      cases ok (nV m) l <;> cases s <;> rfl
  unfold sX1_ofNewWork
  rw [e1_in, ob]
  cases rng 0 5 a
  · simp only [iF]; exact k false
  · simp only [if_true]
    rw [e1_in, ob]
    cases rng 1 1000000 b
    · simp only [iF]; exact k false
    · simp only [if_true]
      rw [e1_in, ob]
      cases rng 0 20 c
      · simp only [iF]; exact k false
      · simp only [if_true]; exact k true
-- the checks of the model
theorem e1_ofValue {e : Bool} {l : Int32} {N : Nat} (hN : N + 1 < 2147483648) : sX1_ofValue w (bI e) l (iN (N + 1)) = some (f3 e (rng 0 (iN N) l) true) := by
  unfold sX1_ofValue rng
  by_cases h0 : l < 0
  · rw [if_pos h0, if_pos h0]
    cases e <;> rfl
  · rw [if_neg h0, if_neg h0]
    have e1 := of_nn h0
    have hl := nat_lt l
    generalize l.toNatClampNeg = k at e1 hl
    subst e1
    by_cases h1 : N < k
    · rw [if_pos ((iN_le hN hl).mpr h1), if_pos ((iN_lt (by omega) hl).mpr h1)]
      cases e <;> rfl
    · rw [if_neg (fun q => h1 ((iN_le hN hl).mp q)), if_neg (fun q => h1 ((iN_lt (by omega) hl).mp q))]
      cases e <;> rfl
theorem e1_ofNoted (hR : Rl w 1 m) (hI : Iv T 12 m) {l1 l2 : Int32} : sX1_ofNoted w l1 l2 = some (f3 (ok (nW m) l1) (if l2 < 0 then false else true) true) := by
  unfold sX1_ofNoted
  rw [e6_hasWork hR hI, ob]
  by_cases h : l2 < 0
  · rw [if_pos h, if_pos h]; cases ok (nW m) l1 <;> rfl
  · rw [if_neg h, if_neg h]; cases ok (nW m) l1 <;> rfl
theorem e1_ofNumber {e : Bool} : sX1_ofNumber w (bI e) = some (f3 e true true) := by cases e <;> rfl
theorem e1_ofByte {n : Nat} {l : Int32} (hn : n ≤ 150) : sX1_ofByte w l (iN n) = some (f3 true (rng 0 127 l) (room n 150)) := by
  unfold sX1_ofByte room
  rw [e1_in, ob]
  by_cases h : 150 ≤ n
  · rw [if_pos (show (150 : Int32) ≤ iN n from (iN_le (a := 150) (by decide) (by omega)).mpr h), if_pos h]
    cases rng 0 127 l <;> rfl
  · rw [if_neg (show ¬ (150 : Int32) ≤ iN n from fun q => h ((iN_le (a := 150) (by decide) (by omega)).mp q)), if_neg h]
    cases rng 0 127 l <;> rfl
end SQ
