/-! THE MODEL'S READERS, in words of m = w 372. Written by wip/whole/pure/p33.py -/
def opb (m : Nat → Int32) (c : Nat) : Bool := if cr m c 1 = 1 then true else false
theorem ix_cr {c j : Nat} (hc : c < 12) (hj : j < 9) : idx (((145 : Int32) + ((9 : Int32) * iN c)) + iN j) 541 = some (145 + 9 * c + j) := by
  rw [show (145 : Int32) = iN 145 from rfl, show (9 : Int32) = iN 9 from rfl, iN_mul, iN_add, iN_add]
  exact idx_iN (by omega) (by decide)
theorem ix_wk {c j : Nat} (hc : c < 16) (hj : j < 18) : idx (((253 : Int32) + ((18 : Int32) * iN c)) + iN j) 541 = some (253 + 18 * c + j) := by
  rw [show (253 : Int32) = iN 253 from rfl, show (18 : Int32) = iN 18 from rfl, iN_mul, iN_add, iN_add]
  exact idx_iN (by omega) (by decide)
theorem ix_vn {c j : Nat} (hc : c < 8) (hj : j < 13) : idx (((9 : Int32) + ((13 : Int32) * iN c)) + iN j) 541 = some (9 + 13 * c + j) := by
  rw [show (9 : Int32) = iN 9 from rfl, show (13 : Int32) = iN 13 from rfl, iN_mul, iN_add, iN_add]
  exact idx_iN (by omega) (by decide)
theorem ix_v0 {c : Nat} (hc : c < 8) : idx ((9 : Int32) + ((13 : Int32) * iN c)) 541 = some (9 + 13 * c) := by
  rw [show (9 : Int32) = iN 9 from rfl, show (13 : Int32) = iN 13 from rfl, iN_mul, iN_add]
  exact idx_iN (by omega) (by decide)
theorem ix_ln {c j : Nat} (hc : c < 6) (hj : j < 4) : idx (((113 : Int32) + ((4 : Int32) * iN c)) + iN j) 541 = some (113 + 4 * c + j) := by
  rw [show (113 : Int32) = iN 113 from rfl, show (4 : Int32) = iN 4 from rfl, iN_mul, iN_add, iN_add]
  exact idx_iN (by omega) (by decide)
theorem ix_l0 {c : Nat} (hc : c < 6) : idx ((113 : Int32) + ((4 : Int32) * iN c)) 541 = some (113 + 4 * c) := by
  rw [show (113 : Int32) = iN 113 from rfl, show (4 : Int32) = iN 4 from rfl, iN_mul, iN_add]
  exact idx_iN (by omega) (by decide)
theorem ix_co {k : Nat} (hk : k < 4) : idx ((137 : Int32) + ((2 : Int32) * iN k)) 541 = some (137 + 2 * k) := by
  rw [show (137 : Int32) = iN 137 from rfl, show (2 : Int32) = iN 2 from rfl, iN_mul, iN_add]
  exact idx_iN (by omega) (by decide)
theorem ix_tg {k : Nat} (hk : k < 4) : idx (((137 : Int32) + ((2 : Int32) * iN k)) + (1 : Int32)) 541 = some (137 + 2 * k + 1) := by
  rw [show (137 : Int32) = iN 137 from rfl, show (2 : Int32) = iN 2 from rfl, show (1 : Int32) = iN 1 from rfl, iN_mul, iN_add, iN_add]
  exact idx_iN (by omega) (by decide)
theorem ix_l1 {c : Nat} (hc : c < 6) : idx (((113 : Int32) + ((4 : Int32) * iN c)) + (1 : Int32)) 541 = some (113 + 4 * c + 1) := ix_ln (j := 1) hc (by decide)
theorem ix_l2 {c : Nat} (hc : c < 6) : idx (((113 : Int32) + ((4 : Int32) * iN c)) + (2 : Int32)) 541 = some (113 + 4 * c + 2) := ix_ln (j := 2) hc (by decide)
theorem ix_l3 {c : Nat} (hc : c < 6) : idx (((113 : Int32) + ((4 : Int32) * iN c)) + (3 : Int32)) 541 = some (113 + 4 * c + 3) := ix_ln (j := 3) hc (by decide)
section MD
variable {T z : Nat} {w : Wl}
theorem e13_of {c j : Nat} (hc : c < 12) (hj : j < 9) : sX13_of w (iN c) (iN j) = some (cr (w 372) c j) := by
  unfold sX13_of
  rw [ix_cr hc hj]; rfl
theorem e13_put {c j : Nat} {v : Int32} (hc : c < 12) (hj : j < 9) : sX13_put w (iN c) (iN j) v = some (wst w 372 (145 + 9 * c + j) v) := by
  unfold sX13_put
  rw [ix_cr hc hj]; rfl
theorem e13_ofWork {c j : Nat} (hc : c < 16) (hj : j < 18) : sX13_ofWork w (iN c) (iN j) = some (wk (w 372) c j) := by
  unfold sX13_ofWork
  rw [ix_wk hc hj]; rfl
theorem e13_putWork {c j : Nat} {v : Int32} (hc : c < 16) (hj : j < 18) : sX13_putWork w (iN c) (iN j) v = some (wst w 372 (253 + 18 * c + j) v) := by
  unfold sX13_putWork
  rw [ix_wk hc hj]; rfl
theorem e13_ofVenue {c j : Nat} (hc : c < 8) (hj : j < 13) : sX13_ofVenue w (iN c) (iN j) = some (vn (w 372) c j) := by
  unfold sX13_ofVenue
  rw [ix_vn hc hj]; rfl
theorem e13_way {a b : Nat} (ha : a < 8) (hb : b < 8) : sX13_ofVenue w (iN a) ((5 : Int32) + iN b) = some (vn (w 372) a (5 + b)) := by
  rw [show (5 : Int32) = iN 5 from rfl, iN_add]
  exact e13_ofVenue ha (by omega)
theorem e13_of0 {c : Nat} (hc : c < 12) : sX13_of w (iN c) (0 : Int32) = some (cr (w 372) c 0) := e13_of hc (by decide : 0 < 9)
theorem e13_put0 {c : Nat} {v : Int32} (hc : c < 12) : sX13_put w (iN c) (0 : Int32) v = some (wst w 372 (145 + 9 * c + 0) v) := e13_put hc (by decide : 0 < 9)
theorem e13_of1 {c : Nat} (hc : c < 12) : sX13_of w (iN c) (1 : Int32) = some (cr (w 372) c 1) := e13_of hc (by decide : 1 < 9)
theorem e13_put1 {c : Nat} {v : Int32} (hc : c < 12) : sX13_put w (iN c) (1 : Int32) v = some (wst w 372 (145 + 9 * c + 1) v) := e13_put hc (by decide : 1 < 9)
theorem e13_of2 {c : Nat} (hc : c < 12) : sX13_of w (iN c) (2 : Int32) = some (cr (w 372) c 2) := e13_of hc (by decide : 2 < 9)
theorem e13_put2 {c : Nat} {v : Int32} (hc : c < 12) : sX13_put w (iN c) (2 : Int32) v = some (wst w 372 (145 + 9 * c + 2) v) := e13_put hc (by decide : 2 < 9)
theorem e13_of3 {c : Nat} (hc : c < 12) : sX13_of w (iN c) (3 : Int32) = some (cr (w 372) c 3) := e13_of hc (by decide : 3 < 9)
theorem e13_put3 {c : Nat} {v : Int32} (hc : c < 12) : sX13_put w (iN c) (3 : Int32) v = some (wst w 372 (145 + 9 * c + 3) v) := e13_put hc (by decide : 3 < 9)
theorem e13_of4 {c : Nat} (hc : c < 12) : sX13_of w (iN c) (4 : Int32) = some (cr (w 372) c 4) := e13_of hc (by decide : 4 < 9)
theorem e13_put4 {c : Nat} {v : Int32} (hc : c < 12) : sX13_put w (iN c) (4 : Int32) v = some (wst w 372 (145 + 9 * c + 4) v) := e13_put hc (by decide : 4 < 9)
theorem e13_of5 {c : Nat} (hc : c < 12) : sX13_of w (iN c) (5 : Int32) = some (cr (w 372) c 5) := e13_of hc (by decide : 5 < 9)
theorem e13_put5 {c : Nat} {v : Int32} (hc : c < 12) : sX13_put w (iN c) (5 : Int32) v = some (wst w 372 (145 + 9 * c + 5) v) := e13_put hc (by decide : 5 < 9)
theorem e13_of6 {c : Nat} (hc : c < 12) : sX13_of w (iN c) (6 : Int32) = some (cr (w 372) c 6) := e13_of hc (by decide : 6 < 9)
theorem e13_put6 {c : Nat} {v : Int32} (hc : c < 12) : sX13_put w (iN c) (6 : Int32) v = some (wst w 372 (145 + 9 * c + 6) v) := e13_put hc (by decide : 6 < 9)
theorem e13_of7 {c : Nat} (hc : c < 12) : sX13_of w (iN c) (7 : Int32) = some (cr (w 372) c 7) := e13_of hc (by decide : 7 < 9)
theorem e13_put7 {c : Nat} {v : Int32} (hc : c < 12) : sX13_put w (iN c) (7 : Int32) v = some (wst w 372 (145 + 9 * c + 7) v) := e13_put hc (by decide : 7 < 9)
theorem e13_of8 {c : Nat} (hc : c < 12) : sX13_of w (iN c) (8 : Int32) = some (cr (w 372) c 8) := e13_of hc (by decide : 8 < 9)
theorem e13_put8 {c : Nat} {v : Int32} (hc : c < 12) : sX13_put w (iN c) (8 : Int32) v = some (wst w 372 (145 + 9 * c + 8) v) := e13_put hc (by decide : 8 < 9)
theorem e13_wk0 {c : Nat} (hc : c < 16) : sX13_ofWork w (iN c) (0 : Int32) = some (wk (w 372) c 0) := e13_ofWork hc (by decide : 0 < 18)
theorem e13_pw0 {c : Nat} {v : Int32} (hc : c < 16) : sX13_putWork w (iN c) (0 : Int32) v = some (wst w 372 (253 + 18 * c + 0) v) := e13_putWork hc (by decide : 0 < 18)
theorem e13_wk1 {c : Nat} (hc : c < 16) : sX13_ofWork w (iN c) (1 : Int32) = some (wk (w 372) c 1) := e13_ofWork hc (by decide : 1 < 18)
theorem e13_pw1 {c : Nat} {v : Int32} (hc : c < 16) : sX13_putWork w (iN c) (1 : Int32) v = some (wst w 372 (253 + 18 * c + 1) v) := e13_putWork hc (by decide : 1 < 18)
theorem e13_wk2 {c : Nat} (hc : c < 16) : sX13_ofWork w (iN c) (2 : Int32) = some (wk (w 372) c 2) := e13_ofWork hc (by decide : 2 < 18)
theorem e13_pw2 {c : Nat} {v : Int32} (hc : c < 16) : sX13_putWork w (iN c) (2 : Int32) v = some (wst w 372 (253 + 18 * c + 2) v) := e13_putWork hc (by decide : 2 < 18)
theorem e13_wk3 {c : Nat} (hc : c < 16) : sX13_ofWork w (iN c) (3 : Int32) = some (wk (w 372) c 3) := e13_ofWork hc (by decide : 3 < 18)
theorem e13_pw3 {c : Nat} {v : Int32} (hc : c < 16) : sX13_putWork w (iN c) (3 : Int32) v = some (wst w 372 (253 + 18 * c + 3) v) := e13_putWork hc (by decide : 3 < 18)
theorem e13_wk4 {c : Nat} (hc : c < 16) : sX13_ofWork w (iN c) (4 : Int32) = some (wk (w 372) c 4) := e13_ofWork hc (by decide : 4 < 18)
theorem e13_pw4 {c : Nat} {v : Int32} (hc : c < 16) : sX13_putWork w (iN c) (4 : Int32) v = some (wst w 372 (253 + 18 * c + 4) v) := e13_putWork hc (by decide : 4 < 18)
theorem e13_wk5 {c : Nat} (hc : c < 16) : sX13_ofWork w (iN c) (5 : Int32) = some (wk (w 372) c 5) := e13_ofWork hc (by decide : 5 < 18)
theorem e13_pw5 {c : Nat} {v : Int32} (hc : c < 16) : sX13_putWork w (iN c) (5 : Int32) v = some (wst w 372 (253 + 18 * c + 5) v) := e13_putWork hc (by decide : 5 < 18)
theorem e13_wk6 {c : Nat} (hc : c < 16) : sX13_ofWork w (iN c) (6 : Int32) = some (wk (w 372) c 6) := e13_ofWork hc (by decide : 6 < 18)
theorem e13_pw6 {c : Nat} {v : Int32} (hc : c < 16) : sX13_putWork w (iN c) (6 : Int32) v = some (wst w 372 (253 + 18 * c + 6) v) := e13_putWork hc (by decide : 6 < 18)
theorem e13_wk7 {c : Nat} (hc : c < 16) : sX13_ofWork w (iN c) (7 : Int32) = some (wk (w 372) c 7) := e13_ofWork hc (by decide : 7 < 18)
theorem e13_pw7 {c : Nat} {v : Int32} (hc : c < 16) : sX13_putWork w (iN c) (7 : Int32) v = some (wst w 372 (253 + 18 * c + 7) v) := e13_putWork hc (by decide : 7 < 18)
theorem e13_wk8 {c : Nat} (hc : c < 16) : sX13_ofWork w (iN c) (8 : Int32) = some (wk (w 372) c 8) := e13_ofWork hc (by decide : 8 < 18)
theorem e13_pw8 {c : Nat} {v : Int32} (hc : c < 16) : sX13_putWork w (iN c) (8 : Int32) v = some (wst w 372 (253 + 18 * c + 8) v) := e13_putWork hc (by decide : 8 < 18)
theorem e13_vn0 {c : Nat} (hc : c < 8) : sX13_ofVenue w (iN c) (0 : Int32) = some (vn (w 372) c 0) := e13_ofVenue hc (by decide : 0 < 13)
theorem e13_vn1 {c : Nat} (hc : c < 8) : sX13_ofVenue w (iN c) (1 : Int32) = some (vn (w 372) c 1) := e13_ofVenue hc (by decide : 1 < 13)
theorem e13_vn2 {c : Nat} (hc : c < 8) : sX13_ofVenue w (iN c) (2 : Int32) = some (vn (w 372) c 2) := e13_ofVenue hc (by decide : 2 < 13)
theorem e13_vn3 {c : Nat} (hc : c < 8) : sX13_ofVenue w (iN c) (3 : Int32) = some (vn (w 372) c 3) := e13_ofVenue hc (by decide : 3 < 13)
theorem e13_vn4 {c : Nat} (hc : c < 8) : sX13_ofVenue w (iN c) (4 : Int32) = some (vn (w 372) c 4) := e13_ofVenue hc (by decide : 4 < 13)
theorem e13_in (l a b : Int32) : sX13_in w l a b = some (if l < a then false else if b < l then false else true) := by
  unfold sX13_in
  by_cases h1 : l < a
  · rw [if_pos h1, if_pos h1]
  · rw [if_neg h1, if_neg h1]
    by_cases h2 : b < l
    · rw [if_pos h2, if_pos h2]
    · rw [if_neg h2, if_neg h2]
theorem in_ok {n : Nat} (hn : n < 2147483648) (l : Int32) : (if l < 0 then false else if iN n - 1 < l then false else true) = ok n l := by
  unfold ok
  by_cases h1 : l < 0
  · rw [if_pos h1, if_pos h1]
  · rw [if_neg h1, if_neg h1, of_nn h1]
    have hl := nat_lt l
    cases n with
    | zero =>
      rw [if_pos (show iN 0 - 1 < iN l.toNatClampNeg from Int32.lt_of_lt_of_le (by decide) (iN_ge hl)), if_pos (show iN 0 ≤ iN l.toNatClampNeg from iN_ge hl)]
    | succ n =>
      rw [iN_p]
      by_cases h2 : iN (n + 1) ≤ iN l.toNatClampNeg
      · rw [if_pos h2, if_pos ((iN_lt (by omega) hl).mpr (by have := (iN_le hn hl).mp h2; omega))]
      · rw [if_neg h2, if_neg (fun q => h2 ((iN_le hn hl).mpr (by have := (iN_lt (by omega) hl).mp q; omega)))]
theorem e13_isVenue (hI : Iv T z (w 372)) (l : Int32) : sX13_isVenue w l = some (ok (nV (w 372)) l) := by
  have := hI.iv8
  unfold sX13_isVenue
  rw [e13_in, ob, hI.iv, in_ok (by omega)]
theorem e13_isCrate (hI : Iv T z (w 372)) (l : Int32) : sX13_isCrate w l = some (ok (nC (w 372)) l) := by
  have := hI.ic12
  unfold sX13_isCrate
  rw [e13_in, ob, hI.ic, in_ok (by omega)]
theorem e13_isWork (hI : Iv T z (w 372)) (l : Int32) : sX13_isWork w l = some (ok (nW (w 372)) l) := by
  have := hI.iw16
  unfold sX13_isWork
  rw [e13_in, ob, hI.iw, in_ok (by omega)]
theorem e13_isCourier (hI : Iv T z (w 372)) (l : Int32) : sX13_isCourier w l = some (ok (nK (w 372)) l) := by
  have := hI.ik4
  unfold sX13_isCourier
  rw [e13_in, ob, hI.ik, in_ok (by omega)]
theorem e13_isOpen {c : Nat} (hc : c < 12) : sX13_isOpen w (iN c) = some (opb (w 372) c) := by
  unfold sX13_isOpen opb
  rw [e13_of1 hc, ob]
  by_cases h : cr (w 372) c 1 = 1
  · rw [if_pos h, if_pos h]
  · rw [if_neg h, if_neg h]
theorem l13_outermost (hI : Iv T z (w 372)) : ∀ (k c n : Nat), c < nC (w 372) → dp (hol (w 372)) (k + 1) (iN c) → k < n → sX13_outermost_2 n w (iN c) = some (iN (oN (hol (w 372)) k c)) := by
  have h12 := hI.ic12
  intro k
  induction k with
  | zero =>
    intro c n hc hd hn
    obtain ⟨n, rfl⟩ : ∃ q, n = q + 1 := ⟨n - 1, by omega⟩
    have h2 : hol (w 372) (iN c).toNatClampNeg = -1 := hd.2
    rw [iN_nat (by omega), hol_c (by omega)] at h2
    rw [sX13_outermost_2.eq_2, e13_of2 (by omega), ob, if_pos h2]
    rfl
  | succ k ih =>
    intro c n hc hd hn
    obtain ⟨n, rfl⟩ : ∃ q, n = q + 1 := ⟨n - 1, by omega⟩
    have h2 := hd.2
    rw [iN_nat (by omega), hol_c (by omega)] at h2
    rw [sX13_outermost_2.eq_2, e13_of2 (by omega), ob]
    show _ = some (iN (if hol (w 372) c = -1 then c else oN (hol (w 372)) k (hol (w 372) c).toNatClampNeg))
    rw [hol_c (by omega), if_neg h2.1, if_neg h2.1]
    rcases hI.ihp hc with e | ⟨d, hdd, e⟩
    · exact (h2.1 e).elim
    · rw [e] at h2 ⊢
      rw [iN_nat (by omega)]
      exact ih d n hdd h2 (by omega)
theorem e13_outermost (hI : Iv T z (w 372)) {c : Nat} (hc : c < nC (w 372)) : sX13_outermost w (iN c) = some (iN (out (w 372) c)) := by
  have h12 := hI.ic12
  obtain ⟨k, h1, h2⟩ := hI.idc hc
  unfold sX13_outermost
  rw [l13_outermost hI k c FU hc h2 (by show k < 4096; omega)]
  unfold out
  rw [oN_st (by omega) hI.ich hc h2 (by omega : k ≤ 12)]
theorem e13_venueOf (hI : Iv T z (w 372)) {c : Nat} (hc : c < nC (w 372)) : sX13_venueOf w (iN c) = some (vof (w 372) c) := by
  have h12 := hI.ic12
  have := hI.iout hc
  unfold sX13_venueOf
  rw [e13_outermost hI hc, ob, e13_of3 (by omega), ob]
  rfl
def aoN (h o : Nat → Int32) : Nat → Int32 → Bool
  | 0, _ => true
  | k + 1, x => if x = -1 then true else if o x.toNatClampNeg = 1 then aoN h o k (h x.toNatClampNeg) else false
theorem l13_isReached (hI : Iv T z (w 372)) : ∀ (k n : Nat) (x : Int32) (b : Bool), ptr (nC (w 372)) x → dp (hol (w 372)) k x → k < n → sX13_isReached_22 n w (bI b) x = some (b && aoN (hol (w 372)) (opn (w 372)) k x) := by
  have h12 := hI.ic12
  intro k
  induction k with
  | zero =>
    intro n x b hx hd hn
    obtain ⟨n, rfl⟩ : ∃ q, n = q + 1 := ⟨n - 1, by omega⟩
    rw [sX13_isReached_22.eq_2, if_pos (show x = -1 from hd)]
    cases b
    · rw [if_pos (show bI false = 0 from rfl)]; rfl
    · rw [if_neg (show ¬ bI true = 0 by decide), if_pos (show bI true = 1 from rfl)]; rfl
  | succ k ih =>
    intro n x b hx hd hn
    obtain ⟨n, rfl⟩ : ∃ q, n = q + 1 := ⟨n - 1, by omega⟩
    rcases hx with e | ⟨c, hc, rfl⟩
    · exact (hd.1 e).elim
    have h2 := hd.2
    rw [iN_nat (by omega)] at h2
    have hp : ptr (nC (w 372)) (hol (w 372) c) := hI.ich c hc
    rw [sX13_isReached_22.eq_2, if_neg (iN_m1 (by omega))]
    show _ = some (b && (if iN c = -1 then true else if opn (w 372) (iN c).toNatClampNeg = 1 then aoN (hol (w 372)) (opn (w 372)) k (hol (w 372) (iN c).toNatClampNeg) else false))
    rw [if_neg (iN_m1 (by omega)), iN_nat (by omega), opn_c (by omega)]
    have st : ∀ q : Bool, sX13_isReached_44 (fun w l2 l3 => sX13_isReached_22 n w l2 l3) w (iN c) (bI q) = some (q && aoN (hol (w 372)) (opn (w 372)) k (hol (w 372) c)) := fun q => by
      unfold sX13_isReached_44
      rw [e13_of2 (by omega), ob, ← hol_c (by omega)]
      exact ih n _ q hp h2 (by omega)
    cases b
    · rw [if_pos (show bI false = 0 from rfl)]
      exact st false
    · rw [if_neg (show ¬ bI true = 0 by decide), e13_isOpen (by omega), ob]
      unfold opb
      by_cases ho : cr (w 372) c 1 = 1
      · rw [if_pos ho, if_pos rfl, if_pos ho]
        exact st true
      · rw [if_neg ho, if_neg (by decide), if_neg ho]
        exact st false
theorem rc_ao (hI : Iv T z (w 372)) : ∀ (k c : Nat), c < nC (w 372) → dp (hol (w 372)) (k + 1) (iN c) → rcN (hol (w 372)) (opn (w 372)) (atv (w 372)) (k + 1) c = ((if atv (w 372) (oN (hol (w 372)) k c) = -1 then false else true) && aoN (hol (w 372)) (opn (w 372)) k (hol (w 372) c)) := by
  have h12 := hI.ic12
  intro k
  induction k with
  | zero =>
    intro c hc hd
    have h2 := hd.2
    rw [iN_nat (by omega)] at h2
    show (if hol (w 372) c = -1 then (if atv (w 372) c = -1 then false else true) else if opn (w 372) (hol (w 372) c).toNatClampNeg = 0 then false else rcN (hol (w 372)) (opn (w 372)) (atv (w 372)) 0 (hol (w 372) c).toNatClampNeg) = ((if atv (w 372) c = -1 then false else true) && true)
    rw [if_pos (show hol (w 372) c = -1 from h2), Bool.and_true]
  | succ k ih =>
    intro c hc hd
    have h2 := hd.2
    rw [iN_nat (by omega)] at h2
    show (if hol (w 372) c = -1 then (if atv (w 372) c = -1 then false else true) else if opn (w 372) (hol (w 372) c).toNatClampNeg = 0 then false else rcN (hol (w 372)) (opn (w 372)) (atv (w 372)) (k + 1) (hol (w 372) c).toNatClampNeg) = ((if atv (w 372) (if hol (w 372) c = -1 then c else oN (hol (w 372)) k (hol (w 372) c).toNatClampNeg) = -1 then false else true) && (if hol (w 372) c = -1 then true else if opn (w 372) (hol (w 372) c).toNatClampNeg = 1 then aoN (hol (w 372)) (opn (w 372)) k (hol (w 372) (hol (w 372) c).toNatClampNeg) else false))
    rcases hI.ich c hc with e | ⟨d, hd2, e⟩
    · exact (h2.1 e).elim
    · rw [e] at h2 ⊢
      rw [if_neg (iN_m1 (by omega)), if_neg (iN_m1 (by omega)), if_neg (iN_m1 (by omega)), iN_nat (by omega), ih d hd2 h2]
      rcases (hI.ico d hd2).1 with ho | ho
      · rw [opn_c (by omega), ho, if_pos rfl, if_neg (show ¬ (0 : Int32) = 1 by decide), Bool.and_false]
      · rw [opn_c (by omega), ho, if_neg (show ¬ (1 : Int32) = 0 by decide), if_pos (show (1 : Int32) = 1 from rfl)]
theorem e13_isReached (hI : Iv T z (w 372)) {c : Nat} (hc : c < nC (w 372)) : sX13_isReached w (iN c) = some (reach (w 372) c) := by
  have h12 := hI.ic12
  have ho := hI.iout hc
  obtain ⟨k, h1, h2⟩ := hI.idc hc
  have h3 := h2.2
  rw [iN_nat (by omega)] at h3
  have st : ∀ q : Bool, sX13_isReached_14 w (iN c) (bI q) = some (q && aoN (hol (w 372)) (opn (w 372)) k (hol (w 372) c)) := fun q => by
    unfold sX13_isReached_14
    rw [e13_of2 (by omega), ob, ← hol_c (by omega)]
    exact l13_isReached hI k FU _ q (hI.ich c hc) h3 (by show k < 4096; omega)
  unfold reach
  rw [rcN_st (by omega) hI.ich hc h2 h1, rc_ao hI k c hc h2, ← oN_st (by omega) hI.ich hc h2 (by omega : k ≤ 12)]
  show sX13_isReached w (iN c) = some ((if atv (w 372) (out (w 372) c) = -1 then false else true) && _)
  rw [atv_c (by omega)]
  unfold sX13_isReached
  rw [e13_venueOf hI hc, ob]
  unfold vof
  by_cases h : cr (w 372) (out (w 372) c) 3 = -1
  · rw [if_pos h, if_pos h]; exact st false
  · rw [if_neg h, if_neg h]; exact st true
theorem l13_isWithin (hI : Iv T z (w 372)) {t : Int32} (ht : ¬ t = -1) : ∀ (k n : Nat) (x : Int32), ptr (nC (w 372)) x → dp (hol (w 372)) k x → k < n → sX13_isWithin_2 n w t x = some (inN (hol (w 372)) k x t) := by
  have h12 := hI.ic12
  intro k
  induction k with
  | zero =>
    intro n x hx hd hn
    obtain ⟨n, rfl⟩ : ∃ q, n = q + 1 := ⟨n - 1, by omega⟩
    have hd : x = -1 := hd
    subst hd
    rw [sX13_isWithin_2.eq_2, if_pos rfl]
    unfold sX13_isWithin_22
    rw [if_neg (fun e => ht e.symm)]
    rfl
  | succ k ih =>
    intro n x hx hd hn
    obtain ⟨n, rfl⟩ : ∃ q, n = q + 1 := ⟨n - 1, by omega⟩
    rcases hx with e | ⟨c, hc, rfl⟩
    · exact (hd.1 e).elim
    have h2 := hd.2
    rw [iN_nat (by omega)] at h2
    rw [sX13_isWithin_2.eq_2, if_neg hd.1]
    show _ = some (if iN c = -1 then false else if iN c = t then true else inN (hol (w 372)) k (hol (w 372) (iN c).toNatClampNeg) t)
    rw [if_neg hd.1, iN_nat (by omega)]
    by_cases h : iN c = t
    · rw [if_pos h, if_pos h]
      unfold sX13_isWithin_22
      rw [if_pos h]
    · rw [if_neg h, if_neg h, e13_of2 (by omega), ob, ← hol_c (by omega)]
      exact ih n _ (hI.ich c hc) h2 (by omega)
theorem e13_isWithin (hI : Iv T z (w 372)) {x : Int32} {c : Nat} (hx : ptr (nC (w 372)) x) (hc : c < nC (w 372)) : sX13_isWithin w x (iN c) = some (isin (w 372) x (iN c)) := by
  have h12 := hI.ic12
  obtain ⟨k, h1, h2⟩ := hI.idx hx
  unfold sX13_isWithin isin
  rw [l13_isWithin hI (iN_m1 (by omega)) k FU x hx h2 (by show k < 4096; omega), inN_st h2 h1]
theorem e13_standsIn (hI : Iv T z (w 372)) {i : Nat} (hi : i < nW (w 372)) : sX13_standsIn w (iN i) = some (wat (w 372) i) := by
  have h12 := hI.ic12
  have h16 := hI.iw16
  unfold sX13_standsIn wat
  rw [e13_wk4 (by omega), ob]
  rcases hI.iwp hi with e | ⟨d, hd, e⟩
  · rw [e, if_pos rfl, if_pos rfl, e13_wk5 (by omega), ob]
  · rw [e, if_neg (iN_m1 (by omega)), if_neg (iN_m1 (by omega)), e13_venueOf hI hd, ob, iN_nat (by omega)]
theorem Iv.ito (h : Iv T z (w 372)) {c : Nat} (hc : c < nC (w 372)) (ha : ¬ cr (w 372) c 3 = -1) : cr (w 372) c 4 = -1 ∧ cr (w 372) c 5 = -1 := by
  rcases (h.ico c hc).2.2.2.1 with e | e
  · exact (ha e.1).elim
  · exact e.2
theorem e13_goesTo (hI : Iv T z (w 372)) {i : Nat} (hi : i < nW (w 372)) : sX13_goesTo w (iN i) = some (wto (w 372) i) := by
  have h12 := hI.ic12
  have h16 := hI.iw16
  unfold sX13_goesTo wto
  rw [e13_wk4 (by omega), ob]
  rcases hI.iwp hi with e | ⟨d, hd, e⟩
  · rw [e, if_pos rfl, if_pos rfl]
  · have ho := hI.iout hd
    rw [e, if_neg (iN_m1 (by omega)), if_neg (iN_m1 (by omega)), e13_venueOf hI hd, ob, iN_nat (by omega)]
    by_cases h : vof (w 372) d = -1
    · rw [if_pos h, e13_outermost hI hd, ob, e13_of4 (by omega), ob]
    · rw [if_neg h, (hI.ito ho h).1]
theorem e13_directWorks (hI : Iv T z (w 372))  (x : Int32) : sX13_directWorks w x  = some (aDirW (w 372) x) := by
  have h16 := hI.iw16
  have h12 := hI.ic12
  have h4 := hI.ik4
  unfold sX13_directWorks aDirW
  refine loopR (L := fun n a l => sX13_directWorks_4 n w x  a l) (N := nW (w 372)) (fin := some) (f := fun i a => if wk (w 372) i 4 = x then a + 1 else a) (fun n a => ?_) (fun n a i hi => ?_) (by show _ < 4096; omega) 0
  · show sX13_directWorks_4 (n + 1) w x  a (iN (nW (w 372))) = _
    rw [sX13_directWorks_4.eq_2, hI.iw, if_pos ((iN_le (by omega) (by omega)).mpr (Nat.le_refl _))]
  · show sX13_directWorks_4 (n + 1) w x  a (iN i) = sX13_directWorks_4 n w x  _ _
    rw [sX13_directWorks_4.eq_2, hI.iw, if_neg (fun q => by have := (iN_le (by omega) (by omega)).mp q; omega), e13_wk4 (by omega), ob, iN_s]
    by_cases h : wk (w 372) i 4 = x
    · simp only [if_pos h]
    · simp only [if_neg h, Int32.add_zero]
theorem e13_directCrates (hI : Iv T z (w 372))  (x : Int32) : sX13_directCrates w x  = some (aDirC (w 372) x) := by
  have h16 := hI.iw16
  have h12 := hI.ic12
  have h4 := hI.ik4
  unfold sX13_directCrates aDirC
  refine loopR (L := fun n a l => sX13_directCrates_4 n w x  a l) (N := nC (w 372)) (fin := some) (f := fun c a => if cr (w 372) c 2 = x then a + 1 else a) (fun n a => ?_) (fun n a i hi => ?_) (by show _ < 4096; omega) 0
  · show sX13_directCrates_4 (n + 1) w x  a (iN (nC (w 372))) = _
    rw [sX13_directCrates_4.eq_2, hI.ic, if_pos ((iN_le (by omega) (by omega)).mpr (Nat.le_refl _))]
  · show sX13_directCrates_4 (n + 1) w x  a (iN i) = sX13_directCrates_4 n w x  _ _
    rw [sX13_directCrates_4.eq_2, hI.ic, if_neg (fun q => by have := (iN_le (by omega) (by omega)).mp q; omega), e13_of2 (by omega), ob, iN_s]
    by_cases h : cr (w 372) i 2 = x
    · simp only [if_pos h]
    · simp only [if_neg h, Int32.add_zero]
theorem e13_worksIn_0 (hI : Iv T z (w 372)) {c : Nat} (hc : c < nC (w 372))  : sX13_worksIn w (iN c) (0 : Int32) = some (aWin (w 372) (iN c)) := by
  have h16 := hI.iw16
  have h12 := hI.ic12
  have h4 := hI.ik4
  unfold sX13_worksIn aWin
  refine loopR (L := fun n a l => sX13_worksIn_5 n w (iN c) (0 : Int32) a l) (N := nW (w 372)) (fin := some) (f := fun i a => if isin (w 372) (wk (w 372) i 4) (iN c) = true then a + 1 else a) (fun n a => ?_) (fun n a i hi => ?_) (by show _ < 4096; omega) 0
  · show sX13_worksIn_5 (n + 1) w (iN c) (0 : Int32) a (iN (nW (w 372))) = _
    rw [sX13_worksIn_5.eq_2, hI.iw, if_pos ((iN_le (by omega) (by omega)).mpr (Nat.le_refl _))]
  · show sX13_worksIn_5 (n + 1) w (iN c) (0 : Int32) a (iN i) = sX13_worksIn_5 n w (iN c) (0 : Int32) _ _
    rw [sX13_worksIn_5.eq_2, hI.iw, if_neg (fun q => by have := (iN_le (by omega) (by omega)).mp q; omega), e13_wk4 (by omega), ob, e13_isWithin hI (hI.iwp hi) hc, ob, if_pos (show (0 : Int32) = 0 from rfl), iN_s]
    by_cases h : isin (w 372) (wk (w 372) i 4) (iN c) = true
    · simp only [if_pos h]
    · simp only [if_neg h, Int32.add_zero]
theorem e13_worksIn_1 (hI : Iv T z (w 372)) {c : Nat} (hc : c < nC (w 372))  : sX13_worksIn w (iN c) (1 : Int32) = some (aVin (w 372) (iN c)) := by
  have h16 := hI.iw16
  have h12 := hI.ic12
  have h4 := hI.ik4
  unfold sX13_worksIn aVin
  refine loopR (L := fun n a l => sX13_worksIn_5 n w (iN c) (1 : Int32) a l) (N := nW (w 372)) (fin := some) (f := fun i a => if isin (w 372) (wk (w 372) i 4) (iN c) = true then a + wk (w 372) i 1 else a) (fun n a => ?_) (fun n a i hi => ?_) (by show _ < 4096; omega) 0
  · show sX13_worksIn_5 (n + 1) w (iN c) (1 : Int32) a (iN (nW (w 372))) = _
    rw [sX13_worksIn_5.eq_2, hI.iw, if_pos ((iN_le (by omega) (by omega)).mpr (Nat.le_refl _))]
  · show sX13_worksIn_5 (n + 1) w (iN c) (1 : Int32) a (iN i) = sX13_worksIn_5 n w (iN c) (1 : Int32) _ _
    rw [sX13_worksIn_5.eq_2, hI.iw, if_neg (fun q => by have := (iN_le (by omega) (by omega)).mp q; omega), e13_wk4 (by omega), ob, e13_isWithin hI (hI.iwp hi) hc, ob, if_neg (show ¬ (1 : Int32) = 0 by decide), e13_wk1 (by omega), ob, iN_s]
    by_cases h : isin (w 372) (wk (w 372) i 4) (iN c) = true
    · simp only [if_pos h]
    · simp only [if_neg h, Int32.add_zero]
end MD
