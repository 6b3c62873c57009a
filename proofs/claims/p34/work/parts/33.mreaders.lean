/-! THE MODEL'S READERS, in words of m = w 372. Written by wip/whole/pure/p33.py -/
def opb (m : Nat → Int32) (c : Nat) : Bool := if cr m c 1 = 1 then true else false
theorem ix_cr {c j : Nat} (hc : c < 12) (hj : j < 9) : idx (((145 : Int32) + ((9 : Int32) * iN c)) + iN j) 541 = some (145 + 9 * c + j) := by
  rw [show (145 : Int32) = iN 145 from rfl, show (9 : Int32) = iN 9 from rfl, iN_mul, iN_add, iN_add]
  exact idx_iN (by omega) (by decide)
theorem ix_wk {c j : Nat} (hc : c < 16) (hj : j < 18) : idx (((253 : Int32) + ((18 : Int32) * iN c)) + iN j) 541 = some (253 + 18 * c + j) := by
  rw [show (253 : Int32) = iN 253 from rfl, show (18 : Int32) = iN 18 from rfl, iN_mul, iN_add, iN_add]
  exact idx_iN (by omega) (by decide)
theorem ix_vn {c j : Nat} (hc : c < 8) (hj : j < 13) : idx (((9 : Int32) + ((13 : Int32) * iN c)) + iN j) 541 = some (9 + 13 * c + j) := by
  rw [show (9 : Int32) = iN 9 from rfl, show (13 : Int32) = iN 13 from rfl, iN_mul, iN_add, iN_add]
  exact idx_iN (by omega) (by decide)
theorem ix_v0 {c : Nat} (hc : c < 8) : idx ((9 : Int32) + ((13 : Int32) * iN c)) 541 = some (9 + 13 * c) := by
  rw [show (9 : Int32) = iN 9 from rfl, show (13 : Int32) = iN 13 from rfl, iN_mul, iN_add]
  exact idx_iN (by omega) (by decide)
theorem ix_ln {c j : Nat} (hc : c < 6) (hj : j < 4) : idx (((113 : Int32) + ((4 : Int32) * iN c)) + iN j) 541 = some (113 + 4 * c + j) := by
  rw [show (113 : Int32) = iN 113 from rfl, show (4 : Int32) = iN 4 from rfl, iN_mul, iN_add, iN_add]
  exact idx_iN (by omega) (by decide)
theorem ix_l0 {c : Nat} (hc : c < 6) : idx ((113 : Int32) + ((4 : Int32) * iN c)) 541 = some (113 + 4 * c) := by
  rw [show (113 : Int32) = iN 113 from rfl, show (4 : Int32) = iN 4 from rfl, iN_mul, iN_add]
  exact idx_iN (by omega) (by decide)
theorem ix_co {k : Nat} (hk : k < 4) : idx ((137 : Int32) + ((2 : Int32) * iN k)) 541 = some (137 + 2 * k) := by
  rw [show (137 : Int32) = iN 137 from rfl, show (2 : Int32) = iN 2 from rfl, iN_mul, iN_add]
  exact idx_iN (by omega) (by decide)
theorem ix_tg {k : Nat} (hk : k < 4) : idx (((137 : Int32) + ((2 : Int32) * iN k)) + (1 : Int32)) 541 = some (137 + 2 * k + 1) := by
  rw [show (137 : Int32) = iN 137 from rfl, show (2 : Int32) = iN 2 from rfl, show (1 : Int32) = iN 1 from rfl, iN_mul, iN_add, iN_add]
  exact idx_iN (by omega) (by decide)
theorem ix_l1 {c : Nat} (hc : c < 6) : idx (((113 : Int32) + ((4 : Int32) * iN c)) + (1 : Int32)) 541 = some (113 + 4 * c + 1) := ix_ln (j := 1) hc (by decide)
theorem ix_l2 {c : Nat} (hc : c < 6) : idx (((113 : Int32) + ((4 : Int32) * iN c)) + (2 : Int32)) 541 = some (113 + 4 * c + 2) := ix_ln (j := 2) hc (by decide)
theorem ix_l3 {c : Nat} (hc : c < 6) : idx (((113 : Int32) + ((4 : Int32) * iN c)) + (3 : Int32)) 541 = some (113 + 4 * c + 3) := ix_ln (j := 3) hc (by decide)
section MD
variable {T z : Nat} {w : Wl}
theorem in_ok {n : Nat} (hn : n < 2147483648) (l : Int32) : (if l < 0 then false else if iN n - 1 < l then false else true) = ok n l := by
  unfold ok
  by_cases h1 : l < 0
  · rw [if_pos h1, if_pos h1]
  · rw [if_neg h1, if_neg h1, of_nn h1]
    have hl := nat_lt l
    cases n with
    | zero =>
      rw [if_pos (show iN 0 - 1 < iN l.toNatClampNeg from Int32.lt_of_lt_of_le (by decide) (iN_ge hl)), if_pos (show iN 0 ≤ iN l.toNatClampNeg from iN_ge hl)]
    | succ n =>
      rw [iN_p]
      by_cases h2 : iN (n + 1) ≤ iN l.toNatClampNeg
      · rw [if_pos h2, if_pos ((iN_lt (by omega) hl).mpr (by have := (iN_le hn hl).mp h2; omega))]
      · rw [if_neg h2, if_neg (fun q => h2 ((iN_le hn hl).mpr (by have := (iN_lt (by omega) hl).mp q; omega)))]
def aoN (h o : Nat → Int32) : Nat → Int32 → Bool
  | 0, _ => true
  | k + 1, x => if x = -1 then true else if o x.toNatClampNeg = 1 then aoN h o k (h x.toNatClampNeg) else false
theorem rc_ao (hI : Iv T z (w 372)) : ∀ (k c : Nat), c < nC (w 372) → dp (hol (w 372)) (k + 1) (iN c) → rcN (hol (w 372)) (opn (w 372)) (atv (w 372)) (k + 1) c = ((if atv (w 372) (oN (hol (w 372)) k c) = -1 then false else true) && aoN (hol (w 372)) (opn (w 372)) k (hol (w 372) c)) := by
  have h12 := hI.ic12
  intro k
  induction k with
  | zero =>
    intro c hc hd
    have h2 := hd.2
    rw [iN_nat (by omega)] at h2
    show (if hol (w 372) c = -1 then (if atv (w 372) c = -1 then false else true) else if opn (w 372) (hol (w 372) c).toNatClampNeg = 0 then false else rcN (hol (w 372)) (opn (w 372)) (atv (w 372)) 0 (hol (w 372) c).toNatClampNeg) = ((if atv (w 372) c = -1 then false else true) && true)
    rw [if_pos (show hol (w 372) c = -1 from h2), Bool.and_true]
  | succ k ih =>
    intro c hc hd
    have h2 := hd.2
    rw [iN_nat (by omega)] at h2
    show (if hol (w 372) c = -1 then (if atv (w 372) c = -1 then false else true) else if opn (w 372) (hol (w 372) c).toNatClampNeg = 0 then false else rcN (hol (w 372)) (opn (w 372)) (atv (w 372)) (k + 1) (hol (w 372) c).toNatClampNeg) = ((if atv (w 372) (if hol (w 372) c = -1 then c else oN (hol (w 372)) k (hol (w 372) c).toNatClampNeg) = -1 then false else true) && (if hol (w 372) c = -1 then true else if opn (w 372) (hol (w 372) c).toNatClampNeg = 1 then aoN (hol (w 372)) (opn (w 372)) k (hol (w 372) (hol (w 372) c).toNatClampNeg) else false))
    rcases hI.ich c hc with e | ⟨d, hd2, e⟩
    · exact (h2.1 e).elim
    · rw [e] at h2 ⊢
      rw [if_neg (iN_m1 (by omega)), if_neg (iN_m1 (by omega)), if_neg (iN_m1 (by omega)), iN_nat (by omega), ih d hd2 h2]
      rcases (hI.ico d hd2).1 with ho | ho
      · rw [opn_c (by omega), ho, if_pos rfl, if_neg (show ¬ (0 : Int32) = 1 by decide), Bool.and_false]
      · rw [opn_c (by omega), ho, if_neg (show ¬ (1 : Int32) = 0 by decide), if_pos (show (1 : Int32) = 1 from rfl)]
theorem Iv.ito (h : Iv T z (w 372)) {c : Nat} (hc : c < nC (w 372)) (ha : ¬ cr (w 372) c 3 = -1) : cr (w 372) c 4 = -1 ∧ cr (w 372) c 5 = -1 := by
  rcases (h.ico c hc).2.2.2.1 with e | e
  · exact (ha e.1).elim
  · exact e.2
end MD
