/-! TEXTS: the model's reader -/
theorem hsh_lt {t : Nat → Nat} {s : Nat} : ∀ (k : Nat), (∀ j, j < k → t (s + j) ≤ 122) → hsh t s k < 27 ^ k
  | 0, _ => by show (0 : Nat) < 27 ^ 0; decide
  | k + 1, h => by
    have := hsh_lt k (fun j hj => h j (by omega))
    have := h k (by omega)
    show hsh t s k * 27 + t (s + k) - 96 < 27 ^ (k + 1)
    rw [Nat.pow_succ]
    omega
theorem lg_eq {a b : Nat} (ha : a < 2147483648) (hb : b < 2147483648) : lg_cmp (Int64.ofNat a) (Int64.ofNat b) = 0 ↔ a = b := by
  have e1 : (Int64.ofNat a).toInt = a := Int64.toInt_ofNat_of_lt (by omega)
  have e2 : (Int64.ofNat b).toInt = b := Int64.toInt_ofNat_of_lt (by omega)
  unfold lg_cmp
  by_cases h : Int64.ofNat a > Int64.ofNat b
  · rw [if_pos h]
    have h := Int64.lt_iff_toInt_lt.mp h
    constructor
    · intro q; cases q
    · intro q; omega
  · rw [if_neg h]
    by_cases g : Int64.ofNat a = Int64.ofNat b
    · rw [if_pos g]
      have := congrArg Int64.toInt g
      exact ⟨fun _ => by omega, fun _ => rfl⟩
    · rw [if_neg g]
      constructor
      · intro q; cases q
      · intro q; exact (g (by rw [q])).elim
theorem wmt_long {t : Nat → Nat} {s l : Nat} (hl : 6 < l) : fst9 (wmt t s l) = 9 := by
  have k : ∀ d, d < 9 → wmt t s l d = false := fun d hd => by
    have : slen d ≤ 6 := (by decide : ∀ d, d < 9 → slen d ≤ 6) d hd
    unfold wmt
    rw [if_neg (by omega)]
  unfold fst9
  simp only [k 0 (by decide), k 1 (by decide), k 2 (by decide), k 3 (by decide), k 4 (by decide), k 5 (by decide), k 6 (by decide), k 7 (by decide), k 8 (by decide), iF]
/-- the model's reader at the place p, its command d, its numbers v -/
def mw (w : Wl) (p d : Int32) (v : Nat → Int32) : Wl := fun a => if a = 371 then upd (upd (w 371) 7 p) 8 d else if a = 376 then v else w a
/-- the model's text -/
def TM (w : Wl) (n : Nat) (t : Nat → Nat) : Prop := n ≤ 150 ∧ w 371 4 = iN n ∧ ∀ j, j < n → w 374 j = iN (t j) ∧ t j < 128
section MT
variable {w : Wl} {p d : Int32} {v : Nat → Int32}
theorem mw_1 : mw w p d v 371 = upd (upd (w 371) 7 p) 8 d := if_pos rfl
theorem mw_4 : mw w p d v 371 4 = w 371 4 := by rw [mw_1, uN (by decide), uN (by decide)]
theorem mw_7 : mw w p d v 371 7 = p := by rw [mw_1, uN (by decide), uS]
theorem mw_8 : mw w p d v 371 8 = d := by rw [mw_1, uS]
theorem mw_t : mw w p d v 374 = w 374 := rfl
theorem mw_v : mw w p d v 376 = v := rfl
theorem mw_o {a : Nat} (h1 : a ≠ 371) (h2 : a ≠ 376) : mw w p d v a = w a := by unfold mw; rw [if_neg h1, if_neg h2]
theorem mw_s7 {x : Int32} : wst (mw w p d v) 371 7 x = mw w x d v := by
  funext a
  by_cases h : a = 371
  · subst h
    rw [wS]
    show upd (upd (upd (w 371) 7 p) 8 d) 7 x = upd (upd (w 371) 7 x) 8 d
    rw [upd_comm (by decide : (8 : Nat) ≠ 7)]
    congr 1
    funext j
    by_cases e : j = 7
    · subst e; rw [uS, uS]
    · rw [uN e, uN e, uN e]
  · rw [wN h]
    unfold mw
    rw [if_neg h, if_neg h]
theorem mw_s8 {x : Int32} : wst (mw w p d v) 371 8 x = mw w p x v := by
  funext a
  by_cases h : a = 371
  · subst h
    rw [wS]
    show upd (upd (upd (w 371) 7 p) 8 d) 8 x = upd (upd (w 371) 7 p) 8 x
    funext j
    by_cases e : j = 8
    · subst e; rw [uS, uS]
    · rw [uN e, uN e, uN e]
  · rw [wN h]
    unfold mw
    rw [if_neg h, if_neg h]
theorem mw_sv {x : Int32} {j : Nat} : wst (mw w p d v) 376 j x = mw w p d (upd v j x) := by
  funext a
  by_cases h : a = 376
  · subst h; rw [wS]; rfl
  · rw [wN h]
    unfold mw
    by_cases h2 : a = 371
    · rw [if_pos h2, if_pos h2]
    · rw [if_neg h2, if_neg h2, if_neg h, if_neg h]
theorem mw_id : mw w (w 371 7) (w 371 8) (w 376) = w := by
  funext a
  unfold mw
  by_cases h : a = 371
  · subst h
    rw [if_pos rfl, upd_id rfl, upd_id rfl]
  · rw [if_neg h]
    by_cases h2 : a = 376
    · subst h2; rw [if_pos rfl]
    · rw [if_neg h2]
end MT
section MR
variable {w : Wl} {n : Nat} {t : Nat → Nat} {d : Int32} {v : Nat → Int32}
end MR
