/-! What the written walks use. -/
theorem lwZ {ls : List (Option Value)} : lw [] ls := trivial
theorem lwN {t' ls : List (Option Value)} {a : Option Value} (h : lw t' ls) : lw (none :: t') (a :: ls) := h
theorem lwS {t' ls : List (Option Value)} {v : Value} (h : lw t' ls) : lw (some v :: t') (some v :: ls) := ⟨rfl, h⟩
theorem bft {b : Bool} (h : b = false) : ¬ b = true := by rw [h]; decide
theorem bI_01 (b : Bool) : bI b = 0 ∨ bI b = 1 := by cases b <;> decide
theorem grd {c : Prop} [Decidable c] {α : Type} {a : Option α} {r : α} (h : ite c a none = some r) : c ∧ a = some r := by
  by_cases hc : c
  · exact ⟨hc, (if_pos hc).symm.trans h⟩
  · rw [if_neg hc] at h; cases h
theorem swD {x : Int32} {lo hi : Int} (h : ∀ j : Int, lo ≤ j → j ≤ hi → x = Int32.ofInt j → False) : x.toInt < lo ∨ hi < x.toInt := by
  by_cases h1 : x.toInt < lo
  · exact Or.inl h1
  · by_cases h2 : hi < x.toInt
    · exact Or.inr h2
    · exact (h x.toInt (by omega) (by omega) (Int32.ofInt_toInt x).symm).elim
theorem iinc_m1 (v : Int32) : v + Int32.ofInt (-1) = v + (-1) := by rw [show Int32.ofInt (-1) = -1 by decide]
theorem idx_of {i : Int32} {N c : Nat} (h : idx i N = some c) : i = Int32.ofNat i.toNatClampNeg := by
  have h1 := idx_in h
  have h0 : 0 ≤ i.toInt := by
    have : ¬ i < 0 := fun q => h1 (Or.inl q)
    rw [Int32.lt_iff_toInt_lt] at this
    simpa using this
  rw [← Int32.toInt_inj]
  have h3 : i.toNatClampNeg = i.toInt.toNat := rfl
  rw [h3, Int32.toInt_ofNat', Int.bmod_eq_of_le]
  · omega
  · have := Int32.le_toInt i; simp only [Int32.size] at *; omega
  · have := Int32.toInt_lt i; simp only [Int32.size] at *; omega
