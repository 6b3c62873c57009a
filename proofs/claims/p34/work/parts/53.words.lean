/-! TEXTS: reading, in words of the length n and the bytes t -/
def skp (n : Nat) (t : Nat → Nat) (p : Nat) : Nat := if h : p < n then (if t p = 32 then skp n t (p + 1) else p) else p
termination_by n - p
def wen (n : Nat) (t : Nat → Nat) (p : Nat) : Nat := if h : p < n then (if 97 ≤ t p ∧ t p ≤ 122 then wen n t (p + 1) else p) else p
termination_by n - p
def dgt (n : Nat) (t : Nat → Nat) : Nat → Nat → Nat → Nat × Nat
  | 0, p, v => (p, v)
  | k + 1, p, v => if p < n ∧ 48 ≤ t p ∧ t p ≤ 57 then dgt n t k (p + 1) (10 * v + t p - 48) else (p, v)
def num (n : Nat) (t : Nat → Nat) (p : Nat) : Bool × Nat × Nat := if p < n ∧ t p = 32 then (if skp n t p < n ∧ 48 ≤ t (skp n t p) ∧ t (skp n t p) ≤ 57 then (true, (dgt n t 4 (skp n t p) 0).1, (dgt n t 4 (skp n t p) 0).2) else (false, skp n t p, 0)) else (false, p, 0)
def rdN (n : Nat) (t : Nat → Nat) : Nat → Nat → Nat → (Nat → Int32) → Bool × Nat × (Nat → Int32)
  | 0, _, p, v => (true, p, v)
  | k + 1, i, p, v => if (num n t p).1 = true then rdN n t k (i + 1) (num n t p).2.1 (upd v i (iN (num n t p).2.2)) else (false, (num n t p).2.1, v)
/-- whether the word d stands at s .. e - 1 -/
def wmt (t : Nat → Nat) (s l d : Nat) : Bool := if slen d = l then !anyN (fun j => if iN (t (s + j)) = sby d j then false else true) (slen d) 0 else false
def fst9 (W : Nat → Bool) : Nat := if W 0 = true then 0 else if W 1 = true then 1 else if W 2 = true then 2 else if W 3 = true then 3 else if W 4 = true then 4 else if W 5 = true then 5 else if W 6 = true then 6 else if W 7 = true then 7 else if W 8 = true then 8 else 9
/-- a command from q on, where no space stands: its fault, or where it ends, which it is, its numbers -/
def cmd (n : Nat) (t : Nat → Nat) (q : Nat) (v : Nat → Int32) : Sum Nat (Nat × Nat × (Nat → Int32)) :=
  if fst9 (wmt t q (wen n t q - q)) = 9 then .inl q else
  if (rdN n t (wnc (fst9 (wmt t q (wen n t q - q)))).toNatClampNeg 0 (wen n t q) v).1 = true then
    (if skp n t (rdN n t (wnc (fst9 (wmt t q (wen n t q - q)))).toNatClampNeg 0 (wen n t q) v).2.1 < n ∧ t (skp n t (rdN n t (wnc (fst9 (wmt t q (wen n t q - q)))).toNatClampNeg 0 (wen n t q) v).2.1) = 59 then
      .inr (skp n t (rdN n t (wnc (fst9 (wmt t q (wen n t q - q)))).toNatClampNeg 0 (wen n t q) v).2.1 + 1, fst9 (wmt t q (wen n t q - q)), (rdN n t (wnc (fst9 (wmt t q (wen n t q - q)))).toNatClampNeg 0 (wen n t q) v).2.2)
     else .inl (skp n t (rdN n t (wnc (fst9 (wmt t q (wen n t q - q)))).toNatClampNeg 0 (wen n t q) v).2.1))
  else .inl (rdN n t (wnc (fst9 (wmt t q (wen n t q - q)))).toNatClampNeg 0 (wen n t q) v).2.1
theorem skp_ge {n : Nat} {t : Nat → Nat} : ∀ (k p : Nat), n - p ≤ k → p ≤ skp n t p ∧ (p ≤ n → skp n t p ≤ n)
  | 0, p, h => by
    rw [skp, dif_neg (by omega)]
    exact ⟨Nat.le_refl _, fun h => h⟩
  | k + 1, p, h => by
    rw [skp]
    by_cases h1 : p < n
    · rw [dif_pos h1]
      by_cases h2 : t p = 32
      · rw [if_pos h2]
        obtain ⟨a, b⟩ := skp_ge (n := n) (t := t) k (p + 1) (by omega)
        exact ⟨by omega, fun _ => b (by omega)⟩
      · rw [if_neg h2]; exact ⟨Nat.le_refl _, fun h => h⟩
    · rw [dif_neg h1]; exact ⟨Nat.le_refl _, fun h => h⟩
theorem skp_le {n p : Nat} {t : Nat → Nat} : p ≤ skp n t p := (skp_ge (n - p) p (Nat.le_refl _)).1
theorem skp_n {n p : Nat} {t : Nat → Nat} (h : p ≤ n) : skp n t p ≤ n := (skp_ge (n - p) p (Nat.le_refl _)).2 h
theorem skp_out {n p : Nat} {t : Nat → Nat} (h : n ≤ p) : skp n t p = p := by rw [skp, dif_neg (by omega)]
theorem skp_st {n : Nat} {t : Nat → Nat} : ∀ (k p : Nat), n - p ≤ k → skp n t (skp n t p) = skp n t p
  | 0, p, h => by
    have e := skp_out (n := n) (t := t) (show n ≤ p by omega)
    rw [e, e]
  | k + 1, p, h => by
    by_cases h1 : p < n
    · by_cases h2 : t p = 32
      · have e : skp n t p = skp n t (p + 1) := by rw [skp, dif_pos h1, if_pos h2]
        rw [e]
        exact skp_st k (p + 1) (by omega)
      · have e : skp n t p = p := by rw [skp, dif_pos h1, if_neg h2]
        rw [e, e]
    · have e := skp_out (n := n) (t := t) (show n ≤ p by omega)
      rw [e, e]
theorem wen_ge {n : Nat} {t : Nat → Nat} : ∀ (k p : Nat), n - p ≤ k → p ≤ wen n t p ∧ (p ≤ n → wen n t p ≤ n) ∧ (∀ j, p ≤ j → j < wen n t p → 97 ≤ t j ∧ t j ≤ 122)
  | 0, p, h => by
    rw [wen, dif_neg (by omega)]
    exact ⟨Nat.le_refl _, fun h => h, fun j h1 h2 => by omega⟩
  | k + 1, p, h => by
    rw [wen]
    by_cases h1 : p < n
    · rw [dif_pos h1]
      by_cases h2 : 97 ≤ t p ∧ t p ≤ 122
      · rw [if_pos h2]
        obtain ⟨a, b, c⟩ := wen_ge (n := n) (t := t) k (p + 1) (by omega)
        refine ⟨by omega, fun _ => b (by omega), fun j g1 g2 => ?_⟩
        by_cases e : j = p
        · subst e; exact h2
        · exact c j (by omega) g2
      · rw [if_neg h2]; exact ⟨Nat.le_refl _, fun h => h, fun j g1 g2 => by omega⟩
    · rw [dif_neg h1]; exact ⟨Nat.le_refl _, fun h => h, fun j g1 g2 => by omega⟩
theorem dgt_ge {n : Nat} {t : Nat → Nat} : ∀ (k p v : Nat), p ≤ (dgt n t k p v).1 ∧ (p ≤ n → (dgt n t k p v).1 ≤ n) ∧ (v < 10 ^ (4 - k) → k ≤ 4 → (dgt n t k p v).2 < 10000)
  | 0, p, v => ⟨Nat.le_refl _, fun h => h, fun h _ => h⟩
  | k + 1, p, v => by
    show p ≤ (if p < n ∧ 48 ≤ t p ∧ t p ≤ 57 then dgt n t k (p + 1) (10 * v + t p - 48) else (p, v)).1 ∧ (p ≤ n → (if p < n ∧ 48 ≤ t p ∧ t p ≤ 57 then dgt n t k (p + 1) (10 * v + t p - 48) else (p, v)).1 ≤ n) ∧ (v < 10 ^ (4 - (k + 1)) → k + 1 ≤ 4 → (if p < n ∧ 48 ≤ t p ∧ t p ≤ 57 then dgt n t k (p + 1) (10 * v + t p - 48) else (p, v)).2 < 10000)
    by_cases h : p < n ∧ 48 ≤ t p ∧ t p ≤ 57
    · rw [if_pos h]
      obtain ⟨a, b, c⟩ := dgt_ge (n := n) (t := t) k (p + 1) (10 * v + t p - 48)
      refine ⟨by omega, fun _ => b (by omega), fun h1 h2 => c ?_ (by omega)⟩
      have e : 10 ^ (4 - k) = 10 * 10 ^ (4 - (k + 1)) := by
        rw [show 4 - k = (4 - (k + 1)) + 1 by omega, Nat.pow_succ, Nat.mul_comm]
      omega
    · rw [if_neg h]
      refine ⟨Nat.le_refl _, fun h => h, fun h1 h2 => ?_⟩
      have : 10 ^ (4 - (k + 1)) ≤ 10 ^ 4 := Nat.pow_le_pow_right (by decide) (by omega)
      show v < 10000
      omega
theorem num_ge {n p : Nat} {t : Nat → Nat} : p ≤ (num n t p).2.1 ∧ (p ≤ n → (num n t p).2.1 ≤ n) ∧ (num n t p).2.2 < 10000 := by
  unfold num
  by_cases h : p < n ∧ t p = 32
  · rw [if_pos h]
    by_cases h2 : skp n t p < n ∧ 48 ≤ t (skp n t p) ∧ t (skp n t p) ≤ 57
    · rw [if_pos h2]
      obtain ⟨a, b, c⟩ := dgt_ge (n := n) (t := t) 4 (skp n t p) 0
      have := skp_le (n := n) (p := p) (t := t)
      have h3 := skp_n (n := n) (p := p) (t := t) (by omega)
      exact ⟨by show p ≤ (dgt n t 4 (skp n t p) 0).1; omega, fun _ => b h3, c (by decide) (by decide)⟩
    · rw [if_neg h2]
      exact ⟨skp_le, fun h => skp_n h, show (0 : Nat) < 10000 by decide⟩
  · rw [if_neg h]
    exact ⟨Nat.le_refl _, fun h => h, show (0 : Nat) < 10000 by decide⟩
theorem rdN_ge {n : Nat} {t : Nat → Nat} : ∀ (k i p : Nat) (v : Nat → Int32), p ≤ (rdN n t k i p v).2.1 ∧ (p ≤ n → (rdN n t k i p v).2.1 ≤ n)
  | 0, _, _, _ => ⟨Nat.le_refl _, fun h => h⟩
  | k + 1, i, p, v => by
    show p ≤ (if (num n t p).1 = true then rdN n t k (i + 1) (num n t p).2.1 (upd v i (iN (num n t p).2.2)) else (false, (num n t p).2.1, v)).2.1 ∧ (p ≤ n → (if (num n t p).1 = true then rdN n t k (i + 1) (num n t p).2.1 (upd v i (iN (num n t p).2.2)) else (false, (num n t p).2.1, v)).2.1 ≤ n)
    obtain ⟨a, b, -⟩ := num_ge (n := n) (p := p) (t := t)
    by_cases h : (num n t p).1 = true
    · rw [if_pos h]
      obtain ⟨c, d⟩ := rdN_ge (n := n) (t := t) k (i + 1) (num n t p).2.1 (upd v i (iN (num n t p).2.2))
      exact ⟨by omega, fun h => d (b h)⟩
    · rw [if_neg h]; exact ⟨a, b⟩
/-- what is read does not hang on the numbers before -/
theorem rdN_v {n : Nat} {t : Nat → Nat} : ∀ (k i p : Nat) (v v' : Nat → Int32), (rdN n t k i p v).1 = (rdN n t k i p v').1 ∧ (rdN n t k i p v).2.1 = (rdN n t k i p v').2.1 ∧ ((∀ j, j < i → v j = v' j) → (rdN n t k i p v).1 = true → ∀ j, j < i + k → (rdN n t k i p v).2.2 j = (rdN n t k i p v').2.2 j)
  | 0, _, _, _, _ => ⟨rfl, rfl, fun h _ j hj => h j hj⟩
  | k + 1, i, p, v, v' => by
    show (if (num n t p).1 = true then rdN n t k (i + 1) (num n t p).2.1 (upd v i (iN (num n t p).2.2)) else (false, (num n t p).2.1, v)).1 = (if (num n t p).1 = true then rdN n t k (i + 1) (num n t p).2.1 (upd v' i (iN (num n t p).2.2)) else (false, (num n t p).2.1, v')).1 ∧ (if (num n t p).1 = true then rdN n t k (i + 1) (num n t p).2.1 (upd v i (iN (num n t p).2.2)) else (false, (num n t p).2.1, v)).2.1 = (if (num n t p).1 = true then rdN n t k (i + 1) (num n t p).2.1 (upd v' i (iN (num n t p).2.2)) else (false, (num n t p).2.1, v')).2.1 ∧ ((∀ j, j < i → v j = v' j) → (if (num n t p).1 = true then rdN n t k (i + 1) (num n t p).2.1 (upd v i (iN (num n t p).2.2)) else (false, (num n t p).2.1, v)).1 = true → ∀ j, j < i + (k + 1) → (if (num n t p).1 = true then rdN n t k (i + 1) (num n t p).2.1 (upd v i (iN (num n t p).2.2)) else (false, (num n t p).2.1, v)).2.2 j = (if (num n t p).1 = true then rdN n t k (i + 1) (num n t p).2.1 (upd v' i (iN (num n t p).2.2)) else (false, (num n t p).2.1, v')).2.2 j)
    by_cases h : (num n t p).1 = true
    · simp only [if_pos h]
      obtain ⟨a, b, c⟩ := rdN_v (n := n) (t := t) k (i + 1) (num n t p).2.1 (upd v i (iN (num n t p).2.2)) (upd v' i (iN (num n t p).2.2))
      refine ⟨a, b, fun h1 h2 j hj => c (fun j' hj' => ?_) h2 j (by omega)⟩
      by_cases e : j' = i
      · subst e; rw [uS, uS]
      · rw [uN e, uN e]; exact h1 j' (by omega)
    · simp only [if_neg h]
      exact ⟨trivial, trivial, fun _ q => by cases q⟩
theorem fst9_lt {W : Nat → Bool} : fst9 W < 9 ∨ fst9 W = 9 := by
  unfold fst9
  split
  · exact Or.inl (by decide)
  split
  · exact Or.inl (by decide)
  split
  · exact Or.inl (by decide)
  split
  · exact Or.inl (by decide)
  split
  · exact Or.inl (by decide)
  split
  · exact Or.inl (by decide)
  split
  · exact Or.inl (by decide)
  split
  · exact Or.inl (by decide)
  split
  · exact Or.inl (by decide)
  · exact Or.inr rfl
