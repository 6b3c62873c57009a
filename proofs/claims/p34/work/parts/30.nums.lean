/-! NUMBERS AND LOOPS, pure -/
def iN (n : Nat) : Int32 := Int32.ofNat n
theorem iN_add (a b : Nat) : iN a + iN b = iN (a + b) := (Int32.ofNat_add a b).symm
theorem iN_mul (a b : Nat) : iN a * iN b = iN (a * b) := (Int32.ofNat_mul a b).symm
theorem iN_lt {a b : Nat} (ha : a < 2147483648) (hb : b < 2147483648) : iN a < iN b ↔ a < b := Int32.ofNat_lt_iff_lt ha hb
theorem iN_le {a b : Nat} (ha : a < 2147483648) (hb : b < 2147483648) : iN a ≤ iN b ↔ a ≤ b := Int32.ofNat_le_iff_le ha hb
theorem iN_nat {a : Nat} (h : a < 2147483648) : (iN a).toNatClampNeg = a := Int32.toNatClampNeg_ofNat_of_lt h
theorem iN_int {a : Nat} (h : a < 2147483648) : (iN a).toInt = a := Int32.toInt_ofNat_of_lt h
theorem iN_eq {a b : Nat} (ha : a < 2147483648) (hb : b < 2147483648) : iN a = iN b ↔ a = b :=
  ⟨fun h => by have := congrArg Int32.toNatClampNeg h; rwa [iN_nat ha, iN_nat hb] at this, fun h => by rw [h]⟩
theorem iN_neg {a : Nat} (h : a < 2147483648) : ¬ iN a < 0 := by
  rw [show (0 : Int32) = iN 0 from rfl, iN_lt h (by decide)]; omega
theorem iN_ge {a : Nat} (h : a < 2147483648) : 0 ≤ iN a := by
  rw [show (0 : Int32) = iN 0 from rfl, iN_le (by decide) h]; omega
theorem iN_m1 {a : Nat} (h : a < 2147483648) : ¬ iN a = -1 := fun e => by
  have := iN_neg h
  rw [e] at this
  exact this (by decide)
theorem m1_iN {a : Nat} (h : a < 2147483648) : ¬ -1 = iN a := fun e => iN_m1 h e.symm
theorem idx_iN {k N : Nat} (h : k < N) (hN : N ≤ 2147483648) : idx (iN k) N = some k := by
  unfold idx
  rw [iN_nat (by omega), if_neg (fun q => by rcases q with q | q; exact iN_neg (by omega) q; omega)]
theorem of_nn {x : Int32} (h : ¬ x < 0) : x = iN x.toNatClampNeg := (Int32.ofNat_toNatClampNeg x (Int32.not_lt.mp h)).symm
theorem nat_lt (x : Int32) : x.toNatClampNeg < 2147483648 := by
  have := Int32.toInt_lt x
  show x.toInt.toNat < _
  omega
theorem iN_s (a : Nat) : iN a + 1 = iN (a + 1) := iN_add a 1
theorem iN_p (a : Nat) : iN (a + 1) - 1 = iN a := by
  rw [← iN_s, show iN a + 1 - 1 = iN a from Int32.add_sub_cancel _ _]
theorem iN_p' (a : Nat) : iN (a + 1) + (-1) = iN a := by
  rw [← Int32.sub_eq_add_neg]; exact iN_p a
/-- from i on k times -/
def fld {α : Type} (f : Nat → α → α) : Nat → Nat → α → α
  | 0, _, a => a
  | k + 1, i, a => fld f k (i + 1) (f i a)
theorem fld_congr {α : Type} {f g : Nat → α → α} : ∀ (k i : Nat) (a : α), (∀ j, i ≤ j → j < i + k → ∀ b, f j b = g j b) → fld f k i a = fld g k i a
  | 0, _, _, _ => rfl
  | k + 1, i, a, h => by
    show fld f k (i + 1) (f i a) = fld g k (i + 1) (g i a)
    rw [h i (Nat.le_refl _) (by omega)]
    exact fld_congr k (i + 1) _ (fun j h1 h2 b => h j (by omega) (by omega) b)
theorem fld_inv {α : Type} {f : Nat → α → α} (P : Nat → α → Prop) : ∀ (k i : Nat) (a : α), P i a → (∀ j b, i ≤ j → j < i + k → P j b → P (j + 1) (f j b)) → P (i + k) (fld f k i a)
  | 0, _, _, h, _ => h
  | k + 1, i, a, h, hs => by
    have := fld_inv P k (i + 1) (f i a) (hs i a (Nat.le_refl _) (by omega) h) (fun j b h1 h2 hb => hs j b (by omega) (by omega) hb)
    rwa [show i + 1 + k = i + (k + 1) by omega] at this
theorem fld_last {α : Type} {f : Nat → α → α} : ∀ (k i : Nat) (a : α), fld f (k + 1) i a = f (i + k) (fld f k i a)
  | 0, _, _ => rfl
  | k + 1, i, a => by
    show fld f (k + 1) (i + 1) (f i a) = f (i + (k + 1)) (fld f k (i + 1) (f i a))
    rw [fld_last k (i + 1) (f i a), show i + 1 + k = i + (k + 1) by omega]
/-- a loop with an index, that changes a state -/
theorem loopP {α β : Type} {L : Nat → α → Int32 → Option β} {N : Nat} {fin : α → Option β} {f : Nat → α → α} (P : Nat → α → Prop)
    (h0 : ∀ n a, P N a → L (n + 1) a (iN N) = fin a)
    (h1 : ∀ n a i, i < N → P i a → L (n + 1) a (iN i) = L n (f i a) (iN (i + 1)))
    (h2 : ∀ a i, i < N → P i a → P (i + 1) (f i a)) :
    ∀ (k i : Nat) (a : α) (n : Nat), i + k = N → k < n → P i a → L n a (iN i) = fin (fld f k i a) ∧ P N (fld f k i a)
  | 0, i, a, n, hi, hn, hp => by
    obtain ⟨n, rfl⟩ : ∃ m, n = m + 1 := ⟨n - 1, by omega⟩
    have e : i = N := by omega
    subst e
    exact ⟨h0 n a hp, hp⟩
  | k + 1, i, a, n, hi, hn, hp => by
    obtain ⟨n, rfl⟩ : ∃ m, n = m + 1 := ⟨n - 1, by omega⟩
    rw [h1 n a i (by omega) hp]
    exact loopP P h0 h1 h2 k (i + 1) (f i a) n (by omega) (by omega) (h2 a i (by omega) hp)
theorem loopR {α β : Type} {L : Nat → α → Int32 → Option β} {N : Nat} {fin : α → Option β} {f : Nat → α → α}
    (h0 : ∀ n a, L (n + 1) a (iN N) = fin a)
    (h1 : ∀ n a i, i < N → L (n + 1) a (iN i) = L n (f i a) (iN (i + 1)))
    (hN : N < FU) (a : α) : L FU a (iN 0) = fin (fld f N 0 a) :=
  (loopP (fun _ _ => True) (fun n a _ => h0 n a) (fun n a i hi _ => h1 n a i hi) (fun _ _ _ _ => trivial) N 0 a FU (Nat.zero_add _) hN trivial).1
/-- a loop with an index that may end early -/
def fldE {α β : Type} (f : Nat → α → Sum β α) (fin : α → β) : Nat → Nat → α → β
  | 0, _, a => fin a
  | k + 1, i, a => match f i a with
    | .inl b => b
    | .inr a' => fldE f fin k (i + 1) a'
theorem loopE {α β : Type} {L : Nat → α → Int32 → Option β} {N : Nat} {fin : α → β} {f : Nat → α → Sum β α}
    (h0 : ∀ n a, L (n + 1) a (iN N) = some (fin a))
    (h1 : ∀ n a i, i < N → L (n + 1) a (iN i) = match f i a with | .inl b => some b | .inr a' => L n a' (iN (i + 1))) :
    ∀ (k i : Nat) (a : α) (n : Nat), i + k = N → k < n → L n a (iN i) = some (fldE f fin k i a)
  | 0, i, a, n, hi, hn => by
    obtain ⟨n, rfl⟩ : ∃ m, n = m + 1 := ⟨n - 1, by omega⟩
    have e : i = N := by omega
    subst e
    exact h0 n a
  | k + 1, i, a, n, hi, hn => by
    obtain ⟨n, rfl⟩ : ∃ m, n = m + 1 := ⟨n - 1, by omega⟩
    rw [h1 n a i (by omega)]
    show _ = some (match f i a with | .inl b => b | .inr a' => fldE f fin k (i + 1) a')
    cases f i a with
    | inl b => rfl
    | inr a' => exact loopE h0 h1 k (i + 1) a' n (by omega) (by omega)
theorem fldE_congr {α β : Type} {f g : Nat → α → Sum β α} {fin : α → β} : ∀ (k i : Nat) (a : α), (∀ j, i ≤ j → j < i + k → ∀ b, f j b = g j b) → fldE f fin k i a = fldE g fin k i a
  | 0, _, _, _ => rfl
  | k + 1, i, a, h => by
    show (match f i a with | .inl b => b | .inr a' => fldE f fin k (i + 1) a') = (match g i a with | .inl b => b | .inr a' => fldE g fin k (i + 1) a')
    rw [h i (Nat.le_refl _) (by omega)]
    cases g i a with
    | inl b => rfl
    | inr a' => exact fldE_congr k (i + 1) a' (fun j h1 h2 b => h j (by omega) (by omega) b)
-- rows
theorem wS {w : Wl} {q j : Nat} {v : Int32} : wst w q j v q = upd (w q) j v := wrow_same
theorem wN {w : Wl} {q j a : Nat} {v : Int32} (h : a ≠ q) : wst w q j v a = w a := wrow_ne h
theorem rS {w : Wl} {q : Nat} {f : Nat → Int32} : wrow w q f q = f := wrow_same
theorem rN {w : Wl} {q a : Nat} {f : Nat → Int32} (h : a ≠ q) : wrow w q f a = w a := wrow_ne h
theorem uS {f : Nat → Int32} {k : Nat} {v : Int32} : upd f k v k = v := if_pos rfl
theorem uN {f : Nat → Int32} {k a : Nat} {v : Int32} (h : a ≠ k) : upd f k v a = f a := if_neg h
theorem wrow_wrow {w : Wl} {q : Nat} {f g : Nat → Int32} : wrow (wrow w q f) q g = wrow w q g := by
  funext a
  by_cases h : a = q
  · subst h; rw [rS, rS]
  · rw [rN h, rN h, rN h]
theorem wst_wst {w : Wl} {q i j : Nat} {u v : Int32} : wst (wst w q i u) q j v = wrow w q (upd (upd (w q) i u) j v) := by
  unfold wst
  rw [wrow_wrow, rS]
theorem wst_wrow {w : Wl} {q j : Nat} {f : Nat → Int32} {v : Int32} : wst (wrow w q f) q j v = wrow w q (upd f j v) := by
  unfold wst
  rw [wrow_wrow, rS]
theorem ob {α β : Type} {a : α} {f : α → Option β} : (some a).bind f = f a := rfl
theorem iF {α : Type} {a b : α} {d : Decidable (false = true)} : @ite α (false = true) d a b = b := if_neg Bool.false_ne_true
theorem iT {α : Type} {a b : α} {d : Decidable (true = true)} : @ite α (true = true) d a b = a := if_pos rfl
