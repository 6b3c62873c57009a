/-! THE DIGEST: the model's -/
section DM
variable {w : Wl} {T z : Nat}
def MH (w s : Wl) (h : Int64) : Prop := lofW (s 371 10) (s 371 11) = h ∧ (∀ r, r ≠ 371 → r ≠ 375 → s r = w r) ∧ ∀ j, j ≠ 10 → j ≠ 11 → s 371 j = w 371 j
theorem MH.set {s : Wl} {h : Int64} (v : Int64) (hs : MH w s h) : MH w (wrow s 371 (upd (upd (s 371) 10 (hiW v)) 11 (loW v))) v := by
  obtain ⟨a, b, c⟩ := hs
  refine ⟨?_, fun r h1 h2 => by rw [rN h1]; exact b r h1 h2, fun j h1 h2 => by rw [rS, uN h2, uN h1]; exact c j h1 h2⟩
  rw [rS, uN (by decide), uS, uS, lofW_hl]
theorem MH.fr {s s' : Wl} {h : Int64} (hs : MH w s h) (h1 : ∀ r, r ≠ 375 → s' r = s r) : MH w s' h := by
  obtain ⟨a, b, c⟩ := hs
  refine ⟨by rw [h1 371 (by decide)]; exact a, fun r g1 g2 => (h1 r g2).trans (b r g1 g2), fun j g1 g2 => by rw [h1 371 (by decide)]; exact c j g1 g2⟩
theorem MH.mem {s : Wl} {h : Int64} (hs : MH w s h) : s 372 = w 372 := hs.2.1 372 (by decide) (by decide)
theorem fld_add {α : Type} {f : Nat → α → α} : ∀ (a b i : Nat) (x : α), fld f (a + b) i x = fld f b (i + a) (fld f a i x)
  | 0, b, i, x => by rw [Nat.zero_add]; rfl
  | a + 1, b, i, x => by
    rw [show a + 1 + b = (a + b) + 1 by omega]
    show fld f (a + b) (i + 1) (f i x) = fld f b (i + (a + 1)) (fld f a (i + 1) (f i x))
    rw [fld_add a b (i + 1), show i + 1 + a = i + (a + 1) by omega]
theorem fld_shift {α : Type} {f g : Nat → α → α} (s : Nat) : ∀ (k i : Nat) (x : α), (∀ j, i ≤ j → j < i + k → ∀ b, f (s + j) b = g j b) → fld f k (s + i) x = fld g k i x
  | 0, _, _, _ => rfl
  | k + 1, i, x, h => by
    show fld f k (s + i + 1) (f (s + i) x) = fld g k (i + 1) (g i x)
    rw [h i (Nat.le_refl _) (by omega)]
    exact fld_shift s k (i + 1) _ (fun j h1 h2 => h j (by omega) (by omega))
theorem fld_nine {α : Type} (F : Nat → Nat → α → α) (h : α) (N : Nat) : fld (fun k a => F (k / 9) (k % 9) a) (9 * N) 0 h = fld (fun v a => fld (fun j a => F v j a) 9 0 a) N 0 h := by
  induction N with
  | zero => rw [Nat.mul_zero]; rfl
  | succ N ih =>
    have e := fld_last (f := fun v a => fld (fun j a => F v j a) 9 0 a) N 0 h
    rw [Nat.zero_add] at e
    rw [e, show 9 * (N + 1) = 9 * N + 9 by omega, fld_add, ih, Nat.zero_add]
    generalize fld (fun v a => fld (fun j a => F v j a) 9 0 a) N 0 h = x
    have e3 : fld (fun k a => F (k / 9) (k % 9) a) 9 (9 * N + 0) x = fld (fun j a => F N j a) 9 0 x := fld_shift (9 * N) 9 0 x (fun j _ hj b => by
      rw [show (9 * N + j) / 9 = N by omega, show (9 * N + j) % 9 = j by omega])
    rw [Nat.add_zero] at e3
    rw [e3]
theorem dgV_flat (m : Nat → Int32) (N : Nat) (h : Int64) : fld (fun k a => mixI a (aVenue m (k / 9) (iN (k % 9)))) (9 * N) 0 h = fld (dgV1 m) N 0 h :=
  fld_nine (fun v j a => mixI a (aVenue m v (iN j))) h N
theorem div9 : ∀ k, k < 72 → iN k / 9 = iN (k / 9) ∧ iN k - iN (k / 9) * 9 = iN (k % 9) := by decide
end DM
