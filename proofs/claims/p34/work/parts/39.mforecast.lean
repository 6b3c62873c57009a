/-! THE FORECASTS: the model's, and of a sending -/
def sendM (m : Nat → Int32) (c v : Nat) : Nat → Int32 := upd (upd (upd m (145 + 9 * c + 5) (m 0 + vn m (cr m c 3).toNatClampNeg (5 + v))) (145 + 9 * c + 4) (iN v)) (145 + 9 * c + 3) (-1)
def aBy (m : Nat → Int32) (c v : Nat) : Int32 := if aWin (sendM m c v) (iN c) = 0 then cr (sendM m c v) c 5 else aAll (sendM m c v) (iN c)
def aBest (m : Nat → Int32) (c : Nat) (x : Int32) : Int32 × Int32 := fld (fun v (s : Int32 × Int32) => if aReason m c v x = 0 then (if s.1 = -1 then (iN v, aBy m c v) else if s.2 ≤ aBy m c v then s else (iN v, aBy m c v)) else s) (nV m) 0 (-1, 0)
theorem sendM_eqo {m : Nat → Int32} {c v : Nat} : eqo (145 + 9 * c) (154 + 9 * c) m (sendM m c v) := ((eqo.rf.upd1 (by omega) (by omega)).upd1 (by omega) (by omega)).upd1 (by omega) (by omega)
theorem sendM_0 {m : Nat → Int32} {c v : Nat} : cr (sendM m c v) c 0 = cr m c 0 ∧ cr (sendM m c v) c 1 = cr m c 1 ∧ cr (sendM m c v) c 2 = cr m c 2 ∧ cr (sendM m c v) c 3 = -1 ∧ cr (sendM m c v) c 4 = iN v ∧ cr (sendM m c v) c 5 = m 0 + vn m (cr m c 3).toNatClampNeg (5 + v) ∧ cr (sendM m c v) c 6 = cr m c 6 ∧ cr (sendM m c v) c 7 = cr m c 7 ∧ cr (sendM m c v) c 8 = cr m c 8 := by
  unfold sendM
  refine ⟨?_, ?_, ?_, ?_, ?_, ?_, ?_, ?_, ?_⟩
  · show upd _ _ _ _ = _; rw [uN (by omega), uN (by omega), uN (by omega)]; rfl
  · show upd _ _ _ _ = _; rw [uN (by omega), uN (by omega), uN (by omega)]; rfl
  · show upd _ _ _ _ = _; rw [uN (by omega), uN (by omega), uN (by omega)]; rfl
  · show upd _ _ _ _ = _; rw [uS]
  · show upd _ _ _ _ = _; rw [uN (by omega), uS]
  · show upd _ _ _ _ = _; rw [uN (by omega), uN (by omega), uS]
  · show upd _ _ _ _ = _; rw [uN (by omega), uN (by omega), uN (by omega)]; rfl
  · show upd _ _ _ _ = _; rw [uN (by omega), uN (by omega), uN (by omega)]; rfl
  · show upd _ _ _ _ = _; rw [uN (by omega), uN (by omega), uN (by omega)]; rfl
theorem sendM_hol {m : Nat → Int32} {c v : Nat} : hol (sendM m c v) = hol m := by
  funext d
  unfold hol
  by_cases h : d < 12
  · rw [if_pos h, if_pos h]
    by_cases e : d = c
    · subst e; exact sendM_0.2.2.1
    · exact sendM_eqo.fr e (by decide)
  · rw [if_neg h, if_neg h]
section MF
variable {T z : Nat} {m : Nat → Int32} {w : Wl}
/-- what may be sent -/
theorem reason0 (hI : Iv T z m) {c v : Nat} {x : Int32} (hc : c < nC m) (hv : v < nV m) (h : aReason m c v x = 0) : opb m c = false ∧ cr m c 1 = 0 ∧ cr m c 2 = -1 ∧ (∃ u a, u < nV m ∧ u ≠ v ∧ cr m c 3 = iN u ∧ 1 ≤ a ∧ a ≤ 200 ∧ vn m u (5 + v) = iN a) ∧ (¬ x = -1 → co m x.toNatClampNeg = cr m c 3) := by
  have h12 := hI.ic12
  have h8 := hI.iv8
  unfold aReason at h
  rcases hI.iob hc with ⟨o1, o2⟩ | ⟨o1, o2⟩
  · rw [o2] at h
    simp only [iF] at h
    refine ⟨o2, o1, ?_⟩
    by_cases h2 : cr m c 2 = -1
    · refine ⟨h2, ?_⟩
      rw [if_pos h2] at h
      rcases hI.iat hc with h3 | ⟨u, hu, h3⟩
      · rw [if_pos h3] at h; exact absurd h (by decide)
      · rw [h3, if_neg (iN_m1 (by omega))] at h
        by_cases h5 : iN u = iN v
        · rw [if_pos h5] at h; exact absurd h (by decide)
        · rw [if_neg h5, iN_nat (by omega)] at h
          by_cases h6 : vn m u (5 + v) = 0
          · rw [if_pos h6] at h; exact absurd h (by decide)
          · rw [if_neg h6] at h
            obtain ⟨a, ha, ea⟩ := hI.iwy u (by omega) v (by omega)
            refine ⟨⟨u, a, hu, fun e => h5 (by rw [e]), h3, ?_, ha, ea⟩, fun hx => ?_⟩
            · cases a with
              | zero => exact (h6 ea).elim
              | succ a => omega
            · by_cases h7 : aWref m c v = 0
              · rw [if_pos h7] at h
                by_cases h8' : lg_cmp (aVfor m c v) (vn m v 3).toInt64 ≤ 0
                · rw [if_pos h8', if_neg hx] at h
                  by_cases h9 : co m x.toNatClampNeg = iN u
                  · rw [h3]; exact h9
                  · rw [if_neg h9] at h; exact absurd h (by decide)
                · rw [if_neg h8'] at h; exact absurd h (by decide)
              · rw [if_neg h7] at h; exact absurd h h7
    · rw [if_neg h2] at h; exact absurd h (by decide)
  · rw [o2] at h
    simp only [iT, if_true] at h
    exact absurd h (by decide)
theorem Iv.isnd (hI : Iv T z m) {c v : Nat} {x : Int32} (hc : c < nC m) (hv : v < nV m) (h : aReason m c v x = 0) : Iv T z (sendM m c v) := by
  have h12 := hI.ic12
  have h8 := hI.iv8
  obtain ⟨o2, o1, h2, ⟨u, a, hu, hne, h3, ha1, ha2, ea⟩, -⟩ := reason0 hI hc hv h
  obtain ⟨s0, s1, s2, s3, s4, s5, s6, s7, s8⟩ := sendM_0 (m := m) (c := c) (v := v)
  refine hI.crateH hc sendM_eqo (fun d _ q => q) ?_ (fun d hd _ _ q => by rw [o1] at q; exact absurd q (by decide)) (fun k hk _ _ => s3) s2
  obtain ⟨-, c2, -, -, c5⟩ := hI.ico c hc
  unfold COk
  rw [s0, s1, s2, s3, s4, s5, s6, s7]
  refine ⟨Or.inl o1, c2, Or.inl h2, Or.inl ⟨rfl, h2, o1, ⟨v, hv, rfl⟩, tm m + a, ?_, by omega, fun _ => by omega, by omega⟩, c5⟩
  rw [h3, iN_nat (by omega), ea, hI.it, iN_add]
end MF
