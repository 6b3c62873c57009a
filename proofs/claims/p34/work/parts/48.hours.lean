/-! PREMIUMS AND HOURS -/
def prm (a b : Int32) : Int32 := ((a.toInt64 * b.toInt64) / (10000 : Int64)).toInt32
def shN (m : Nat → Int32) (i : Nat) : Nat → Int32 := fun a => if 253 + 18 * i + 9 ≤ a ∧ a ≤ 253 + 18 * i + 17 then m (a - 1) else m a
def dNote (m : Nat → Int32) (i : Nat) (x : Int32) : Nat → Int32 := upd (upd (shN m i) (253 + 18 * i + 8) x) (253 + 18 * i + 7) (if wk m i 7 = 10 then 10 else wk m i 7 + 1)
def dPayK (m : Nat → Int32) (i K : Nat) (x r : Int32) : Nat → Int32 := upd (upd (upd (dNote m i x) (253 + 18 * i + 6) (wk m i 6 + prm (wk m i 1) r)) 5 (m 5 + prm (wk m i 1) r)) K (m K + prm (wk m i 1) r)
def dPay (m : Nat → Int32) (i : Nat) : Nat → Int32 := if wat m i = -1 then dPayK m i 6 8 (m 8) else dPayK m i (9 + 13 * (wat m i).toNatClampNeg + 4) (wat m i) (vn m (wat m i).toNatClampNeg 2)
def dH1 (c : Nat) (a : Nat → Int32) : Nat → Int32 := if cr a c 3 = -1 then (if cr a c 2 = -1 then (if cr a c 5 = a 0 then dArr a c else a) else a) else a
def dH2 (m : Nat → Int32) : Nat → Int32 := fld dH1 (nC m) 0 (upd m 0 (m 0 + 1))
def dHour (m : Nat → Int32) : Nat → Int32 := if dH2 m 0 - dH2 m 0 / 24 * 24 = 0 then fld (fun i a => dPay a i) (nW m) 0 (dH2 m) else dH2 m
def dHours (m : Nat → Int32) (h : Nat) : Nat → Int32 := fld (fun _ a => dHour a) h 0 m
section HO
variable {T z : Nat} {m m' a : Nat → Int32} {w w' : Wl}
theorem dNote_s {i : Nat} {x : Int32} : ∀ y, (y < 253 + 18 * i + 7 ∨ 253 + 18 * i + 18 ≤ y) → dNote m i x y = m y := fun y hy => by
  unfold dNote
  rw [uN (by omega), uN (by omega)]
  unfold shN
  rw [if_neg (by omega)]
theorem dPayK_s {i K : Nat} {x r : Int32} : ∀ y, y ≠ 5 → y ≠ K → (y < 253 + 18 * i + 6 ∨ 253 + 18 * i + 18 ≤ y) → dPayK m i K x r y = m y := fun y h5 hK hy => by
  unfold dPayK
  rw [uN hK, uN h5, uN (by omega)]
  exact dNote_s y (by omega)
theorem dPayK_w {i K : Nat} {x r : Int32} (hK : K < 253) : (∀ j, j < 6 → wk (dPayK m i K x r) i j = wk m i j) ∧ wk (dPayK m i K x r) i 6 = wk m i 6 + prm (wk m i 1) r ∧ wk (dPayK m i K x r) i 7 = (if wk m i 7 = 10 then 10 else wk m i 7 + 1) ∧ wk (dPayK m i K x r) i 8 = x ∧ ∀ j, j < 9 → wk (dPayK m i K x r) i (9 + j) = wk m i (8 + j) := by
  refine ⟨fun j hj => ?_, ?_, ?_, ?_, fun j hj => ?_⟩
  · exact dPayK_s _ (by omega) (by omega) (by omega)
  · unfold dPayK
    generalize wk m i 6 + prm (wk m i 1) r = q
    unfold wk
    rw [uN (by omega), uN (by omega), uS]
  · unfold dPayK dNote
    generalize (if wk m i 7 = 10 then (10 : Int32) else wk m i 7 + 1) = q
    generalize wk m i 6 + prm (wk m i 1) r = q'
    unfold wk
    rw [uN (by omega), uN (by omega), uN (by omega), uS]
  · unfold dPayK dNote
    generalize (if wk m i 7 = 10 then (10 : Int32) else wk m i 7 + 1) = q
    generalize wk m i 6 + prm (wk m i 1) r = q'
    unfold wk
    rw [uN (by omega), uN (by omega), uN (by omega), uN (by omega), uS]
  · unfold dPayK dNote
    generalize (if wk m i 7 = 10 then (10 : Int32) else wk m i 7 + 1) = q
    generalize wk m i 6 + prm (wk m i 1) r = q'
    unfold wk
    rw [uN (by omega), uN (by omega), uN (by omega), uN (by omega), uN (by omega)]
    unfold shN
    rw [if_pos (by omega), show 253 + 18 * i + (9 + j) - 1 = 253 + 18 * i + (8 + j) by omega]
theorem i_dPayK (hI : Iv T z m) {i K : Nat} {x r : Int32} (hi : i < nW m) (hK : K = 6 ∨ ∃ v, v < 8 ∧ K = 9 + 13 * v + 4) : Iv T z (dPayK m i K x r) ∧ nV (dPayK m i K x r) = nV m ∧ nC (dPayK m i K x r) = nC m ∧ nW (dPayK m i K x r) = nW m ∧ nK (dPayK m i K x r) = nK m ∧ tm (dPayK m i K x r) = tm m := by
  have hK2 : 5 < K ∧ K < 113 := by rcases hK with h | ⟨v, hv, h⟩ <;> omega
  have h16 := hI.iw16
  have hs := dPayK_s (m := m) (i := i) (K := K) (x := x) (r := r)
  obtain ⟨p1, p2, p3, p4, p5⟩ := dPayK_w (m := m) (i := i) (K := K) (x := x) (r := r) (by omega)
  obtain ⟨n1, n2, n3, n4, n5⟩ := ns_of (m := m) (m' := dPayK m i K x r) (fun y _ _ => hs y (by omega) (by omega) (by omega))
  refine ⟨?_, n1, n2, n3, n4, n5⟩
  have vv : ∀ v j, v < 8 → j < 13 → j ≠ 4 → vn (dPayK m i K x r) v j = vn m v j := fun v j hv hj h4 => by
    rcases hK with h | ⟨u, hu, h⟩
    · exact hs _ (by omega) (by omega) (by omega)
    · exact hs _ (by omega) (by omega) (by omega)
  have hv8 := hI.iv8
  refine hI.mk0 (fun y _ _ => hs y (by omega) (by omega) (by omega)) (fun v hv => ?_) (fun v hv j hj => ?_) (fun v hv => ?_) (jC hI (by omega) n2 n5 (fun y _ _ => hs y (by omega) (by omega) (by omega))) (jD hI n2 (fun y _ _ => hs y (by omega) (by omega) (by omega))) (fun d hd => ?_) (jK hI (by omega) (by omega) n4 (fun y _ _ => hs y (by omega) (by omega) (by omega)))
  · rw [vv v 0 (by omega) (by decide) (by decide), vv v 1 (by omega) (by decide) (by decide)]; exact hI.icl v (by omega)
  · rw [vv v (5 + j) hv (by omega) (by omega)]; exact hI.iwy v hv j hj
  · rw [vv v (5 + v) hv (by omega) (by omega)]; exact hI.iwd v hv
  · rw [n1, n2]
    by_cases e : d = i
    · subst e
      obtain ⟨b1, b2, b3, b4, b5, k, hk, ek⟩ := hI.iwo d (by omega)
      unfold WOk
      rw [p1 0 (by decide), p1 1 (by decide), p1 3 (by decide), p1 4 (by decide), p1 5 (by decide), p3]
      refine ⟨b1, b2, b3, b4, b5, ?_⟩
      by_cases h : wk m d 7 = 10
      · rw [if_pos h]; exact ⟨10, by omega, rfl⟩
      · rw [if_neg h, ek, iN_s]
        refine ⟨k + 1, ?_, rfl⟩
        by_cases hk10 : k = 10
        · subst hk10; exact (h ek).elim
        · omega
    · exact (hI.iwo d (by omega)).congr (Nat.le_refl _) (Nat.le_refl _) (fun j hj => hs _ (by omega) (by omega) (by omega))
theorem dPay_K (hI : Iv T z m) {i : Nat} (hi : i < nW m) : ∃ K x r, dPay m i = dPayK m i K x r ∧ (K = 6 ∨ ∃ v, v < 8 ∧ K = 9 + 13 * v + 4) := by
  have h8 := hI.iv8
  unfold dPay
  have hw : ptr (nV m) (wat m i) := by
    unfold wat
    rcases hI.iwp hi with e | ⟨d, hd, e⟩
    · rw [if_pos e]; exact Or.inr ((hI.iwo i hi).2.2.2.2.1 e)
    · rw [e, if_neg (iN_m1 (by have := hI.ic12; omega)), iN_nat (by have := hI.ic12; omega)]; exact hI.ivof hd
  rcases hw with e | ⟨v, hv, e⟩
  · rw [if_pos e]; exact ⟨_, _, _, rfl, Or.inl rfl⟩
  · rw [e, if_neg (iN_m1 (by omega)), iN_nat (by omega)]; exact ⟨_, _, _, rfl, Or.inr ⟨v, by omega, rfl⟩⟩
theorem wat_ptr (hI : Iv T z m) {i : Nat} (hi : i < nW m) : ptr (nV m) (wat m i) := by
  unfold wat
  rcases hI.iwp hi with e | ⟨d, hd, e⟩
  · rw [if_pos e]; exact Or.inr ((hI.iwo i hi).2.2.2.2.1 e)
  · rw [e, if_neg (iN_m1 (by have := hI.ic12; omega)), iN_nat (by have := hI.ic12; omega)]; exact hI.ivof hd
theorem i_dPay (hI : Iv T z m) {i : Nat} (hi : i < nW m) : Iv T z (dPay m i) ∧ nV (dPay m i) = nV m ∧ nC (dPay m i) = nC m ∧ nW (dPay m i) = nW m ∧ nK (dPay m i) = nK m ∧ tm (dPay m i) = tm m := by
  obtain ⟨K, x, r, e, hK⟩ := dPay_K hI hi
  rw [e]
  exact i_dPayK hI hi hK
/-- the class's changes of a work at the end of a day -/
theorem r_dPayK (hR : Rl w 1 m) (hI : Iv T z m) {i K : Nat} {x r : Int32} (hi : i < nW m) {w1 : Wl} (hK : (K = 6 ∧ w1 = wst w 1 3 (w 1 3 + prm (wk m i 1) r)) ∨ (∃ v, v < 8 ∧ K = 9 + 13 * v + 4 ∧ w1 = wst w (13 + 2 * v) 4 (w (13 + 2 * v) 4 + prm (wk m i 1) r))) :
    ∃ w2, sX11_notePlace w1 (41 + 2 * i) x = some w2 ∧ Rl (wst (wst w2 (41 + 2 * i) 6 (w2 (41 + 2 * i) 6 + prm (wk m i 1) r)) 1 2 ((wst w2 (41 + 2 * i) 6 (w2 (41 + 2 * i) 6 + prm (wk m i 1) r)) 1 2 + prm (wk m i 1) r)) 1 (dPayK m i K x r) ∧ outb w (wst (wst w2 (41 + 2 * i) 6 (w2 (41 + 2 * i) 6 + prm (wk m i 1) r)) 1 2 ((wst w2 (41 + 2 * i) 6 (w2 (41 + 2 * i) 6 + prm (wk m i 1) r)) 1 2 + prm (wk m i 1) r)) := by
  have h16 := hI.iw16
  have h8 := hI.iv8
  have hK2 : 5 < K ∧ K < 113 := by rcases hK with ⟨h, -⟩ | ⟨v, hv, h, -⟩ <;> omega
  have hs := dPayK_s (m := m) (i := i) (K := K) (x := x) (r := r)
  obtain ⟨p1, p2, p3, p4, p5⟩ := dPayK_w (m := m) (i := i) (K := K) (x := x) (r := r) (by omega)
  obtain ⟨n1, n2, n3, n4, n5⟩ := ns_of (m := m) (m' := dPayK m i K x r) (fun y _ _ => hs y (by omega) (by omega) (by omega))
  have e5 : dPayK m i K x r 5 = m 5 + prm (wk m i 1) r := by unfold dPayK; rw [uN (by omega), uS]
  have eK : dPayK m i K x r K = m K + prm (wk m i 1) r := by unfold dPayK; rw [uS]
  generalize hp : prm (wk m i 1) r = p at hK e5 eK p2 ⊢
  have hw1 : ∀ y, y ≠ 1 → (y < 13 ∨ 28 < y) → w1 y = w y := fun y h1 h2 => by
    rcases hK with ⟨-, e⟩ | ⟨v, hv, -, e⟩
    · rw [e, wN h1]
    · rw [e, wN (by omega)]
  have hw1' : ∀ v, v < 8 → w1 (13 + 2 * v + 1) = w (13 + 2 * v + 1) := fun v hv => by
    rcases hK with ⟨-, e⟩ | ⟨u, hu, -, e⟩
    · rw [e, wN (by omega)]
    · rw [e, wN (by omega)]
  unfold sX11_notePlace
  refine ⟨_, rfl, ?_⟩
  generalize hw2 : wst (wst (wrow w1 (41 + 2 * i + 1) _) (41 + 2 * i + 1) 0 x) (41 + 2 * i) 7 _ = w2
  have hrow2 : ∀ y, y ≠ 41 + 2 * i → y ≠ 42 + 2 * i → w2 y = w1 y := fun y h1 h2 => by
    rw [← hw2, wN h1, wN (by omega), rN (by omega)]
  have hpl : w2 (42 + 2 * i) = upd (va_cpy (w (42 + 2 * i)) (w (42 + 2 * i)) 0 1 9) 0 x := by
    rw [← hw2, wN (by omega), show 42 + 2 * i = 41 + 2 * i + 1 by omega, wS, rS, hw1 _ (by omega) (by omega)]
  obtain ⟨x1, x2, x3, x4, x5, x6, x7, x8⟩ := hR.wo hi
  have hwr : w2 (41 + 2 * i) = upd (w (41 + 2 * i)) 7 (if wk m i 7 = 10 then 10 else wk m i 7 + 1) := by
    rw [← hw2, wS, wN (by omega), rN (by omega), hw1 _ (by omega) (by omega), x8]
    congr 1
    obtain ⟨k, hk, ek⟩ := (hI.iwo i hi).2.2.2.2.2
    rw [ek, iN_s]
    by_cases h : k = 10
    · subst h
      rw [if_pos (show (10 : Int32) < iN (10 + 1) by decide), if_pos (show iN 10 = 10 from rfl)]
    · have h1 : ¬ (10 : Int32) < iN (k + 1) := fun q => by
        have := (iN_lt (a := 10) (by decide) (by omega)).mp q
        omega
      have h2 : ¬ iN k = 10 := fun q => h ((iN_eq (b := 10) (by omega) (by decide)).mp q)
      rw [if_neg h1, if_neg h2]
  have hr1 : w2 1 = w1 1 := hrow2 1 (by omega) (by omega)
  generalize hw3 : wst (wst w2 (41 + 2 * i) 6 _) 1 2 _ = w3
  have hrow : ∀ y, y ≠ 1 → y ≠ 41 + 2 * i → y ≠ 42 + 2 * i → (y < 13 ∨ 28 < y) → w3 y = w y := fun y g1 g2 g3 g4 => by
    rw [← hw3, wN g1, wN g2, hrow2 y g2 g3, hw1 y g1 g4]
  have h3w : w3 (41 + 2 * i) = upd (upd (w (41 + 2 * i)) 7 (if wk m i 7 = 10 then 10 else wk m i 7 + 1)) 6 (wk m i 6 + p) := by
    rw [← hw3, wN (by omega), wS, hwr, uN (by decide), x7]
  have h3p : w3 (42 + 2 * i) = upd (va_cpy (w (42 + 2 * i)) (w (42 + 2 * i)) 0 1 9) 0 x := by
    rw [← hw3, wN (by omega), wN (by omega), hpl]
  obtain ⟨a1, a2, a3, a4, a5, a6, a7, a8, a9⟩ := hR.1
  have h31 : w3 1 = upd (w1 1) 2 (m 5 + p) := by
    rw [← hw3, wS, wN (by omega), hr1]
    congr 2
    rcases hK with ⟨-, e⟩ | ⟨v, hv, -, e⟩
    · rw [e, wS, uN (by decide)]; exact a3
    · rw [e, wN (by omega)]; exact a3
  refine ⟨?_, fun y hy => hrow y (by omega) (by omega) (by omega) (by omega)⟩
  refine ⟨?_, fun v hv => ?_, sA hR (fun y _ _ => hrow y (by omega) (by omega) (by omega) (by omega)) (fun y _ _ => hs y (by omega) (by omega) (by omega)), sC hR (fun y _ _ => hrow y (by omega) (by omega) (by omega) (by omega)) (fun y _ _ => hs y (by omega) (by omega) (by omega)) n2 hI.ic12 n4 hI.ik4, fun d hd => ?_, fun d hd => ?_, fun d g1 hd => ?_, sL hR (fun y _ _ => hrow y (by omega) (by omega) (by omega) (by omega)) (fun y _ _ => hs y (by omega) (by omega) (by omega)), sK hR (hrow _ (by omega) (by omega) (by omega) (by omega)) (fun y _ _ => hs y (by omega) (by omega) (by omega))⟩
  · rw [h31]
    unfold RlS
    rw [hs 0 (by omega) (by omega) (by omega), hs 8 (by omega) (by omega) (by omega), e5, hs 7 (by omega) (by omega) (by omega), hs 1 (by omega) (by omega) (by omega), hs 2 (by omega) (by omega) (by omega), hs 3 (by omega) (by omega) (by omega), hs 4 (by omega) (by omega) (by omega)]
    rcases hK with ⟨eK6, e⟩ | ⟨v, hv, eKv, e⟩
    · rw [e, wS]
      simp (disch := omega) only [uS, uN]
      subst eK6
      exact ⟨a1, a2, trivial, by rw [a4]; exact eK.symm, a5, a6, a7, a8, a9⟩
    · rw [e, wN (by omega), hs 6 (by omega) (by omega) (by omega)]
      simp (disch := omega) only [uS, uN]
      exact ⟨a1, a2, trivial, a4, a5, a6, a7, a8, a9⟩
  · have e3v : w3 (13 + 2 * v) = w1 (13 + 2 * v) := by rw [← hw3, wN (by omega), wN (by omega), hrow2 _ (by omega) (by omega)]
    have e3v' : w3 (13 + 2 * v + 1) = w (13 + 2 * v + 1) := by rw [← hw3, wN (by omega), wN (by omega), hrow2 _ (by omega) (by omega), hw1' v hv]
    rw [show 1 + 12 + 2 * v = 13 + 2 * v by omega, e3v, e3v']
    refine ⟨fun j hj => ?_, fun j hj => ?_⟩
    · have hq := hR.v hv hj
      rcases hK with ⟨eK6, e⟩ | ⟨u, hu, eKu, e⟩
      · rw [e, wN (by omega), hq]
        exact (hs _ (by omega) (by omega) (by omega)).symm
      · by_cases g : u = v ∧ j = 4
        · obtain ⟨rfl, rfl⟩ := g
          rw [e, wS, uS, hR.v hv hj]
          subst eKu
          exact eK.symm
        · have : w1 (13 + 2 * v) j = w (13 + 2 * v) j := by
            rw [e]
            by_cases g2 : u = v
            · subst g2
              rw [wS, uN (by omega)]
            · rw [wN (by omega)]
          rw [this, hq]
          exact (hs _ (by omega) (by omega) (by omega)).symm
    · rw [hR.vw hv hj]
      exact (hs _ (by omega) (by rcases hK with ⟨g, -⟩ | ⟨u, hu, g, -⟩ <;> omega) (by omega)).symm
  · by_cases e : d = i
    · subst e
      rw [show 1 + 40 + 2 * d = 41 + 2 * d by omega, show 41 + 2 * d + 1 = 42 + 2 * d by omega, h3w, h3p]
      refine ⟨by rw [uN (by decide), uN (by decide)]; exact hR.w3 (by omega), fun j hj => ?_⟩
      have pl : ∀ j, j < 10 → w (42 + 2 * d) j = wk m d (8 + j) := fun j hj => by
        have := hR.pl (i := d) (by omega) hj
        rwa [show 41 + 2 * d + 1 = 42 + 2 * d by omega] at this
      cases j with
      | zero => rw [uS]; exact p4.symm
      | succ j =>
        rw [uN (by omega)]
        unfold va_cpy
        rw [if_pos (by omega), show 0 + (j + 1 - 1) = j by omega, pl j (by omega), show 8 + (j + 1) = 9 + j by omega, p5 j (by omega)]
    · rw [hrow _ (by omega) (by omega) (by omega) (by omega), hrow _ (by omega) (by omega) (by omega) (by omega)]
      refine ⟨(hR.2.2.2.2.1 d hd).1, fun j hj => ?_⟩
      rw [(hR.2.2.2.2.1 d hd).2 j hj]
      exact (hs _ (by omega) (by omega) (by omega)).symm
  · by_cases e : d = i
    · subst e
      rw [show 1 + 40 + 2 * d = 41 + 2 * d by omega, h3w]
      unfold RlW
      rw [p1 0 (by decide), p1 1 (by decide), p1 2 (by decide), p1 3 (by decide), p1 4 (by decide), p1 5 (by decide), p2, p3]
      simp (disch := omega) only [uS, uN]
      exact ⟨x1, x2, x3, x4, x5, x6, trivial, trivial⟩
    · exact (hR.2.2.2.2.2.1 d (by omega)).of (hrow _ (by omega) (by omega) (by omega) (by omega)) (fun j hj => hs _ (by omega) (by omega) (by omega))
  · rw [hrow _ (by omega) (by omega) (by omega) (by omega)]
    exact hR.2.2.2.2.2.2.1 d (by omega) hd
theorem c_endDay (hR : Rl w 1 m) (hI : Iv T z m) : ∃ w', sX4_endDay w = some w' ∧ Rl w' 1 (fld (fun i a => dPay a i) (nW m) 0 m) ∧ outb w w' ∧ Iv T z (fld (fun i a => dPay a i) (nW m) 0 m) ∧ nC (fld (fun i a => dPay a i) (nW m) 0 m) = nC m := by
  have h16 := hI.iw16
  unfold sX4_endDay
  have A0 : ∀ (n : Nat) (a : Nat → Int32) (s : Wl), (Rl s 1 a ∧ Iv T z a ∧ nW a = nW m ∧ nC a = nC m ∧ outb w s) → sX4_endDay_2 (n + 1) s (iN (nW m)) = some s := by
    intro n a s ⟨r1, r2, r3, r4, r5⟩
    rw [sX4_endDay_2.eq_2, r1.r7 r2, r3, if_pos ((iN_le (by omega) (by omega)).mpr (Nat.le_refl _))]
  have A1 : ∀ (n : Nat) (a : Nat → Int32) (s : Wl) (i : Nat), i < nW m → (Rl s 1 a ∧ Iv T z a ∧ nW a = nW m ∧ nC a = nC m ∧ outb w s) → ∃ s' : Wl, (Rl s' 1 (dPay a i) ∧ Iv T z (dPay a i) ∧ nW (dPay a i) = nW m ∧ nC (dPay a i) = nC m ∧ outb w s') ∧ sX4_endDay_2 (n + 1) s (iN i) = sX4_endDay_2 n s' (iN (i + 1)) := by
    intro n a s i hi ⟨r1, r2, r3, r4, r5⟩
    have hi' : i < nW a := by omega
    have h8 := r2.iv8
    obtain ⟨j1, j2, j3, j4, j5, j6⟩ := i_dPay r2 hi'
    rw [sX4_endDay_2.eq_2, r1.r7 r2, r3, if_neg (show ¬ iN (nW m) ≤ iN i from fun q => by have := (iN_le (by omega) (by omega)).mp q; omega), idx_iN (by omega) (by decide), ob, e6_venueOfWork r1 r2 hi', ob, e6_hasVenue r1 r2, ob, ok_ptr (by omega) (wat_ptr r2 hi'), (r1.wo hi').2.1, r1.s.2.1]
    rcases wat_ptr r2 hi' with e | ⟨v, hv, e⟩
    · rw [e, if_pos rfl]
      simp only [iF]
      unfold sX4_premiumOf
      rw [ob]
      obtain ⟨w2, f1, f2, f3⟩ := r_dPayK r1 r2 (K := 6) (x := 8) (r := a 8) hi' (Or.inl ⟨rfl, rfl⟩)
      have f1' : sX11_notePlace (wst s 1 3 (s 1 3 + ((wk a i 1).toInt64 * (a 8).toInt64 / 10000).toInt32)) (41 + 2 * i) 8 = some w2 := f1
      rw [f1', ob]
      unfold sX4_endDay_127
      rw [iN_s]
      refine ⟨_, ⟨?_, j1, by omega, by omega, r5.tr f3⟩, rfl⟩
      have : dPay a i = dPayK a i 6 8 (a 8) := by unfold dPay; rw [if_pos e]
      rw [this]
      exact f2
    · rw [e, if_neg (iN_m1 (by omega))]
      simp only [iT, if_true]
      unfold sX4_premiumOf
      rw [idx_iN (by omega) (by decide), ob, ob, r1.v (by omega) (by decide)]
      obtain ⟨w2, f1, f2, f3⟩ := r_dPayK r1 r2 (K := 9 + 13 * v + 4) (x := iN v) (r := vn a v 2) hi' (w1 := wst s (13 + 2 * v) 4 (s (13 + 2 * v) 4 + prm (wk a i 1) (vn a v 2))) (Or.inr ⟨v, by omega, rfl, rfl⟩)
      rw [r1.v (by omega) (by decide)] at f1
      have f1' : sX11_notePlace (wst s (13 + 2 * v) 4 (vn a v 4 + ((wk a i 1).toInt64 * (vn a v 2).toInt64 / 10000).toInt32)) (41 + 2 * i) (iN v) = some w2 := f1
      rw [r1.v (by omega) (by decide), f1', ob]
      unfold sX4_endDay_127
      rw [iN_s]
      refine ⟨_, ⟨?_, j1, by omega, by omega, r5.tr f3⟩, rfl⟩
      have : dPay a i = dPayK a i (9 + 13 * v + 4) (iN v) (vn a v 2) := by unfold dPay; rw [e, if_neg (iN_m1 (by omega)), iN_nat (by omega)]
      rw [this]
      exact f2
  obtain ⟨s', ⟨q1, q2, q3, q4, q5⟩, q6⟩ := loopB (L := fun n s l => sX4_endDay_2 n s l) (N := nW m) (fin := fun _ s => some s) (f := fun i a => dPay a i) (fun i a s => Rl s 1 a ∧ Iv T z a ∧ nW a = nW m ∧ nC a = nC m ∧ outb w s) A0 A1 (nW m) 0 m w FU (by omega) (by show _ < 4096; omega) ⟨hR, hI, rfl, rfl, fun _ _ => rfl⟩
  exact ⟨s', q6, q1, q5, q2, q4⟩
end HO
