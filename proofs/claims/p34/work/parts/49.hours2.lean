/-! PREMIUMS AND HOURS: the model, and the hours of both -/
section HP
variable {T z : Nat} {m m' a : Nat → Int32} {w w' : Wl}
/-- the shift, from j on done -/
def shJ (m : Nat → Int32) (i j : Nat) : Nat → Int32 := fun a => if 253 + 18 * i + 8 + j + 1 ≤ a ∧ a ≤ 253 + 18 * i + 17 then m (a - 1) else m a
theorem shJ_9 {i : Nat} : shJ m i 9 = m := by
  funext a
  unfold shJ
  rw [if_neg (by omega)]
theorem shJ_s {i j : Nat} (h : j < 9) : upd (shJ m i (j + 1)) (253 + 18 * i + 8 + (j + 1)) (shJ m i (j + 1) (253 + 18 * i + 8 + (j + 1) - 1)) = shJ m i j := by
  have e : shJ m i (j + 1) (253 + 18 * i + 8 + (j + 1) - 1) = m (253 + 18 * i + 8 + j) := by
    unfold shJ
    rw [if_neg (by omega), show 253 + 18 * i + 8 + (j + 1) - 1 = 253 + 18 * i + 8 + j by omega]
  rw [e]
  funext a
  by_cases h1 : a = 253 + 18 * i + 8 + (j + 1)
  · subst h1
    rw [uS]
    unfold shJ
    rw [if_pos (by omega), show 253 + 18 * i + 8 + (j + 1) - 1 = 253 + 18 * i + 8 + j by omega]
  · rw [uN h1]
    unfold shJ
    by_cases h2 : 253 + 18 * i + 8 + j + 1 ≤ a ∧ a ≤ 253 + 18 * i + 17
    · rw [if_pos h2, if_pos (by omega)]
    · rw [if_neg h2, if_neg (by omega)]
theorem shJ_0 {i : Nat} : shJ m i 0 = shN m i := by
  funext a
  unfold shJ shN
  rfl
-- the hours
theorem Iv.izz {z' : Nat} (hI : Iv T z m) (h : ∀ c, c < nC m → c < z' → ¬ c < z → cr m c 3 = -1 → cr m c 5 ≠ m 0) : Iv T z' m := by
  obtain ⟨b1, b2, b3, b4, b5, b6, b7, b8, b9, b10, b11, b12⟩ := hI
  refine ⟨b1, b2, b3, b4, b5, b6, b7, b8, fun c hc => ?_, b10, b11, b12⟩
  obtain ⟨a1, a2, a3, a4, a5⟩ := b9 c hc
  refine ⟨a1, a2, a3, ?_, a5⟩
  rcases a4 with ⟨q3, q2, q1, q4, A, e, h1, h2, h3⟩ | q
  · refine Or.inl ⟨q3, q2, q1, q4, A, e, h1, fun hz => ?_, h3⟩
    by_cases hz2 : c < z
    · exact h2 hz2
    · have := h c hc hz hz2 q3
      rw [e, b1.1] at this
      have h4 : A ≠ tm m := fun q => this (by rw [q])
      omega
  · exact Or.inr q
theorem Iv.iz1 {i : Nat} (hI : Iv T i m) (h : cr m i 3 = -1 → cr m i 5 ≠ m 0) : Iv T (i + 1) m := hI.izz (fun c hc h1 h2 h3 => by
  have e : c = i := by omega
  subst e
  exact h h3)
theorem i_time (hI : Iv T 12 m) (hT : T + 1 ≤ 1000000000) : Iv (T + 1) 0 (upd m 0 (m 0 + 1)) := by
  have h12 := hI.ic12
  have ht := hI.itT
  have e0 : m 0 + 1 = iN (tm m + 1) := by rw [hI.it, iN_s]
  have hs : ∀ y, y ≠ 0 → upd m 0 (m 0 + 1) y = m y := fun y hy => uN hy
  have n1 : nV (upd m 0 (m 0 + 1)) = nV m := by unfold nV; rw [hs 1 (by decide)]
  have n2 : nC (upd m 0 (m 0 + 1)) = nC m := by unfold nC; rw [hs 2 (by decide)]
  have n3 : nW (upd m 0 (m 0 + 1)) = nW m := by unfold nW; rw [hs 3 (by decide)]
  have n4 : nK (upd m 0 (m 0 + 1)) = nK m := by unfold nK; rw [hs 4 (by decide)]
  have n5 : tm (upd m 0 (m 0 + 1)) = tm m + 1 := by
    show (upd m 0 (m 0 + 1) 0).toNatClampNeg = _
    rw [uS, e0]; exact iN_nat (by omega)
  refine ⟨⟨?_, by omega, hT⟩, ⟨?_, by rw [n1]; exact hI.iv8⟩, ⟨?_, by rw [n2]; exact h12⟩, ⟨?_, by rw [n3]; exact hI.iw16⟩, ⟨?_, by rw [n4]; exact hI.ik4⟩, jV1 hI n1 (fun y _ _ => hs y (by omega)), jV2 hI (fun y _ _ => hs y (by omega)), jV3 hI (fun y _ _ => hs y (by omega)), fun c hc => ?_, jD hI n2 (fun y _ _ => hs y (by omega)), jW hI (by omega) (by omega) n3 (fun y _ _ => hs y (by omega)), jK hI (by omega) (by omega) n4 (fun y _ _ => hs y (by omega))⟩
  · rw [n5, uS, e0]
  · rw [n1, hs 1 (by decide)]; exact hI.iv
  · rw [n2, hs 2 (by decide)]; exact hI.ic
  · rw [n3, hs 3 (by decide)]; exact hI.iw
  · rw [n4, hs 4 (by decide)]; exact hI.ik
  · rw [n1, n2, n5]
    have ecr : ∀ j, cr (upd m 0 (m 0 + 1)) c j = cr m c j := fun j => hs _ (by omega)
    have eop : opn (upd m 0 (m 0 + 1)) = opn m := by
      funext d
      unfold opn
      by_cases h : d < 12
      · rw [if_pos h, if_pos h]; exact hs _ (by omega)
      · rw [if_neg h, if_neg h]
    obtain ⟨a1, a2, a3, a4, a5⟩ := hI.ico c (by omega)
    unfold COk
    rw [eop]
    simp only [ecr]
    refine ⟨a1, a2, a3, ?_, a5⟩
    rcases a4 with ⟨q3, q2, q1, q4, A, e, h1, h2, h3⟩ | q
    · have := h2 (by omega)
      exact Or.inl ⟨q3, q2, q1, q4, A, e, by omega, fun hz => by omega, by omega⟩
    · exact Or.inr q
theorem r_time (hR : Rl w 1 m) (hI : Iv T z m) : Rl (wst w 1 0 (w 1 0 + 1)) 1 (upd m 0 (m 0 + 1)) := by
  have hs : ∀ y, y ≠ 0 → upd m 0 (m 0 + 1) y = m y := fun y hy => uN hy
  have n2 : nC (upd m 0 (m 0 + 1)) = nC m := by unfold nC; rw [hs 2 (by decide)]
  have n3 : nW (upd m 0 (m 0 + 1)) = nW m := by unfold nW; rw [hs 3 (by decide)]
  have n4 : nK (upd m 0 (m 0 + 1)) = nK m := by unfold nK; rw [hs 4 (by decide)]
  have hrow : ∀ r, r ≠ 1 → wst w 1 0 (w 1 0 + 1) r = w r := fun r h1 => wN h1
  refine ⟨?_, sV hR (fun r _ _ => hrow r (by omega)) (fun x _ _ => hs x (by omega)), sA hR (fun r _ _ => hrow r (by omega)) (fun x _ _ => hs x (by omega)), sC hR (fun r _ _ => hrow r (by omega)) (fun x _ _ => hs x (by omega)) n2 hI.ic12 n4 hI.ik4, sP hR (fun r _ _ => hrow r (by omega)) (fun x _ _ => hs x (by omega)), sW hR (fun r _ _ => hrow r (by omega)) (fun x _ _ => hs x (by omega)) n3 hI.iw16, sZ hR (fun r _ _ => hrow r (by omega)) n3, sL hR (fun r _ _ => hrow r (by omega)) (fun x _ _ => hs x (by omega)), sK hR (hrow _ (by omega)) (fun x _ _ => hs x (by omega))⟩
  obtain ⟨a1, a2, a3, a4, a5, a6, a7, a8, a9⟩ := hR.1
  rw [wS]
  unfold RlS
  simp (disch := omega) only [uS, uN]
  exact ⟨by rw [a1], a2, a3, a4, a5, a6, a7, a8, a9⟩
/-- what arriving leaves: the counts, the time; and one more has arrived -/
theorem dArr_n (hI : Iv T z m) {c : Nat} (hc : c < nC m) (ha : cr m c 3 = -1) : nV (dArr m c) = nV m ∧ nC (dArr m c) = nC m ∧ nW (dArr m c) = nW m ∧ nK (dArr m c) = nK m ∧ dArr m c 0 = m 0 ∧ dArr m c 7 = m 7 + 1 := by
  have h12 := hI.ic12
  obtain ⟨i1, i2, i3, i3'⟩ := dA1_c hI hc ha
  have key := fld_inv (f := fB c) (fun _ a => ∀ y, y < 9 → a y = m y) (nW m) 0 (dA2 (dA1 m c) c) (fun y hy => (dA2_eqo y (by omega)).trans (i2 y (by omega))) (fun j b _ _ hb y hy => by
    unfold fB
    rw [uN (by omega)]; exact hb y hy)
  unfold dArr
  generalize fld (fB c) (nW m) 0 (dA2 (dA1 m c) c) = F at key ⊢
  unfold dA7 nV nC nW nK
  rw [uN (by decide), uN (by decide), uN (by decide), uN (by decide), uN (by decide), uS]
  rw [key 1 (by decide), key 2 (by decide), key 3 (by decide), key 4 (by decide), key 0 (by decide), key 7 (by decide)]
  exact ⟨rfl, rfl, rfl, rfl, rfl, rfl⟩
theorem dPay_7 (hI : Iv T z m) {i : Nat} (hi : i < nW m) : dPay m i 7 = m 7 ∧ dPay m i 0 = m 0 := by
  obtain ⟨K, x, r, e, hK⟩ := dPay_K hI hi
  rw [e]
  have hK2 : K ≠ 7 ∧ K ≠ 0 := by rcases hK with h | ⟨v, hv, h⟩ <;> omega
  exact ⟨dPayK_s _ (by decide) (fun q => hK2.1 q.symm) (by omega), dPayK_s _ (by decide) (fun q => hK2.2 q.symm) (by omega)⟩
theorem c_passHour (hR : Rl w 1 m) (hI : Iv T 12 m) (hT : T + 1 ≤ 1000000000) : ∃ w', sX4_passHour w = some w' ∧ Rl w' 1 (dHour m) ∧ outb w w' ∧ Iv (T + 1) 12 (dHour m) := by
  have h12 := hI.ic12
  have h16 := hI.iw16
  have hI0 := i_time hI hT
  have hR0 := r_time hR hI
  have n2 : nC (upd m 0 (m 0 + 1)) = nC m := by unfold nC; rw [uN (by decide)]
  have n3 : nW (upd m 0 (m 0 + 1)) = nW m := by unfold nW; rw [uN (by decide)]
  unfold sX4_passHour
  have A0 : ∀ (n : Nat) (a : Nat → Int32) (s : Wl), (Rl s 1 a ∧ Iv (T + 1) (nC m) a ∧ nC a = nC m ∧ nW a = nW m ∧ outb w s) → sX4_passHour_15 (n + 1) s (iN (nC m)) = (if a 0 - a 0 / 24 * 24 = 0 then sX4_endDay s else some s) := by
    intro n a s ⟨r1, r2, r3, r4, r5⟩
    rw [sX4_passHour_15.eq_2, r1.r6 r2, r3, if_pos ((iN_le (by omega) (by omega)).mpr (Nat.le_refl _)), r1.s.1]
    by_cases h : a 0 - a 0 / 24 * 24 = 0
    · rw [if_pos h, if_pos h]; cases sX4_endDay s <;> rfl
    · rw [if_neg h, if_neg h]
  have A1 : ∀ (n : Nat) (a : Nat → Int32) (s : Wl) (i : Nat), i < nC m → (Rl s 1 a ∧ Iv (T + 1) i a ∧ nC a = nC m ∧ nW a = nW m ∧ outb w s) → ∃ s' : Wl, (Rl s' 1 (dH1 i a) ∧ Iv (T + 1) (i + 1) (dH1 i a) ∧ nC (dH1 i a) = nC m ∧ nW (dH1 i a) = nW m ∧ outb w s') ∧ sX4_passHour_15 (n + 1) s (iN i) = sX4_passHour_15 n s' (iN (i + 1)) := by
    intro n a s i hi ⟨r1, r2, r3, r4, r5⟩
    have hi' : i < nC a := by omega
    have h8 := r2.iv8
    rw [sX4_passHour_15.eq_2, r1.r6 r2, r3, if_neg (show ¬ iN (nC m) ≤ iN i from fun q => by have := (iN_le (by omega) (by omega)).mp q; omega), idx_iN (by omega) (by decide), ob, (r1.c hi').2.2.1, (r1.c hi').2.2.2.1, r1.s.1, iN_s]
    unfold dH1
    rcases (r2.ico i hi').2.2.2.1 with ⟨q3, q2, q1, ⟨v, hv, q4⟩, A, q5, q6⟩ | ⟨⟨v, hv, q3⟩, q4, q5⟩
    · simp only [if_pos q3, if_pos q2]
      rw [q4, if_neg (iN_m1 (by omega))]
      by_cases h : cr a i 5 = a 0
      · simp only [if_pos h]
        obtain ⟨w2, f1, f2, f3, f4⟩ := c_arrive r1 r2 hi' q3
        obtain ⟨g1, g2, g3, g4, g5, g6⟩ := dArr_n r2 hi' q3
        rw [f1, ob]
        exact ⟨w2, ⟨f2, f4, by omega, by omega, r5.tr f3⟩, rfl⟩
      · simp only [if_neg h]
        exact ⟨s, ⟨r1, r2.iz1 (fun _ => h), r3, r4, r5⟩, rfl⟩
    · have q3' : ¬ cr a i 3 = -1 := by rw [q3]; exact iN_m1 (by omega)
      simp only [if_neg q3']
      rw [q4, if_pos rfl]
      exact ⟨s, ⟨r1, r2.iz1 (fun q => (q3' q).elim), r3, r4, r5⟩, rfl⟩
  obtain ⟨s', ⟨q1, q2, q3, q4, q5⟩, q6⟩ := loopB (L := fun n s l => sX4_passHour_15 n s l) (N := nC m) (fin := fun a s => if a 0 - a 0 / 24 * 24 = 0 then sX4_endDay s else some s) (f := dH1) (fun i a s => Rl s 1 a ∧ Iv (T + 1) i a ∧ nC a = nC m ∧ nW a = nW m ∧ outb w s) A0 A1 (nC m) 0 (upd m 0 (m 0 + 1)) (wst w 1 0 (w 1 0 + 1)) FU (by omega) (by show _ < 4096; omega) ⟨hR0, hI0, n2, n3, fun r hr => wN (by omega)⟩
  have q6' : sX4_passHour_15 FU (wst w 1 0 (w 1 0 + 1)) (0 : Int32) = (if dH2 m 0 - dH2 m 0 / 24 * 24 = 0 then sX4_endDay s' else some s') := q6
  rw [q6']
  have q1 : Rl s' 1 (dH2 m) := q1
  have q2 : Iv (T + 1) (nC m) (dH2 m) := q2
  have q3 : nC (dH2 m) = nC m := q3
  have q4 : nW (dH2 m) = nW m := q4
  have q2' : Iv (T + 1) 12 (dH2 m) := q2.izz (fun c hc h1 h2 h3 => by omega)
  unfold dHour
  by_cases h : dH2 m 0 - dH2 m 0 / 24 * 24 = 0
  · rw [if_pos h, if_pos h]
    obtain ⟨w2, f1, f2, f3, f4, f5⟩ := c_endDay q1 q2'
    rw [q4] at f2 f4
    exact ⟨w2, f1, f2, q5.tr f3, f4⟩
  · rw [if_neg h, if_neg h]
    exact ⟨s', rfl, q1, q5, q2'⟩
-- many hours
theorem c_letHoursPass (hR : Rl w 1 m) (hI : Iv T 12 m) {h : Nat} (h1 : h ≤ 240) (hT : T + h ≤ 1000000000) : ∃ w', sX4_letHoursPass w (iN h) = some (dHours m h 7 - m 7, w') ∧ Rl w' 1 (dHours m h) ∧ outb w w' ∧ Iv (T + h) 12 (dHours m h) := by
  unfold sX4_letHoursPass
  have A0 : ∀ (n : Nat) (a : Nat → Int32) (s : Wl), (Rl s 1 a ∧ Iv (T + h) 12 a ∧ outb w s) → sX4_letHoursPass_10 (n + 1) s (iN h) (w 1 4) (iN h) = some (a 7 - m 7, s) := by
    intro n a s ⟨r1, r2, r3⟩
    rw [sX4_letHoursPass_10.eq_2, if_pos ((iN_le (by omega) (by omega)).mpr (Nat.le_refl _)), r1.s.2.2.2.2.1, hR.s.2.2.2.2.1]
  have A1 : ∀ (n : Nat) (a : Nat → Int32) (s : Wl) (i : Nat), i < h → (Rl s 1 a ∧ Iv (T + i) 12 a ∧ outb w s) → ∃ s' : Wl, (Rl s' 1 (dHour a) ∧ Iv (T + (i + 1)) 12 (dHour a) ∧ outb w s') ∧ sX4_letHoursPass_10 (n + 1) s (iN h) (w 1 4) (iN i) = sX4_letHoursPass_10 n s' (iN h) (w 1 4) (iN (i + 1)) := by
    intro n a s i hi ⟨r1, r2, r3⟩
    obtain ⟨w2, f1, f2, f3, f4⟩ := c_passHour r1 r2 (by omega)
    rw [sX4_letHoursPass_10.eq_2, if_neg (show ¬ iN h ≤ iN i from fun q => by have := (iN_le (by omega) (by omega)).mp q; omega), f1, ob, iN_s]
    exact ⟨w2, ⟨f2, f4, r3.tr f3⟩, rfl⟩
  obtain ⟨s', ⟨q1, q2, q3⟩, q4⟩ := loopB (L := fun n s l => sX4_letHoursPass_10 n s (iN h) (w 1 4) l) (N := h) (fin := fun a s => some (a 7 - m 7, s)) (f := fun _ a => dHour a) (fun i a s => Rl s 1 a ∧ Iv (T + i) 12 a ∧ outb w s) A0 A1 h 0 m w FU (by omega) (by show _ < 4096; omega) ⟨hR, hI, fun _ _ => rfl⟩
  exact ⟨s', q4, q1, q3, q2⟩
end HP
