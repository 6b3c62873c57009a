/-! PREMIUMS AND HOURS: the model, and the hours of both -/
section HP
variable {T z : Nat} {m m' a : Nat → Int32} {w w' : Wl}
/-- the shift, from j on done -/
def shJ (m : Nat → Int32) (i j : Nat) : Nat → Int32 := fun a => if 253 + 18 * i + 8 + j + 1 ≤ a ∧ a ≤ 253 + 18 * i + 17 then m (a - 1) else m a
theorem shJ_9 {i : Nat} : shJ m i 9 = m := by
  funext a
  unfold shJ
  rw [if_neg (by omega)]
theorem shJ_s {i j : Nat} (h : j < 9) : upd (shJ m i (j + 1)) (253 + 18 * i + 8 + (j + 1)) (shJ m i (j + 1) (253 + 18 * i + 8 + (j + 1) - 1)) = shJ m i j := by
  have e : shJ m i (j + 1) (253 + 18 * i + 8 + (j + 1) - 1) = m (253 + 18 * i + 8 + j) := by
    unfold shJ
    rw [if_neg (by omega), show 253 + 18 * i + 8 + (j + 1) - 1 = 253 + 18 * i + 8 + j by omega]
  rw [e]
  funext a
  by_cases h1 : a = 253 + 18 * i + 8 + (j + 1)
  · subst h1
    rw [uS]
    unfold shJ
    rw [if_pos (by omega), show 253 + 18 * i + 8 + (j + 1) - 1 = 253 + 18 * i + 8 + j by omega]
  · rw [uN h1]
    unfold shJ
    by_cases h2 : 253 + 18 * i + 8 + j + 1 ≤ a ∧ a ≤ 253 + 18 * i + 17
    · rw [if_pos h2, if_pos (by omega)]
    · rw [if_neg h2, if_neg (by omega)]
theorem shJ_0 {i : Nat} : shJ m i 0 = shN m i := by
  funext a
  unfold shJ shN
  rfl
theorem l13_note {i : Nat} {x : Int32} (hi : i < 16) : ∀ (j n : Nat) (s : Wl), j ≤ 9 → j < n → s 372 = shJ (w 372) i j → only372 w s → ∃ w', sX13_note_16 n s (iN i) x (iN (253 + 18 * i + 8)) (iN j) = some w' ∧ w' 372 = dNote (w 372) i x ∧ only372 w w' := by
  intro j
  induction j with
  | zero =>
    intro n s hj hn hs ho
    obtain ⟨n, rfl⟩ : ∃ q, n = q + 1 := ⟨n - 1, by omega⟩
    have e0 : wk (wst s 372 (253 + 18 * i + 8) x 372) i 7 = wk (w 372) i 7 := by
      rw [wS, hs, shJ_0]
      unfold wk
      rw [uN (by omega)]
      unfold shN
      rw [if_neg (by omega)]
    rw [sX13_note_16.eq_2, if_pos (show iN 0 ≤ 0 by decide), idx_iN (by omega) (by decide), ob, e13_wk7 hi, ob, e0, e13_pw7 hi, ob, e13_pw7 hi, ob]
    by_cases h : wk (w 372) i 7 = 10
    · rw [if_pos h]
      refine ⟨_, rfl, ?_, fun r hr => by rw [wN hr, wN hr]; exact ho r hr⟩
      rw [wS, wS, hs, shJ_0]
      unfold dNote
      rw [if_pos h]
    · rw [if_neg h]
      refine ⟨_, rfl, ?_, fun r hr => by rw [wN hr, wN hr]; exact ho r hr⟩
      rw [wS, wS, hs, shJ_0]
      unfold dNote
      rw [if_neg h]
  | succ j ih =>
    intro n s hj hn hs ho
    obtain ⟨n, rfl⟩ : ∃ q, n = q + 1 := ⟨n - 1, by omega⟩
    have hp : ¬ iN (j + 1) ≤ 0 := fun q => by have := (iN_le (b := 0) (by omega) (by decide)).mp q; omega
    have e1 : iN (253 + 18 * i + 8) + iN (j + 1) = iN (253 + 18 * i + 8 + (j + 1)) := iN_add _ _
    have e2 : iN (253 + 18 * i + 8 + (j + 1)) - 1 = iN (253 + 18 * i + 8 + (j + 1) - 1) := by
      have := iN_p (253 + 18 * i + 8 + (j + 1) - 1)
      rwa [show 253 + 18 * i + 8 + (j + 1) - 1 + 1 = 253 + 18 * i + 8 + (j + 1) by omega] at this
    rw [sX13_note_16.eq_2, if_neg hp, e1, e2, idx_iN (by omega) (by decide), ob, idx_iN (by omega) (by decide), ob, iN_p']
    refine ih n _ (by omega) (by omega) ?_ (fun r hr => (wN hr).trans (ho r hr))
    rw [wS, hs]
    exact shJ_s (by omega)
theorem e13_note {i : Nat} {x : Int32} (hi : i < 16) : ∃ w', sX13_note w (iN i) x = some w' ∧ w' 372 = dNote (w 372) i x ∧ only372 w w' := by
  unfold sX13_note
  have e : ((253 : Int32) + ((18 : Int32) * iN i)) + (8 : Int32) = iN (253 + 18 * i + 8) := by
    rw [show (253 : Int32) = iN 253 from rfl, show (18 : Int32) = iN 18 from rfl, show (8 : Int32) = iN 8 from rfl, iN_mul, iN_add, iN_add]
  rw [e]
  exact l13_note hi 9 FU w (Nat.le_refl _) (by decide) shJ_9.symm (fun _ _ => rfl)
theorem e13_pays_59 {i K : Nat} {l2 x p : Int32} (hi : i < 16) (hK : (l2 = -1 ∧ K = 6) ∨ ∃ v, v < 8 ∧ l2 = iN v ∧ K = 9 + 13 * v + 4) (r : Int32) (hp : p = prm (wk (w 372) i 1) r) : ∃ w', sX13_pays_59 w (iN i) l2 p (iN i) x = some w' ∧ w' 372 = dPayK (w 372) i K x r ∧ only372 w w' := by
  have hK2 : 5 < K ∧ K < 113 := by rcases hK with ⟨-, h⟩ | ⟨v, hv, -, h⟩ <;> omega
  unfold sX13_pays_59
  obtain ⟨w1, e1, e2, e3⟩ := e13_note (w := w) (x := x) hi
  have d6 : wk (dNote (w 372) i x) i 6 = wk (w 372) i 6 := dNote_s _ (by omega)
  rw [e1, ob, e13_wk6 hi, ob, e13_pw6 hi, ob, e2, d6]
  have d5 : ∀ y, y < 253 → wst w1 372 (253 + 18 * i + 6) (wk (w 372) i 6 + p) 372 y = (w 372) y := fun y hy => by
    rw [wS, e2, uN (by omega)]; exact dNote_s _ (by omega)
  have fin : wst (wst (wst w1 372 (253 + 18 * i + 6) (wk (w 372) i 6 + p)) 372 5 ((w 372) 5 + p)) 372 K ((w 372) K + p) 372 = dPayK (w 372) i K x r := by
    rw [wS, wS, wS, e2]
    unfold dPayK
    rw [hp]
  rcases hK with ⟨e, eK⟩ | ⟨v, hv, e, eK⟩
  · rw [if_pos e, d5 5 (by omega)]
    refine ⟨_, rfl, ?_, fun y hy => by rw [wN hy, wN hy, wN hy]; exact e3 y hy⟩
    rw [show wst (wst w1 372 (253 + 18 * i + 6) (wk (w 372) i 6 + p)) 372 5 ((w 372) 5 + p) 372 6 = (w 372) 6 by rw [wS, uN (by decide)]; exact d5 6 (by omega)]
    rw [eK] at fin
    rw [eK]
    exact fin
  · rw [e, if_neg (iN_m1 (by omega)), show (4 : Int32) = iN 4 from rfl, ix_vn hv (by decide), ob, d5 5 (by omega)]
    refine ⟨_, rfl, ?_, fun y hy => by rw [wN hy, wN hy, wN hy]; exact e3 y hy⟩
    rw [show wst (wst w1 372 (253 + 18 * i + 6) (wk (w 372) i 6 + p)) 372 5 ((w 372) 5 + p) 372 (9 + 13 * v + 4) = (w 372) (9 + 13 * v + 4) by rw [wS, uN (by omega)]; exact d5 _ (by omega)]
    rw [eK] at fin
    rw [eK]
    exact fin
theorem e13_pays (hI : Iv T z (w 372)) {i : Nat} (hi : i < nW (w 372)) : ∃ w', sX13_pays w (iN i) = some w' ∧ w' 372 = dPay (w 372) i ∧ only372 w w' := by
  have h16 := hI.iw16
  have h8 := hI.iv8
  unfold sX13_pays dPay
  rw [e13_standsIn hI hi, ob]
  rcases wat_ptr hI hi with e | ⟨v, hv, e⟩
  · rw [e, if_pos rfl, if_pos rfl]
    unfold sX13_pays_29
    rw [e13_wk1 (by omega), ob, if_pos rfl]
    exact e13_pays_59 (K := 6) (by omega) (Or.inl ⟨rfl, rfl⟩) _ (by unfold prm; rw [Int64.mul_comm])
  · rw [e, if_neg (iN_m1 (by omega)), if_neg (iN_m1 (by omega)), e13_vn2 (by omega), ob, iN_nat (by omega)]
    unfold sX13_pays_29
    rw [e13_wk1 (by omega), ob, if_neg (iN_m1 (by omega))]
    exact e13_pays_59 (K := 9 + 13 * v + 4) (by omega) (Or.inr ⟨v, by omega, rfl, rfl⟩) _ (by unfold prm; rw [Int64.mul_comm])
-- the hours
theorem Iv.izz {z' : Nat} (hI : Iv T z m) (h : ∀ c, c < nC m → c < z' → ¬ c < z → cr m c 3 = -1 → cr m c 5 ≠ m 0) : Iv T z' m := by
  obtain ⟨b1, b2, b3, b4, b5, b6, b7, b8, b9, b10, b11, b12⟩ := hI
  refine ⟨b1, b2, b3, b4, b5, b6, b7, b8, fun c hc => ?_, b10, b11, b12⟩
  obtain ⟨a1, a2, a3, a4, a5⟩ := b9 c hc
  refine ⟨a1, a2, a3, ?_, a5⟩
  rcases a4 with ⟨q3, q2, q1, q4, A, e, h1, h2, h3⟩ | q
  · refine Or.inl ⟨q3, q2, q1, q4, A, e, h1, fun hz => ?_, h3⟩
    by_cases hz2 : c < z
    · exact h2 hz2
    · have := h c hc hz hz2 q3
      rw [e, b1.1] at this
      have h4 : A ≠ tm m := fun q => this (by rw [q])
      omega
  · exact Or.inr q
theorem Iv.iz1 {i : Nat} (hI : Iv T i m) (h : cr m i 3 = -1 → cr m i 5 ≠ m 0) : Iv T (i + 1) m := hI.izz (fun c hc h1 h2 h3 => by
  have e : c = i := by omega
  subst e
  exact h h3)
theorem i_time (hI : Iv T 12 m) (hT : T + 1 ≤ 1000000000) : Iv (T + 1) 0 (upd m 0 (m 0 + 1)) := by
  have h12 := hI.ic12
  have ht := hI.itT
  have e0 : m 0 + 1 = iN (tm m + 1) := by rw [hI.it, iN_s]
  have hs : ∀ y, y ≠ 0 → upd m 0 (m 0 + 1) y = m y := fun y hy => uN hy
  have n1 : nV (upd m 0 (m 0 + 1)) = nV m := by unfold nV; rw [hs 1 (by decide)]
  have n2 : nC (upd m 0 (m 0 + 1)) = nC m := by unfold nC; rw [hs 2 (by decide)]
  have n3 : nW (upd m 0 (m 0 + 1)) = nW m := by unfold nW; rw [hs 3 (by decide)]
  have n4 : nK (upd m 0 (m 0 + 1)) = nK m := by unfold nK; rw [hs 4 (by decide)]
  have n5 : tm (upd m 0 (m 0 + 1)) = tm m + 1 := by
    show (upd m 0 (m 0 + 1) 0).toNatClampNeg = _
    rw [uS, e0]; exact iN_nat (by omega)
  refine ⟨⟨?_, by omega, hT⟩, ⟨?_, by rw [n1]; exact hI.iv8⟩, ⟨?_, by rw [n2]; exact h12⟩, ⟨?_, by rw [n3]; exact hI.iw16⟩, ⟨?_, by rw [n4]; exact hI.ik4⟩, jV1 hI n1 (fun y _ _ => hs y (by omega)), jV2 hI (fun y _ _ => hs y (by omega)), jV3 hI (fun y _ _ => hs y (by omega)), fun c hc => ?_, jD hI n2 (fun y _ _ => hs y (by omega)), jW hI (by omega) (by omega) n3 (fun y _ _ => hs y (by omega)), jK hI (by omega) (by omega) n4 (fun y _ _ => hs y (by omega))⟩
  · rw [n5, uS, e0]
  · rw [n1, hs 1 (by decide)]; exact hI.iv
  · rw [n2, hs 2 (by decide)]; exact hI.ic
  · rw [n3, hs 3 (by decide)]; exact hI.iw
  · rw [n4, hs 4 (by decide)]; exact hI.ik
  · rw [n1, n2, n5]
    have ecr : ∀ j, cr (upd m 0 (m 0 + 1)) c j = cr m c j := fun j => hs _ (by omega)
    have eop : opn (upd m 0 (m 0 + 1)) = opn m := by
      funext d
      unfold opn
      by_cases h : d < 12
      · rw [if_pos h, if_pos h]; exact hs _ (by omega)
      · rw [if_neg h, if_neg h]
    obtain ⟨a1, a2, a3, a4, a5⟩ := hI.ico c (by omega)
    unfold COk
    rw [eop]
    simp only [ecr]
    refine ⟨a1, a2, a3, ?_, a5⟩
    rcases a4 with ⟨q3, q2, q1, q4, A, e, h1, h2, h3⟩ | q
    · have := h2 (by omega)
      exact Or.inl ⟨q3, q2, q1, q4, A, e, by omega, fun hz => by omega, by omega⟩
    · exact Or.inr q
theorem r_time (hR : Rl w 1 m) (hI : Iv T z m) : Rl (wst w 1 0 (w 1 0 + 1)) 1 (upd m 0 (m 0 + 1)) := by
  have hs : ∀ y, y ≠ 0 → upd m 0 (m 0 + 1) y = m y := fun y hy => uN hy
  have n2 : nC (upd m 0 (m 0 + 1)) = nC m := by unfold nC; rw [hs 2 (by decide)]
  have n3 : nW (upd m 0 (m 0 + 1)) = nW m := by unfold nW; rw [hs 3 (by decide)]
  have n4 : nK (upd m 0 (m 0 + 1)) = nK m := by unfold nK; rw [hs 4 (by decide)]
  have hrow : ∀ r, r ≠ 1 → wst w 1 0 (w 1 0 + 1) r = w r := fun r h1 => wN h1
  refine ⟨?_, sV hR (fun r _ _ => hrow r (by omega)) (fun x _ _ => hs x (by omega)), sA hR (fun r _ _ => hrow r (by omega)) (fun x _ _ => hs x (by omega)), sC hR (fun r _ _ => hrow r (by omega)) (fun x _ _ => hs x (by omega)) n2 hI.ic12 n4 hI.ik4, sP hR (fun r _ _ => hrow r (by omega)) (fun x _ _ => hs x (by omega)), sW hR (fun r _ _ => hrow r (by omega)) (fun x _ _ => hs x (by omega)) n3 hI.iw16, sZ hR (fun r _ _ => hrow r (by omega)) n3, sL hR (fun r _ _ => hrow r (by omega)) (fun x _ _ => hs x (by omega)), sK hR (hrow _ (by omega)) (fun x _ _ => hs x (by omega))⟩
  obtain ⟨a1, a2, a3, a4, a5, a6, a7, a8, a9⟩ := hR.1
  rw [wS]
  unfold RlS
  simp (disch := omega) only [uS, uN]
  exact ⟨by rw [a1], a2, a3, a4, a5, a6, a7, a8, a9⟩
/-- what arriving leaves: the counts, the time; and one more has arrived -/
theorem dArr_n (hI : Iv T z m) {c : Nat} (hc : c < nC m) (ha : cr m c 3 = -1) : nV (dArr m c) = nV m ∧ nC (dArr m c) = nC m ∧ nW (dArr m c) = nW m ∧ nK (dArr m c) = nK m ∧ dArr m c 0 = m 0 ∧ dArr m c 7 = m 7 + 1 := by
  have h12 := hI.ic12
  obtain ⟨i1, i2, i3, i3'⟩ := dA1_c hI hc ha
  have key := fld_inv (f := fB c) (fun _ a => ∀ y, y < 9 → a y = m y) (nW m) 0 (dA2 (dA1 m c) c) (fun y hy => (dA2_eqo y (by omega)).trans (i2 y (by omega))) (fun j b _ _ hb y hy => by
    unfold fB
    rw [uN (by omega)]; exact hb y hy)
  unfold dArr
  generalize fld (fB c) (nW m) 0 (dA2 (dA1 m c) c) = F at key ⊢
  unfold dA7 nV nC nW nK
  rw [uN (by decide), uN (by decide), uN (by decide), uN (by decide), uN (by decide), uS]
  rw [key 1 (by decide), key 2 (by decide), key 3 (by decide), key 4 (by decide), key 0 (by decide), key 7 (by decide)]
  exact ⟨rfl, rfl, rfl, rfl, rfl, rfl⟩
theorem dPay_7 (hI : Iv T z m) {i : Nat} (hi : i < nW m) : dPay m i 7 = m 7 ∧ dPay m i 0 = m 0 := by
  obtain ⟨K, x, r, e, hK⟩ := dPay_K hI hi
  rw [e]
  have hK2 : K ≠ 7 ∧ K ≠ 0 := by rcases hK with h | ⟨v, hv, h⟩ <;> omega
  exact ⟨dPayK_s _ (by decide) (fun q => hK2.1 q.symm) (by omega), dPayK_s _ (by decide) (fun q => hK2.2 q.symm) (by omega)⟩
theorem c_passHour (hR : Rl w 1 m) (hI : Iv T 12 m) (hT : T + 1 ≤ 1000000000) : ∃ w', sX4_passHour w = some w' ∧ Rl w' 1 (dHour m) ∧ outb w w' ∧ Iv (T + 1) 12 (dHour m) := by
  have h12 := hI.ic12
  have h16 := hI.iw16
  have hI0 := i_time hI hT
  have hR0 := r_time hR hI
  have n2 : nC (upd m 0 (m 0 + 1)) = nC m := by unfold nC; rw [uN (by decide)]
  have n3 : nW (upd m 0 (m 0 + 1)) = nW m := by unfold nW; rw [uN (by decide)]
  unfold sX4_passHour
  have A0 : ∀ (n : Nat) (a : Nat → Int32) (s : Wl), (Rl s 1 a ∧ Iv (T + 1) (nC m) a ∧ nC a = nC m ∧ nW a = nW m ∧ outb w s) → sX4_passHour_15 (n + 1) s (iN (nC m)) = (if a 0 - a 0 / 24 * 24 = 0 then sX4_endDay s else some s) := by
    intro n a s ⟨r1, r2, r3, r4, r5⟩
    rw [sX4_passHour_15.eq_2, r1.r6 r2, r3, if_pos ((iN_le (by omega) (by omega)).mpr (Nat.le_refl _)), r1.s.1]
    by_cases h : a 0 - a 0 / 24 * 24 = 0
    · rw [if_pos h, if_pos h]; cases sX4_endDay s <;> rfl
    · rw [if_neg h, if_neg h]
  have A1 : ∀ (n : Nat) (a : Nat → Int32) (s : Wl) (i : Nat), i < nC m → (Rl s 1 a ∧ Iv (T + 1) i a ∧ nC a = nC m ∧ nW a = nW m ∧ outb w s) → ∃ s' : Wl, (Rl s' 1 (dH1 i a) ∧ Iv (T + 1) (i + 1) (dH1 i a) ∧ nC (dH1 i a) = nC m ∧ nW (dH1 i a) = nW m ∧ outb w s') ∧ sX4_passHour_15 (n + 1) s (iN i) = sX4_passHour_15 n s' (iN (i + 1)) := by
    intro n a s i hi ⟨r1, r2, r3, r4, r5⟩
    have hi' : i < nC a := by omega
    have h8 := r2.iv8
    rw [sX4_passHour_15.eq_2, r1.r6 r2, r3, if_neg (show ¬ iN (nC m) ≤ iN i from fun q => by have := (iN_le (by omega) (by omega)).mp q; omega), idx_iN (by omega) (by decide), ob, (r1.c hi').2.2.1, (r1.c hi').2.2.2.1, r1.s.1, iN_s]
    unfold dH1
    rcases (r2.ico i hi').2.2.2.1 with ⟨q3, q2, q1, ⟨v, hv, q4⟩, A, q5, q6⟩ | ⟨⟨v, hv, q3⟩, q4, q5⟩
    · simp only [if_pos q3, if_pos q2]
      rw [q4, if_neg (iN_m1 (by omega))]
      by_cases h : cr a i 5 = a 0
      · simp only [if_pos h]
        obtain ⟨w2, f1, f2, f3, f4⟩ := c_arrive r1 r2 hi' q3
        obtain ⟨g1, g2, g3, g4, g5, g6⟩ := dArr_n r2 hi' q3
        rw [f1, ob]
        exact ⟨w2, ⟨f2, f4, by omega, by omega, r5.tr f3⟩, rfl⟩
      · simp only [if_neg h]
        exact ⟨s, ⟨r1, r2.iz1 (fun _ => h), r3, r4, r5⟩, rfl⟩
    · have q3' : ¬ cr a i 3 = -1 := by rw [q3]; exact iN_m1 (by omega)
      simp only [if_neg q3']
      rw [q4, if_pos rfl]
      exact ⟨s, ⟨r1, r2.iz1 (fun q => (q3' q).elim), r3, r4, r5⟩, rfl⟩
  obtain ⟨s', ⟨q1, q2, q3, q4, q5⟩, q6⟩ := loopB (L := fun n s l => sX4_passHour_15 n s l) (N := nC m) (fin := fun a s => if a 0 - a 0 / 24 * 24 = 0 then sX4_endDay s else some s) (f := dH1) (fun i a s => Rl s 1 a ∧ Iv (T + 1) i a ∧ nC a = nC m ∧ nW a = nW m ∧ outb w s) A0 A1 (nC m) 0 (upd m 0 (m 0 + 1)) (wst w 1 0 (w 1 0 + 1)) FU (by omega) (by show _ < 4096; omega) ⟨hR0, hI0, n2, n3, fun r hr => wN (by omega)⟩
  have q6' : sX4_passHour_15 FU (wst w 1 0 (w 1 0 + 1)) (0 : Int32) = (if dH2 m 0 - dH2 m 0 / 24 * 24 = 0 then sX4_endDay s' else some s') := q6
  rw [q6']
  have q1 : Rl s' 1 (dH2 m) := q1
  have q2 : Iv (T + 1) (nC m) (dH2 m) := q2
  have q3 : nC (dH2 m) = nC m := q3
  have q4 : nW (dH2 m) = nW m := q4
  have q2' : Iv (T + 1) 12 (dH2 m) := q2.izz (fun c hc h1 h2 h3 => by omega)
  unfold dHour
  by_cases h : dH2 m 0 - dH2 m 0 / 24 * 24 = 0
  · rw [if_pos h, if_pos h]
    obtain ⟨w2, f1, f2, f3, f4, f5⟩ := c_endDay q1 q2'
    rw [q4] at f2 f4
    exact ⟨w2, f1, f2, q5.tr f3, f4⟩
  · rw [if_neg h, if_neg h]
    exact ⟨s', rfl, q1, q5, q2'⟩
theorem e13_hour (hI : Iv T 12 (w 372)) (hT : T + 1 ≤ 1000000000) : ∃ w', sX13_hour w = some (dHour (w 372) 7 - (w 372) 7, w') ∧ w' 372 = dHour (w 372) ∧ only372 w w' := by
  have h12 := hI.ic12
  have h16 := hI.iw16
  have hI0 := i_time hI hT
  generalize hm : w 372 = m at hI hI0 h12 h16 ⊢
  have n2 : nC (upd m 0 (m 0 + 1)) = nC m := by unfold nC; rw [uN (by decide)]
  have n3 : nW (upd m 0 (m 0 + 1)) = nW m := by unfold nW; rw [uN (by decide)]
  unfold sX13_hour
  rw [hm]
  have A0 : ∀ (n : Nat) (a : Nat → Int32) (s : Int32 × Wl), (s.2 372 = a ∧ s.1 = a 7 - m 7 ∧ Iv (T + 1) (nC m) a ∧ nC a = nC m ∧ nW a = nW m ∧ only372 w s.2) → sX13_hour_14 (n + 1) s.2 s.1 (iN (nC m)) = sX13_hour_75 FU s.2 s.1 (0 : Int32) := by
    intro n a s ⟨r1, r0, r2, r3, r4, r5⟩
    subst r1
    rw [sX13_hour_14.eq_2, r2.ic, r3, if_pos ((iN_le (by omega) (by omega)).mpr (Nat.le_refl _))]
  have A1 : ∀ (n : Nat) (a : Nat → Int32) (s : Int32 × Wl) (i : Nat), i < nC m → (s.2 372 = a ∧ s.1 = a 7 - m 7 ∧ Iv (T + 1) i a ∧ nC a = nC m ∧ nW a = nW m ∧ only372 w s.2) → ∃ s' : Int32 × Wl, (s'.2 372 = dH1 i a ∧ s'.1 = dH1 i a 7 - m 7 ∧ Iv (T + 1) (i + 1) (dH1 i a) ∧ nC (dH1 i a) = nC m ∧ nW (dH1 i a) = nW m ∧ only372 w s'.2) ∧ sX13_hour_14 (n + 1) s.2 s.1 (iN i) = sX13_hour_14 n s'.2 s'.1 (iN (i + 1)) := by
    intro n a s i hi ⟨r1, r0, r2, r3, r4, r5⟩
    subst r1
    have hi' : i < nC (s.2 372) := by omega
    have h8 := r2.iv8
    rw [sX13_hour_14.eq_2, r2.ic, r3, if_neg (show ¬ iN (nC m) ≤ iN i from fun q => by have := (iN_le (by omega) (by omega)).mp q; omega), e13_of3 (by omega), ob, iN_s]
    unfold dH1
    rcases (r2.ico i hi').2.2.2.1 with ⟨q3, q2, q1, -, A, q5, q6⟩ | ⟨⟨v, hv, q3⟩, q4, q5⟩
    · simp only [if_pos q3]
      rw [e13_of2 (by omega), ob]
      simp only [if_pos q2]
      rw [e13_of5 (by omega), ob]
      by_cases h : cr (s.2 372) i 5 = (s.2 372) 0
      · simp only [if_pos h]
        obtain ⟨w2, f1, f2, f3⟩ := e13_arrives (w := s.2) r2 hi' q3
        obtain ⟨g1, g2, g3, g4, g5, g6⟩ := dArr_n r2 hi' q3
        have hI' : Iv (T + 1) (i + 1) (dArr (s.2 372) i) := by
          obtain ⟨i1, i2, i3, i3'⟩ := dA1_c r2 hi' q3
          obtain ⟨n1, n2, n3, n4, n5⟩ := ns_of (m := s.2 372) (m' := dA1 (s.2 372) i) (fun x _ _ => i2 x (by omega))
          have h4 := r2.ik4
          have hI2 : Iv (T + 1) (i + 1) (dA2 (dA1 (s.2 372) i) i) := i_dA2 i1 (by omega) (Nat.le_refl _) ((i2 _ (by omega)).trans q3) (fun k hk q => by
            rw [(i3 k (by omega)).2] at q
            by_cases h : tg (s.2 372) k = iN i
            · rw [if_pos h] at q; exact m1_iN (by omega) q
            · rw [if_neg h] at q; exact h q)
          obtain ⟨p1, p2, p3, p4, p5⟩ := (dA2_eqo (a := dA1 (s.2 372) i) (c := i)).fn (by omega)
          have key := fld_inv (f := fB i) (fun _ a => Iv (T + 1) (i + 1) a ∧ nW a = nW (s.2 372)) (nW (s.2 372)) 0 (dA2 (dA1 (s.2 372) i) i) ⟨hI2, by omega⟩ (fun j b _ hj hb => ⟨i_fB hb.1 (by omega), fB_n.2.2.1.trans hb.2⟩)
          exact i_dA7 key.1
        rw [f1, ob]
        refine ⟨(s.1 + 1, w2), ⟨f2, ?_, hI', by omega, by omega, fun r hr => (f3 r hr).trans (r5 r hr)⟩, rfl⟩
        show s.1 + 1 = _
        rw [g6, r0, Int32.sub_eq_add_neg, Int32.sub_eq_add_neg, Int32.add_assoc, Int32.add_assoc, Int32.add_comm 1]
      · simp only [if_neg h]
        exact ⟨s, ⟨rfl, r0, r2.iz1 (fun _ => h), r3, r4, r5⟩, rfl⟩
    · have q3' : ¬ cr (s.2 372) i 3 = -1 := by rw [q3]; exact iN_m1 (by omega)
      simp only [if_neg q3']
      exact ⟨s, ⟨rfl, r0, r2.iz1 (fun q => (q3' q).elim), r3, r4, r5⟩, rfl⟩
  obtain ⟨s', ⟨q1, q0, q2, q3, q4, q5⟩, q6⟩ := loopB (L := fun n (s : Int32 × Wl) l => sX13_hour_14 n s.2 s.1 l) (N := nC m) (fin := fun _ s => sX13_hour_75 FU s.2 s.1 (0 : Int32)) (f := dH1) (fun i a s => s.2 372 = a ∧ s.1 = a 7 - m 7 ∧ Iv (T + 1) i a ∧ nC a = nC m ∧ nW a = nW m ∧ only372 w s.2) A0 A1 (nC m) 0 (upd m 0 (m 0 + 1)) (0, wst w 372 0 (m 0 + 1)) FU (by omega) (by show _ < 4096; omega) ⟨by show wst w 372 0 (m 0 + 1) 372 = _; rw [wS, hm], by rw [uN (by decide), Int32.sub_self], hI0, n2, n3, fun r hr => wN hr⟩
  have q6' : sX13_hour_14 FU (wst w 372 0 (m 0 + 1)) (0 : Int32) (0 : Int32) = sX13_hour_75 FU s'.2 s'.1 (0 : Int32) := q6
  rw [q6']
  have q1 : s'.2 372 = dH2 m := q1
  have q0 : s'.1 = dH2 m 7 - m 7 := q0
  have q2 : Iv (T + 1) (nC m) (dH2 m) := q2
  have q4 : nW (dH2 m) = nW m := q4
  unfold dHour
  by_cases h : dH2 m 0 - dH2 m 0 / 24 * 24 = 0
  · simp only [if_pos h]
    have B0 : ∀ (n : Nat) (a : Nat → Int32) (s : Int32 × Wl), (s.2 372 = a ∧ s.1 = a 7 - m 7 ∧ Iv (T + 1) (nC m) a ∧ a 0 = dH2 m 0 ∧ nW a = nW m ∧ only372 w s.2) → sX13_hour_75 (n + 1) s.2 s.1 (iN (nW m)) = some s := by
      intro n a s ⟨r1, r0, r2, r3, r4, r5⟩
      subst r1
      rw [sX13_hour_75.eq_2, r2.iw, r4, if_pos ((iN_le (by omega) (by omega)).mpr (Nat.le_refl _))]
    have B1 : ∀ (n : Nat) (a : Nat → Int32) (s : Int32 × Wl) (i : Nat), i < nW m → (s.2 372 = a ∧ s.1 = a 7 - m 7 ∧ Iv (T + 1) (nC m) a ∧ a 0 = dH2 m 0 ∧ nW a = nW m ∧ only372 w s.2) → ∃ s' : Int32 × Wl, (s'.2 372 = dPay a i ∧ s'.1 = dPay a i 7 - m 7 ∧ Iv (T + 1) (nC m) (dPay a i) ∧ dPay a i 0 = dH2 m 0 ∧ nW (dPay a i) = nW m ∧ only372 w s'.2) ∧ sX13_hour_75 (n + 1) s.2 s.1 (iN i) = sX13_hour_75 n s'.2 s'.1 (iN (i + 1)) := by
      intro n a s i hi ⟨r1, r0, r2, r3, r4, r5⟩
      subst r1
      have hi' : i < nW (s.2 372) := by omega
      obtain ⟨j1, j2, j3, j4, j5, j6⟩ := i_dPay r2 hi'
      obtain ⟨k7, k0⟩ := dPay_7 r2 hi'
      obtain ⟨w2, f1, f2, f3⟩ := e13_pays (w := s.2) r2 hi'
      rw [sX13_hour_75.eq_2, r2.iw, r4, if_neg (show ¬ iN (nW m) ≤ iN i from fun q => by have := (iN_le (by omega) (by omega)).mp q; omega), r3, if_pos h, f1, ob, iN_s]
      exact ⟨(s.1, w2), ⟨f2, by show s.1 = _; rw [k7]; exact r0, j1, k0.trans r3, by omega, fun r hr => (f3 r hr).trans (r5 r hr)⟩, rfl⟩
    obtain ⟨s2, ⟨u1, u0, u2, u3, u4, u5⟩, u6⟩ := loopB (L := fun n (s : Int32 × Wl) l => sX13_hour_75 n s.2 s.1 l) (N := nW m) (fin := fun _ s => some s) (f := fun i a => dPay a i) (fun i a s => s.2 372 = a ∧ s.1 = a 7 - m 7 ∧ Iv (T + 1) (nC m) a ∧ a 0 = dH2 m 0 ∧ nW a = nW m ∧ only372 w s.2) B0 B1 (nW m) 0 (dH2 m) s' FU (by omega) (by show _ < 4096; omega) ⟨q1, q0, q2, rfl, q4, q5⟩
    refine ⟨s2.2, ?_, u1, u5⟩
    rw [← u0]
    exact u6
  · simp only [if_neg h]
    refine ⟨s'.2, ?_, q1, q5⟩
    rw [← q0]
    show sX13_hour_75 4096 s'.2 s'.1 (iN 0) = some (s'.1, s'.2)
    rw [sX13_hour_75.eq_2, q1, q2.iw, q4]
    by_cases h0 : iN (nW m) ≤ iN 0
    · rw [if_pos h0]
    · rw [if_neg h0, if_neg h]
-- many hours
theorem c_letHoursPass (hR : Rl w 1 m) (hI : Iv T 12 m) {h : Nat} (h1 : h ≤ 240) (hT : T + h ≤ 1000000000) : ∃ w', sX4_letHoursPass w (iN h) = some (dHours m h 7 - m 7, w') ∧ Rl w' 1 (dHours m h) ∧ outb w w' ∧ Iv (T + h) 12 (dHours m h) := by
  unfold sX4_letHoursPass
  have A0 : ∀ (n : Nat) (a : Nat → Int32) (s : Wl), (Rl s 1 a ∧ Iv (T + h) 12 a ∧ outb w s) → sX4_letHoursPass_10 (n + 1) s (iN h) (w 1 4) (iN h) = some (a 7 - m 7, s) := by
    intro n a s ⟨r1, r2, r3⟩
    rw [sX4_letHoursPass_10.eq_2, if_pos ((iN_le (by omega) (by omega)).mpr (Nat.le_refl _)), r1.s.2.2.2.2.1, hR.s.2.2.2.2.1]
  have A1 : ∀ (n : Nat) (a : Nat → Int32) (s : Wl) (i : Nat), i < h → (Rl s 1 a ∧ Iv (T + i) 12 a ∧ outb w s) → ∃ s' : Wl, (Rl s' 1 (dHour a) ∧ Iv (T + (i + 1)) 12 (dHour a) ∧ outb w s') ∧ sX4_letHoursPass_10 (n + 1) s (iN h) (w 1 4) (iN i) = sX4_letHoursPass_10 n s' (iN h) (w 1 4) (iN (i + 1)) := by
    intro n a s i hi ⟨r1, r2, r3⟩
    obtain ⟨w2, f1, f2, f3, f4⟩ := c_passHour r1 r2 (by omega)
    rw [sX4_letHoursPass_10.eq_2, if_neg (show ¬ iN h ≤ iN i from fun q => by have := (iN_le (by omega) (by omega)).mp q; omega), f1, ob, iN_s]
    exact ⟨w2, ⟨f2, f4, r3.tr f3⟩, rfl⟩
  obtain ⟨s', ⟨q1, q2, q3⟩, q4⟩ := loopB (L := fun n s l => sX4_letHoursPass_10 n s (iN h) (w 1 4) l) (N := h) (fin := fun a s => some (a 7 - m 7, s)) (f := fun _ a => dHour a) (fun i a s => Rl s 1 a ∧ Iv (T + i) 12 a ∧ outb w s) A0 A1 h 0 m w FU (by omega) (by show _ < 4096; omega) ⟨hR, hI, fun _ _ => rfl⟩
  exact ⟨s', q4, q1, q3, q2⟩
theorem e13_advances (hI : Iv T 12 (w 372)) {h : Nat} (h1 : h ≤ 240) (hT : T + h ≤ 1000000000) (hI' : ∀ (i : Nat) (a : Nat → Int32), i < h → Iv (T + i) 12 a → Iv (T + (i + 1)) 12 (dHour a)) : ∃ w', sX13_advances w (iN h) = some (dHours (w 372) h 7 - (w 372) 7, w') ∧ w' 372 = dHours (w 372) h ∧ only372 w w' := by
  generalize hm : w 372 = m at hI ⊢
  unfold sX13_advances
  have A0 : ∀ (n : Nat) (a : Nat → Int32) (s : Int32 × Wl), (s.2 372 = a ∧ s.1 = a 7 - m 7 ∧ Iv (T + h) 12 a ∧ only372 w s.2) → sX13_advances_4 (n + 1) s.2 (iN h) s.1 (iN h) = some s := by
    intro n a s ⟨r1, r2, r3, r4⟩
    rw [sX13_advances_4.eq_2, if_pos ((iN_le (by omega) (by omega)).mpr (Nat.le_refl _))]
  have A1 : ∀ (n : Nat) (a : Nat → Int32) (s : Int32 × Wl) (i : Nat), i < h → (s.2 372 = a ∧ s.1 = a 7 - m 7 ∧ Iv (T + i) 12 a ∧ only372 w s.2) → ∃ s' : Int32 × Wl, (s'.2 372 = dHour a ∧ s'.1 = dHour a 7 - m 7 ∧ Iv (T + (i + 1)) 12 (dHour a) ∧ only372 w s'.2) ∧ sX13_advances_4 (n + 1) s.2 (iN h) s.1 (iN i) = sX13_advances_4 n s'.2 (iN h) s'.1 (iN (i + 1)) := by
    intro n a s i hi ⟨r1, r2, r3, r4⟩
    subst r1
    obtain ⟨w2, f1, f2, f3⟩ := e13_hour (w := s.2) r3 (by omega)
    rw [sX13_advances_4.eq_2, if_neg (show ¬ iN h ≤ iN i from fun q => by have := (iN_le (by omega) (by omega)).mp q; omega), f1, ob, iN_s]
    refine ⟨(s.1 + (dHour (s.2 372) 7 - (s.2 372) 7), w2), ⟨f2, ?_, hI' i _ hi r3, fun r hr => (f3 r hr).trans (r4 r hr)⟩, rfl⟩
    show s.1 + _ = _
    rw [r2]
    generalize dHour (s.2 372) 7 = x
    generalize s.2 372 7 = y
    rw [Int32.sub_eq_add_neg, Int32.sub_eq_add_neg, Int32.sub_eq_add_neg, Int32.add_comm, Int32.add_assoc, ← Int32.add_assoc (-y), Int32.add_comm (-y), show y + -y = 0 from Int32.add_right_neg y, Int32.zero_add]
  obtain ⟨s', ⟨q1, q2, q3, q4⟩, q5⟩ := loopB (L := fun n (s : Int32 × Wl) l => sX13_advances_4 n s.2 (iN h) s.1 l) (N := h) (fin := fun _ s => some s) (f := fun _ a => dHour a) (fun i a s => s.2 372 = a ∧ s.1 = a 7 - m 7 ∧ Iv (T + i) 12 a ∧ only372 w s.2) A0 A1 h 0 m (0, w) FU (by omega) (by show _ < 4096; omega) ⟨hm, (Int32.sub_self _).symm, hI, fun _ _ => rfl⟩
  refine ⟨s'.2, ?_, q1, q4⟩
  have q2 : s'.1 = dHours m h 7 - m 7 := q2
  rw [← q2]
  exact q5
end HP
