/-! BOTH SIDES: the questions -/
section BQ
variable {w : Wl} {T : Nat} {m : Nat → Int32}
theorem e1_ofValue {e : Bool} {l : Int32} {N : Nat} (hN : N + 1 < 2147483648) : sX1_ofValue w (bI e) l (iN (N + 1)) = some (f3 e (rng 0 (iN N) l) true) := by
  unfold sX1_ofValue rng
  by_cases h0 : l < 0
  · rw [if_pos h0, if_pos h0]
    cases e <;> rfl
  · rw [if_neg h0, if_neg h0]
    have e1 := of_nn h0
    have hl := nat_lt l
    generalize l.toNatClampNeg = k at e1 hl
    subst e1
    by_cases h1 : N < k
    · rw [if_pos ((iN_le hN hl).mpr h1), if_pos ((iN_lt (by omega) hl).mpr h1)]
      cases e <;> rfl
    · rw [if_neg (fun q => h1 ((iN_le hN hl).mp q)), if_neg (fun q => h1 ((iN_lt (by omega) hl).mp q))]
      cases e <;> rfl
theorem ks_eq {e r : Bool} : ksel 1 2 0 e r true = f3 e r true := by cases e <;> cases r <;> rfl
theorem CK_12 {e r : Bool} : CK (some 1) (some 2) none (f3 e r true) (ksel 1 2 0 e r true) := CK_f3 (Or.inr ⟨rfl, by decide⟩) (Or.inr ⟨rfl, by decide⟩) (Or.inl rfl)
theorem CK_1 {e : Bool} : CK (some 1) none none (f3 e true true) (ksel 1 0 0 e true true) := CK_f3 (Or.inr ⟨rfl, by decide⟩) (Or.inl rfl) (Or.inl rfl)
theorem b_crate (hA : AL T w) (hT : T + 40000 ≤ 1000000000) (l1 l2 : Int32) : OPR T w (sL_crate w l1 l2) (fun w1 => sX13_crate w1 l1 l2) := by
  have hR := hA.1
  have hI := hA.2.1
  have h12 := hI.ic12
  have key : f3 (ok (nC (w 372)) l1) (rng 0 13 l2) true = 0 → ∃ c, c < nC (w 372) ∧ l1 = iN c := fun h => ok_inv (by omega) (f3_0 h).1
  obtain ⟨w1, a1, a2, b, w2, b1, b2⟩ := op_qry hA hT (v := aCrate (w 372) l1.toNatClampNeg l2) (CK_12 (e := ok (nC (w 372)) l1) (r := rng 0 13 l2)) (sX8_ofCrate w l1 l2) (fun w6 => sX13_crateOf w6 l1 l2)
    (fun h => by
      obtain ⟨c, hc, rfl⟩ := key h
      rw [iN_nat (by omega)]; exact e8_ofCrate hR hI hc l2)
    (fun h w6 h6 => by
      obtain ⟨c, hc, rfl⟩ := key h
      rw [iN_nat (by omega), ← h6]; exact e13_crateOf (by rw [h6]; exact hI) (by rw [h6]; exact hc) l2)
  refine ⟨_, w1, ?_, b, w2, ?_, b2⟩
  · unfold sL_crate sX12_crate
    rw [e6_hasCrate hR hI, ob, show (14 : Int32) = iN (13 + 1) from rfl, e1_ofValue (by decide), ob]
    exact a1
  · show sX13_crate w1 l1 l2 = _
    have hI1 : Iv T 12 (w1 372) := by rw [a2]; exact hI
    have e : sX13_crate w1 l1 l2 = sX13_crate_28 w1 l1 l2 (ksel 1 2 0 (ok (nC (w 372)) l1) (rng 0 13 l2) true) := by
      unfold sX13_crate
      rw [e13_isCrate hI1, ob, e13_rng, ob, a2]
      cases ok (nC (w 372)) l1
      · simp only [iF, ks1]
      · cases rng 0 13 l2
        · simp only [iF, iT, if_true, ks2]
        · simp only [iT, if_true, ks0]
    rw [e]
    exact b1
theorem b_work (hA : AL T w) (hT : T + 40000 ≤ 1000000000) (l1 l2 : Int32) : OPR T w (sL_work w l1 l2) (fun w1 => sX13_work w1 l1 l2) := by
  have hR := hA.1
  have hI := hA.2.1
  have h12 := hI.iw16
  have key : f3 (ok (nW (w 372)) l1) (rng 0 7 l2) true = 0 → ∃ c, c < nW (w 372) ∧ l1 = iN c ∧ ∃ j, j < 8 ∧ l2 = iN j := fun h => by
    obtain ⟨c, hc, e⟩ := ok_inv (by omega) (f3_0 h).1
    obtain ⟨j, -, hj, e2⟩ := rng_n (a := 0) (b := 7) (by decide) (by decide) (f3_0 h).2.1
    exact ⟨c, hc, e, j, by omega, e2⟩
  obtain ⟨w1, a1, a2, b, w2, b1, b2⟩ := op_qry hA hT (v := aWork (w 372) l1.toNatClampNeg l2) (CK_12 (e := ok (nW (w 372)) l1) (r := rng 0 7 l2)) (sX8_ofWork w l1 l2) (fun w6 => sX13_workOf w6 l1 l2)
    (fun h => by
      obtain ⟨c, hc, rfl, j, hj, rfl⟩ := key h
      rw [iN_nat (by omega)]; exact e8_ofWork hR hI hc _)
    (fun h w6 h6 => by
      obtain ⟨c, hc, rfl, j, hj, rfl⟩ := key h
      rw [iN_nat (by omega), ← h6]; exact e13_workOf (by rw [h6]; exact hI) (by rw [h6]; exact hc) hj)
  refine ⟨_, w1, ?_, b, w2, ?_, b2⟩
  · unfold sL_work sX12_work
    rw [e6_hasWork hR hI, ob, show (8 : Int32) = iN (7 + 1) from rfl, e1_ofValue (by decide), ob]
    exact a1
  · show sX13_work w1 l1 l2 = _
    have hI1 : Iv T 12 (w1 372) := by rw [a2]; exact hI
    have e : sX13_work w1 l1 l2 = sX13_work_28 w1 l1 l2 (ksel 1 2 0 (ok (nW (w 372)) l1) (rng 0 7 l2) true) := by
      unfold sX13_work
      rw [e13_isWork hI1, ob, e13_rng, ob, a2]
      cases ok (nW (w 372)) l1
      · simp only [iF, ks1]
      · cases rng 0 7 l2
        · simp only [iF, iT, if_true, ks2]
        · simp only [iT, if_true, ks0]
    rw [e]
    exact b1
theorem b_venue (hA : AL T w) (hT : T + 40000 ≤ 1000000000) (l1 l2 : Int32) : OPR T w (sL_venue w l1 l2) (fun w1 => sX13_venue w1 l1 l2) := by
  have hR := hA.1
  have hI := hA.2.1
  have h12 := hI.iv8
  have key : f3 (ok (nV (w 372)) l1) (rng 0 8 l2) true = 0 → ∃ c, c < nV (w 372) ∧ l1 = iN c ∧ ∃ j, j < 9 ∧ l2 = iN j := fun h => by
    obtain ⟨c, hc, e⟩ := ok_inv (by omega) (f3_0 h).1
    obtain ⟨j, -, hj, e2⟩ := rng_n (a := 0) (b := 8) (by decide) (by decide) (f3_0 h).2.1
    exact ⟨c, hc, e, j, by omega, e2⟩
  obtain ⟨w1, a1, a2, b, w2, b1, b2⟩ := op_qry hA hT (v := aVenue (w 372) l1.toNatClampNeg l2) (CK_12 (e := ok (nV (w 372)) l1) (r := rng 0 8 l2)) (sX8_ofVenue w l1 l2) (fun w6 => sX13_venueOfWhat w6 l1 l2)
    (fun h => by
      obtain ⟨c, hc, rfl, j, hj, rfl⟩ := key h
      rw [iN_nat (by omega)]; exact e8_ofVenue hR hI hc _)
    (fun h w6 h6 => by
      obtain ⟨c, hc, rfl, j, hj, rfl⟩ := key h
      rw [iN_nat (by omega), ← h6]; exact e13_venueOfWhat (by rw [h6]; exact hI) (by rw [h6]; exact hc) hj)
  refine ⟨_, w1, ?_, b, w2, ?_, b2⟩
  · unfold sL_venue sX12_venue
    rw [e6_hasVenue hR hI, ob, show (9 : Int32) = iN (8 + 1) from rfl, e1_ofValue (by decide), ob]
    exact a1
  · show sX13_venue w1 l1 l2 = _
    have hI1 : Iv T 12 (w1 372) := by rw [a2]; exact hI
    have e : sX13_venue w1 l1 l2 = sX13_venue_28 w1 l1 l2 (ksel 1 2 0 (ok (nV (w 372)) l1) (rng 0 8 l2) true) := by
      unfold sX13_venue
      rw [e13_isVenue hI1, ob, e13_rng, ob, a2]
      cases ok (nV (w 372)) l1
      · simp only [iF, ks1]
      · cases rng 0 8 l2
        · simp only [iF, iT, if_true, ks2]
        · simp only [iT, if_true, ks0]
    rw [e]
    exact b1
theorem b_whole (hA : AL T w) (hT : T + 40000 ≤ 1000000000) (l1 : Int32) : OPR T w (sL_whole w l1) (fun w1 => sX13_whole w1 l1) := by
  have hR := hA.1
  have hI := hA.2.1
  have key : f3 true (rng 0 9 l1) true = 0 → ∃ j, j < 10 ∧ l1 = iN j := fun h => by
    obtain ⟨j, -, hj, e2⟩ := rng_n (a := 0) (b := 9) (by decide) (by decide) (f3_0 h).2.1
    exact ⟨j, by omega, e2⟩
  obtain ⟨w1, a1, a2, b, w2, b1, b2⟩ := op_qry hA hT (v := aWhole (w 372) l1) (CK_f3 (e := true) (r := rng 0 9 l1) (s := true) (c1 := none) (c2 := some 1) (c3 := none) (k1 := 0) (k2 := 1) (k3 := 0) (Or.inl rfl) (Or.inr ⟨rfl, by decide⟩) (Or.inl rfl)) (sX8_ofWhole w l1) (fun w6 => sX13_wholeOf w6 l1)
    (fun h => e8_ofWhole hR hI l1)
    (fun h w6 h6 => by
      obtain ⟨j, hj, rfl⟩ := key h
      rw [← h6]; exact e13_wholeOf (by rw [h6]; exact hI) hj)
  refine ⟨_, w1, ?_, b, w2, ?_, b2⟩
  · unfold sL_whole sX12_whole
    have e : sX1_ofValue w (1 : Int32) l1 (10 : Int32) = some (f3 true (rng 0 9 l1) true) := e1_ofValue (w := w) (e := true) (l := l1) (N := 9) (by decide)
    rw [e, ob]
    exact a1
  · show sX13_whole w1 l1 = _
    have e : sX13_whole w1 l1 = sX13_whole_16 w1 l1 (ksel 0 1 0 true (rng 0 9 l1) true) := by
      unfold sX13_whole
      rw [e13_rng, ob]
      cases rng 0 9 l1
      · simp only [iF, ks2]
      · simp only [iT, if_true, ks0]
    rw [e]
    exact b1
theorem e1_ofNoted (hR : Rl w 1 m) (hI : Iv T 12 m) {l1 l2 : Int32} : sX1_ofNoted w l1 l2 = some (f3 (ok (nW m) l1) (if l2 < 0 then false else true) true) := by
  unfold sX1_ofNoted
  rw [e6_hasWork hR hI, ob]
  by_cases h : l2 < 0
  · rw [if_pos h, if_pos h]; cases ok (nW m) l1 <;> rfl
  · rw [if_neg h, if_neg h]; cases ok (nW m) l1 <;> rfl
theorem b_noted (hA : AL T w) (hT : T + 40000 ≤ 1000000000) (l1 l2 : Int32) : OPR T w (sL_noted w l1 l2) (fun w1 => sX13_noted w1 l1 l2) := by
  have hR := hA.1
  have hI := hA.2.1
  have h12 := hI.iw16
  have key : f3 (ok (nW (w 372)) l1) (if l2 < 0 then false else true) true = 0 → ∃ c, c < nW (w 372) ∧ l1 = iN c ∧ ¬ l2 < 0 := fun h => by
    obtain ⟨c, hc, e⟩ := ok_inv (by omega) (f3_0 h).1
    refine ⟨c, hc, e, fun q => ?_⟩
    have := (f3_0 h).2.1
    rw [if_pos q] at this; cases this
  obtain ⟨w1, a1, a2, b, w2, b1, b2⟩ := op_qry hA hT (v := aNoted (w 372) l1.toNatClampNeg l2) (CK_12 (e := ok (nW (w 372)) l1) (r := if l2 < 0 then false else true)) ((idx l1 16).bind (fun c3 => sX11_placeNoted w (41 + 2 * c3) l2)) (fun w6 => sX13_notedOf w6 l1 l2)
    (fun h => by
      obtain ⟨c, hc, rfl, hl⟩ := key h
      rw [iN_nat (by omega), idx_iN (by omega) (by decide), ob]; exact e11_placeNoted hR hI hc hl)
    (fun h w6 h6 => by
      obtain ⟨c, hc, rfl, hl⟩ := key h
      rw [iN_nat (by omega), ← h6]; exact e13_notedOf (by rw [h6]; exact hI) (by rw [h6]; exact hc) hl)
  refine ⟨_, w1, ?_, b, w2, ?_, b2⟩
  · unfold sL_noted sX12_noted
    rw [e1_ofNoted hR hI, ob]
    rw [Option.bind_assoc] at a1
    exact a1
  · show sX13_noted w1 l1 l2 = _
    have hI1 : Iv T 12 (w1 372) := by rw [a2]; exact hI
    have e : sX13_noted w1 l1 l2 = sX13_noted_22 w1 l1 l2 (ksel 1 2 0 (ok (nW (w 372)) l1) (if l2 < 0 then false else true) true) := by
      unfold sX13_noted
      rw [e13_isWork hI1, ob, a2]
      cases ok (nW (w 372)) l1
      · simp only [iF, ks1]
      · simp only [iT, if_true]
        by_cases h : l2 < 0
        · rw [if_neg (Int32.not_le.mpr h), if_pos h, ks2]
        · rw [if_pos (Int32.not_lt.mp h), if_neg h, ks0]
    rw [e]
    exact b1
theorem e1_ofNumber {e : Bool} : sX1_ofNumber w (bI e) = some (f3 e true true) := by cases e <;> rfl
theorem b_courier (hA : AL T w) (hT : T + 40000 ≤ 1000000000) (l1 : Int32) : OPR T w (sL_courier w l1) (fun w1 => sX13_courier w1 l1) := by
  have hR := hA.1
  have hI := hA.2.1
  have h12 := hI.ik4
  have key : f3 (ok (nK (w 372)) l1) true true = 0 → ∃ c, c < nK (w 372) ∧ l1 = iN c := fun h => ok_inv (by omega) (f3_0 h).1
  obtain ⟨w1, a1, a2, b, w2, b1, b2⟩ := op_qry hA hT (v := co (w 372) l1.toNatClampNeg) (CK_1 (e := ok (nK (w 372)) l1)) ((idx l1 4).bind (fun c5 => some (w 5 c5))) (fun w6 => (idx ((137 : Int32) + ((2 : Int32) * l1)) 541).bind (fun c4 => some (w6 372 c4)))
    (fun h => by
      obtain ⟨c, hc, rfl⟩ := key h
      rw [iN_nat (by omega), idx_iN (by omega) (by decide), ob, hR.k (by omega)])
    (fun h w6 h6 => by
      obtain ⟨c, hc, rfl⟩ := key h
      rw [iN_nat (by omega)]
      show Option.bind _ _ = _
      rw [ix_co (by omega), ob, h6]; rfl)
  refine ⟨_, w1, ?_, b, w2, ?_, b2⟩
  · unfold sL_courier sX12_courier
    rw [e6_hasCourier hR hI, ob, e1_ofNumber, ob]
    rw [Option.bind_assoc] at a1
    exact a1
  · show sX13_courier w1 l1 = _
    have hI1 : Iv T 12 (w1 372) := by rw [a2]; exact hI
    have e : sX13_courier w1 l1 = sX13_courier_14 w1 l1 (ksel 1 0 0 (ok (nK (w 372)) l1) true true) := by
      unfold sX13_courier
      rw [e13_isCourier hI1, ob, a2]
      cases ok (nK (w 372)) l1
      · simp only [iF, ks1]
      · simp only [iT, if_true, ks0]
    rw [e]
    rw [Option.bind_assoc] at b1
    exact b1
theorem b_refusal (hA : AL T w) (hT : T + 40000 ≤ 1000000000) (l1 l2 l3 : Int32) : OPR T w (sL_refusal w l1 l2 l3) (fun w1 => sX13_refusal w1 l1 l2 l3) := by
  have hR := hA.1
  have hI := hA.2.1
  have h12 := hI.ic12
  have h8 := hI.iv8
  have h4 := hI.ik4
  have key : f3 (ok (nC (w 372)) l1 && (ok (nV (w 372)) l2 && okx (nK (w 372)) l3)) true true = 0 → ∃ c d, c < nC (w 372) ∧ d < nV (w 372) ∧ l1 = iN c ∧ l2 = iN d ∧ ptr (nK (w 372)) l3 := fun h => by
    obtain ⟨a, a2⟩ := band (f3_0 h).1
    obtain ⟨a2, a3⟩ := band a2
    obtain ⟨c, hc, e⟩ := ok_inv (by omega) a
    obtain ⟨d, hd, e2⟩ := ok_inv (by omega) a2
    exact ⟨c, d, hc, hd, e, e2, okx_inv (by omega) a3⟩
  obtain ⟨w1, a1, a2, b, w2, b1, b2⟩ := op_qry hA hT (v := aReason (w 372) l1.toNatClampNeg l2.toNatClampNeg l3) (CK_1 (e := ok (nC (w 372)) l1 && (ok (nV (w 372)) l2 && okx (nK (w 372)) l3))) (sX1_reasonAgainst w l1 l2 l3) (fun w6 => sX13_reason w6 l1 l2 l3)
    (fun h => by
      obtain ⟨c, d, hc, hd, rfl, rfl, hx⟩ := key h
      rw [iN_nat (by omega), iN_nat (by omega)]; exact e1_reasonAgainst hR hI hc hd hx)
    (fun h w6 h6 => by
      obtain ⟨c, d, hc, hd, rfl, rfl, hx⟩ := key h
      rw [iN_nat (by omega), iN_nat (by omega), ← h6]; exact e13_reason (by rw [h6]; exact hI) (by rw [h6]; exact hc) (by rw [h6]; exact hd) (by rw [h6]; exact hx))
  refine ⟨_, w1, ?_, b, w2, ?_, b2⟩
  · unfold sL_refusal sX12_refusal
    rw [e1_ofLeg hR hI, ob]
    have e : (if (ok (nC (w 372)) l1 && (ok (nV (w 372)) l2 && okx (nK (w 372)) l3)) = true then (0 : Int32) else 1) = f3 (ok (nC (w 372)) l1 && (ok (nV (w 372)) l2 && okx (nK (w 372)) l3)) true true := by
      cases (ok (nC (w 372)) l1 && (ok (nV (w 372)) l2 && okx (nK (w 372)) l3)) <;> rfl
    rw [e]
    exact a1
  · show sX13_refusal w1 l1 l2 l3 = _
    have hI1 : Iv T 12 (w1 372) := by rw [a2]; exact hI
    have e : sX13_refusal w1 l1 l2 l3 = sX13_refusal_16 w1 l1 l2 l3 (ksel 1 0 0 (ok (nC (w 372)) l1 && (ok (nV (w 372)) l2 && okx (nK (w 372)) l3)) true true) := by
      unfold sX13_refusal
      rw [e13_isSending hI1, ob, a2]
      cases (ok (nC (w 372)) l1 && (ok (nV (w 372)) l2 && okx (nK (w 372)) l3))
      · simp only [iF, ks1]
      · simp only [iT, if_true, ks0]
    rw [e]
    exact b1
theorem b_readyAt (hA : AL T w) (hT : T + 40000 ≤ 1000000000) (l1 : Int32) : OPR T w (sL_readyAt w l1) (fun w1 => sX13_readyAt w1 l1) := by
  have hR := hA.1
  have hI := hA.2.1
  have h12 := hI.iw16
  have key : f3 (ok (nW (w 372)) l1) true true = 0 → ∃ c, c < nW (w 372) ∧ l1 = iN c := fun h => ok_inv (by omega) (f3_0 h).1
  obtain ⟨w1, a1, a2, b, w2, b1, b2⟩ := op_scr hA hT (v := aReady (w 372) l1.toNatClampNeg) (CK_1 (e := ok (nW (w 372)) l1)) (sX5_timeOfWork w l1) (fun w6 => (sX13_ready w6 l1).bind (fun r4 => some (r4.1, r4.2)))
    (fun h => by
      obtain ⟨c, hc, rfl⟩ := key h
      rw [iN_nat (by omega)]; exact e5_timeOfWork hR hI hc)
    (fun h w6 h6 => by
      obtain ⟨c, hc, rfl⟩ := key h
      rw [iN_nat (by omega), ← h6]
      obtain ⟨w7, q1, q2⟩ := e13_ready (w := w6) (T := T) (z := 12) (by rw [h6]; exact hI) (show c < nW (w6 372) by rw [h6]; exact hc)
      exact ⟨w7, by show Option.bind _ _ = _; rw [q1, ob], q2⟩)
  refine ⟨_, w1, ?_, b, w2, ?_, b2⟩
  · unfold sL_readyAt sX12_readyAt
    rw [e6_hasWork hR hI, ob, e1_ofNumber, ob]
    exact a1
  · show sX13_readyAt w1 l1 = _
    have hI1 : Iv T 12 (w1 372) := by rw [a2]; exact hI
    have e : sX13_readyAt w1 l1 = sX13_readyAt_14 w1 l1 (ksel 1 0 0 (ok (nW (w 372)) l1) true true) := by
      unfold sX13_readyAt
      rw [e13_isWork hI1, ob, a2]
      cases ok (nW (w 372)) l1
      · simp only [iF, ks1]
      · simp only [iT, if_true, ks0]
    rw [e]
    exact b1
theorem b_allReadyAt (hA : AL T w) (hT : T + 40000 ≤ 1000000000) (l1 : Int32) : OPR T w (sL_allReadyAt w l1) (fun w1 => sX13_allReadyAt w1 l1) := by
  have hR := hA.1
  have hI := hA.2.1
  have h12 := hI.ic12
  have key : f3 (ok (nC (w 372)) l1) true true = 0 → ∃ c, c < nC (w 372) ∧ l1 = iN c := fun h => ok_inv (by omega) (f3_0 h).1
  obtain ⟨w1, a1, a2, b, w2, b1, b2⟩ := op_scr hA hT (v := aAll (w 372) l1) (CK_1 (e := ok (nC (w 372)) l1)) (sX5_timeOfCrate w l1) (fun w6 => (sX13_allReady w6 l1).bind (fun r4 => some (r4.1, r4.2)))
    (fun h => e5_timeOfCrate hR hI l1)
    (fun h w6 h6 => by
      obtain ⟨c, hc, rfl⟩ := key h
      rw [← h6]
      obtain ⟨w7, q1, q2⟩ := e13_allReady (w := w6) (T := T) (z := 12) (by rw [h6]; exact hI) (show c < nC (w6 372) by rw [h6]; exact hc)
      exact ⟨w7, by show Option.bind _ _ = _; rw [q1, ob], q2⟩)
  refine ⟨_, w1, ?_, b, w2, ?_, b2⟩
  · unfold sL_allReadyAt sX12_allReadyAt
    rw [e6_hasCrate hR hI, ob, e1_ofNumber, ob]
    exact a1
  · show sX13_allReadyAt w1 l1 = _
    have hI1 : Iv T 12 (w1 372) := by rw [a2]; exact hI
    have e : sX13_allReadyAt w1 l1 = sX13_allReadyAt_14 w1 l1 (ksel 1 0 0 (ok (nC (w 372)) l1) true true) := by
      unfold sX13_allReadyAt
      rw [e13_isCrate hI1, ob, a2]
      cases ok (nC (w 372)) l1
      · simp only [iF, ks1]
      · simp only [iT, if_true, ks0]
    rw [e]
    exact b1
theorem b_bestVenue (hA : AL T w) (hT : T + 40000 ≤ 1000000000) (l1 l2 : Int32) : OPR T w (sL_bestVenue w l1 l2) (fun w1 => sX13_bestVenue w1 l1 l2) := by
  have hR := hA.1
  have hI := hA.2.1
  have h12 := hI.ic12
  have h4 := hI.ik4
  have key : f3 (ok (nC (w 372)) l1 && okx (nK (w 372)) l2) true true = 0 → ∃ c, c < nC (w 372) ∧ l1 = iN c ∧ ptr (nK (w 372)) l2 := fun h => by
    obtain ⟨a, a2⟩ := band (f3_0 h).1
    obtain ⟨c, hc, e⟩ := ok_inv (by omega) a
    exact ⟨c, hc, e, okx_inv (by omega) a2⟩
  obtain ⟨w1, a1, a2, b, w2, b1, b2⟩ := op_scr hA hT (v := (aBest (w 372) l1.toNatClampNeg l2).1) (CK_1 (e := ok (nC (w 372)) l1 && okx (nK (w 372)) l2)) (sX5_soonestVenue w l1 l2) (fun w6 => sX13_bestVenue_47 FU w6 l1 l2 (-1 : Int32) (0 : Int32) (0 : Int32))
    (fun h => by
      obtain ⟨c, hc, rfl, hx⟩ := key h
      rw [iN_nat (by omega)]; exact e5_soonestVenue hR hI hc hx)
    (fun h w6 h6 => by
      obtain ⟨c, hc, rfl, hx⟩ := key h
      rw [iN_nat (by omega), ← h6]
      exact e13_bestVenue_47 (T := T) (z := 12) (by rw [h6]; exact hI) (by rw [h6]; exact hc) (by rw [h6]; exact hx))
  refine ⟨_, w1, ?_, b, w2, ?_, b2⟩
  · unfold sL_bestVenue sX12_bestVenue
    rw [e6_hasCrate hR hI, ob]
    cases h1 : ok (nC (w 372)) l1
    · rw [h1] at a1
      simp only [iF, iT]
      exact a1
    · rw [h1] at a1
      simp only [iF, iT, if_true]
      have e6 : sX6_isCourierOrNone w l2 = some (okx (nK (w 372)) l2) := e6_isCourierOrNone hR hI l2
      rw [e6, ob]
      cases h2 : okx (nK (w 372)) l2
      · rw [h2] at a1
        simp only [iF, iT]
        exact a1
      · rw [h2] at a1
        simp only [iF, iT, if_true]
        exact a1
  · show sX13_bestVenue w1 l1 l2 = _
    have hI1 : Iv T 12 (w1 372) := by rw [a2]; exact hI
    have e : sX13_bestVenue w1 l1 l2 = sX13_bestVenue_27 w1 l1 l2 (ksel 1 0 0 (ok (nC (w 372)) l1 && okx (nK (w 372)) l2) true true) := by
      unfold sX13_bestVenue okx
      rw [e13_isCrate hI1, ob, a2]
      cases ok (nC (w 372)) l1
      · simp only [iF, ks1, Bool.false_and]
      · simp only [iT, if_true, Bool.true_and]
        by_cases h : l2 = -1
        · rw [if_pos h, if_pos h, ks0]
        · rw [if_neg h, if_neg h, e13_isCourier hI1, ob, a2]
          cases ok (nK (w 372)) l2
          · simp only [iF, ks1]
          · simp only [iT, if_true, ks0]
    rw [e]
    exact b1
end BQ
