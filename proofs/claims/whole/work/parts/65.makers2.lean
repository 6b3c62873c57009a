/-! BOTH SIDES: makers and setters, the steps. Written by wip/whole/pure/p65.py -/
section BN
variable {w : Wl} {T : Nat} {m : Nat → Int32}
theorem ix_v1 {c : Nat} (hc : c < 8) : idx (((9 : Int32) + ((13 : Int32) * iN c)) + (1 : Int32)) 541 = some (9 + 13 * c + 1) := ix_vn (j := 1) hc (by decide)
theorem ix_v2 {c : Nat} (hc : c < 8) : idx (((9 : Int32) + ((13 : Int32) * iN c)) + (2 : Int32)) 541 = some (9 + 13 * c + 2) := ix_vn (j := 2) hc (by decide)
theorem ix_v3 {c : Nat} (hc : c < 8) : idx (((9 : Int32) + ((13 : Int32) * iN c)) + (3 : Int32)) 541 = some (9 + 13 * c + 3) := ix_vn (j := 3) hc (by decide)
theorem ix_way {a b : Nat} (ha : a < 8) (hb : b < 8) : idx ((((9 : Int32) + ((13 : Int32) * iN a)) + (5 : Int32)) + iN b) 541 = some (9 + 13 * a + (5 + b)) := by
  rw [Int32.add_assoc, show (5 : Int32) = iN 5 from rfl, iN_add]
  exact ix_vn ha (by omega)
theorem pw0 {c : Nat} {v : Int32} (hc : c < 16) : sX13_putWork w (iN c) (0 : Int32) v = some (wst w 372 (253 + 18 * c + 0) v) := e13_putWork hc (by decide : 0 < 18)
theorem pw1 {c : Nat} {v : Int32} (hc : c < 16) : sX13_putWork w (iN c) (1 : Int32) v = some (wst w 372 (253 + 18 * c + 1) v) := e13_putWork hc (by decide : 1 < 18)
theorem pw2 {c : Nat} {v : Int32} (hc : c < 16) : sX13_putWork w (iN c) (2 : Int32) v = some (wst w 372 (253 + 18 * c + 2) v) := e13_putWork hc (by decide : 2 < 18)
theorem pw3 {c : Nat} {v : Int32} (hc : c < 16) : sX13_putWork w (iN c) (3 : Int32) v = some (wst w 372 (253 + 18 * c + 3) v) := e13_putWork hc (by decide : 3 < 18)
theorem pw4 {c : Nat} {v : Int32} (hc : c < 16) : sX13_putWork w (iN c) (4 : Int32) v = some (wst w 372 (253 + 18 * c + 4) v) := e13_putWork hc (by decide : 4 < 18)
theorem pw5 {c : Nat} {v : Int32} (hc : c < 16) : sX13_putWork w (iN c) (5 : Int32) v = some (wst w 372 (253 + 18 * c + 5) v) := e13_putWork hc (by decide : 5 < 18)
theorem pw6 {c : Nat} {v : Int32} (hc : c < 16) : sX13_putWork w (iN c) (6 : Int32) v = some (wst w 372 (253 + 18 * c + 6) v) := e13_putWork hc (by decide : 6 < 18)
theorem pw7 {c : Nat} {v : Int32} (hc : c < 16) : sX13_putWork w (iN c) (7 : Int32) v = some (wst w 372 (253 + 18 * c + 7) v) := e13_putWork hc (by decide : 7 < 18)
theorem b_addVenue (hA : AL T w) (hT : T + 40000 ≤ 1000000000) (l1 l2 l3 l4 : Int32) : OPR T w (sL_addVenue w l1 l2 l3 l4) (fun w1 => sX13_addVenue w1 l1 l2 l3 l4) := by
  have hR := hA.1
  have hI := hA.2.1
  have h12 := hI.ic12
  have h16 := hI.iw16
  have h8 := hI.iv8
  have h4 := hI.ik4
  have key : f3 (true) (clB l1 l2 && (rng 0 500 l3 && rng 0 10000000 l4)) (room (nV (w 372)) 8) = 0 → clim l1 l2 ∧ nV (w 372) < 8 := fun h => by
    obtain ⟨he, hr, hs⟩ := f3_0 h
    exact ⟨clB_t (band hr).1, room_t hs⟩
  obtain ⟨w1, a1, a2, b, w2, b1, b2⟩ := op_mut hA hT (v := w 372 1) (m := dVenue (w 372) l1 l2 l3 l4) (CK_f3 (e := true) (r := clB l1 l2 && (rng 0 500 l3 && rng 0 10000000 l4)) (s := room (nV (w 372)) 8) (c1 := none) (c2 := some 1) (c3 := some 2) (k1 := 0) (k2 := 1) (k3 := 2) (Or.inl rfl) (Or.inr ⟨rfl, by decide⟩) (Or.inr ⟨rfl, by decide⟩)) (fun r3 => sX4_makeVenue r3 l1 l2 l3 l4) (fun r4 => (idx ((9 : Int32) + ((13 : Int32) * (r4 372 1))) 541).bind (fun c8 => (idx (((9 : Int32) + ((13 : Int32) * (r4 372 1))) + (1 : Int32)) 541).bind (fun c12 => (idx (((9 : Int32) + ((13 : Int32) * (r4 372 1))) + (2 : Int32)) 541).bind (fun c16 => (idx (((9 : Int32) + ((13 : Int32) * (r4 372 1))) + (3 : Int32)) 541).bind (fun c20 => some ((((wst (wst (wst (wst (wst r4 372 c8 l1) 372 c12 l2) 372 c16 l3) 372 c20 l4) 372 1 (((wst (wst (wst (wst r4 372 c8 l1) 372 c12 l2) 372 c16 l3) 372 c20 l4) 372 1) + (1 : Int32))) 372 1) - (1 : Int32)), (wst (wst (wst (wst (wst r4 372 c8 l1) 372 c12 l2) 372 c16 l3) 372 c20 l4) 372 1 (((wst (wst (wst (wst r4 372 c8 l1) 372 c12 l2) 372 c16 l3) 372 c20 l4) 372 1) + (1 : Int32)))))))))
    (fun h w3 R3 => by
      obtain ⟨hc, hn⟩ := key h
      obtain ⟨w4, q1, q2, q3⟩ := c_makeVenue R3 hI hn
      exact ⟨w4, q1, q2, q3⟩
      )
    (fun h w6 h6 => by
      obtain ⟨hc, hn⟩ := key h
      show ∃ w7, Option.bind _ _ = _ ∧ _
      rw [h6, hI.iv, ix_v0 hn, ob, ix_v1 hn, ob, ix_v2 hn, ob, ix_v3 hn, ob]
      have e1 : (wst (wst (wst (wst w6 372 (9 + 13 * nV (w 372)) l1) 372 (9 + 13 * nV (w 372) + 1) l2) 372 (9 + 13 * nV (w 372) + 2) l3) 372 (9 + 13 * nV (w 372) + 3) l4) 372 1 = iN (nV (w 372)) := by
        rw [wS, wS, wS, wS, uN (by omega), uN (by omega), uN (by omega), uN (by omega), h6]; exact hI.iv
      rw [e1, iN_s]
      refine ⟨_, congrArg some (Prod.ext ?_ rfl), ?_, fun r h => by rw [wN h, wN h, wN h, wN h, wN h]⟩
      · show wst _ 372 1 _ 372 1 - 1 = _
        rw [wS, uS, iN_p]
      · rw [wS, wS, wS, wS, wS, h6]; rfl
      )
    (fun h => by
      obtain ⟨hc, hn⟩ := key h
      exact (i_dVenue hI hn hc).mT (by omega) hT
      )
  refine ⟨_, w1, ?_, b, w2, ?_, b2⟩
  · unfold sL_addVenue sX12_addVenue
    rw [e1_newVenue hR hI, ob]
    exact a1
  · show sX13_addVenue w1 l1 l2 l3 l4 = _
    rw [e13_addVenue (show Iv T 12 (w1 372) by rw [a2]; exact hI)]
    unfold sX13_addVenue_63
    first | exact b1 | (rw [a2]; exact b1)
theorem b_setClimate (hA : AL T w) (hT : T + 40000 ≤ 1000000000) (l1 l2 l3 : Int32) : OPR T w (sL_setClimate w l1 l2 l3) (fun w1 => sX13_setClimate w1 l1 l2 l3) := by
  have hR := hA.1
  have hI := hA.2.1
  have h12 := hI.ic12
  have h16 := hI.iw16
  have h8 := hI.iv8
  have h4 := hI.ik4
  have key : f3 (ok (nV (w 372)) l1) (clB l2 l3) (true) = 0 → ∃ c, c < nV (w 372) ∧ l1 = iN c ∧ clim l2 l3 := fun h => by
    obtain ⟨he, hr, hs⟩ := f3_0 h
    obtain ⟨c, hc, e⟩ := ok_inv (by omega) he
    exact ⟨c, hc, e, clB_t hr⟩
  obtain ⟨w1, a1, a2, b, w2, b1, b2⟩ := op_mut hA hT (v := (1000 : Int32) * vn (w 372) l1.toNatClampNeg 0 + vn (w 372) l1.toNatClampNeg 1) (m := dClimate (w 372) l1.toNatClampNeg l2 l3) (CK_f3 (e := ok (nV (w 372)) l1) (r := clB l2 l3) (s := true) (c1 := some 1) (c2 := some 2) (c3 := none) (k1 := 1) (k2 := 2) (k3 := 0) (Or.inr ⟨rfl, by decide⟩) (Or.inr ⟨rfl, by decide⟩) (Or.inl rfl)) (fun r3 => sX4_changeClimate r3 l1 l2 l3) (fun r4 => (idx ((9 : Int32) + ((13 : Int32) * l1)) 541).bind (fun c8 => (idx (((9 : Int32) + ((13 : Int32) * l1)) + (1 : Int32)) 541).bind (fun c10 => some ((((1000 : Int32) * (r4 372 c8)) + (r4 372 c10)), (wst (wst r4 372 c8 l2) 372 c10 l3)))))
    (fun h w3 R3 => by
      obtain ⟨c, hc, rfl, hm⟩ := key h
      rw [iN_nat (by omega)]
      obtain ⟨w4, q1, q2, q3⟩ := c_changeClimate R3 hI hc
      exact ⟨w4, q1, q2, q3⟩
      )
    (fun h w6 h6 => by
      obtain ⟨c, hc, rfl, hm⟩ := key h
      rw [iN_nat (by omega)]
      show ∃ w7, Option.bind _ _ = _ ∧ _
      rw [ix_v0 (show c < 8 by omega), ob, ix_v1 (show c < 8 by omega), ob, h6]
      refine ⟨_, congrArg some (Prod.ext rfl rfl), ?_, fun r h => by rw [wN h, wN h]⟩
      rw [wS, wS, h6]; rfl
      )
    (fun h => by
      obtain ⟨c, hc, rfl, hm⟩ := key h
      rw [iN_nat (by omega)]
      exact (i_dClimate hI hc hm).mT (by omega) hT
      )
  refine ⟨_, w1, ?_, b, w2, ?_, b2⟩
  · unfold sL_setClimate sX12_setClimate
    rw [e1_ofClimate' hR hI, ob]
    exact a1
  · show sX13_setClimate w1 l1 l2 l3 = _
    rw [e13_setClimate (show Iv T 12 (w1 372) by rw [a2]; exact hI)]
    unfold sX13_setClimate_26
    first | exact b1 | (rw [a2]; exact b1)
theorem b_setWay (hA : AL T w) (hT : T + 40000 ≤ 1000000000) (l1 l2 l3 : Int32) : OPR T w (sL_setWay w l1 l2 l3) (fun w1 => sX13_setWay w1 l1 l2 l3) := by
  have hR := hA.1
  have hI := hA.2.1
  have h12 := hI.ic12
  have h16 := hI.iw16
  have h8 := hI.iv8
  have h4 := hI.ik4
  have key : f3 (ok (nV (w 372)) l1 && ok (nV (w 372)) l2) (if l1 = l2 then false else rng 0 200 l3) (true) = 0 → ∃ c d, c < nV (w 372) ∧ d < nV (w 372) ∧ ∃ g, g ≤ 200 ∧ c ≠ d ∧ l1 = iN c ∧ l2 = iN d ∧ l3 = iN g := fun h => by
    obtain ⟨he, hr, hs⟩ := f3_0 h
    obtain ⟨e1, e2⟩ := band he
    obtain ⟨c, hc, e⟩ := ok_inv (by omega) e1
    obtain ⟨d, hd, e3⟩ := ok_inv (by omega) e2
    by_cases hn : l1 = l2
    · rw [if_pos hn] at hr; cases hr
    rw [if_neg hn] at hr
    obtain ⟨g, -, hg, e4⟩ := rng_n (a := 0) (b := 200) (by decide) (by decide) hr
    exact ⟨c, d, hc, hd, g, hg, fun q => hn (by rw [e, e3, q]), e, e3, e4⟩
  obtain ⟨w1, a1, a2, b, w2, b1, b2⟩ := op_mut hA hT (v := vn (w 372) l1.toNatClampNeg (5 + l2.toNatClampNeg)) (m := dWay (w 372) l1.toNatClampNeg l2.toNatClampNeg l3) (CK_f3 (e := ok (nV (w 372)) l1 && ok (nV (w 372)) l2) (r := if l1 = l2 then false else rng 0 200 l3) (s := true) (c1 := some 1) (c2 := some 2) (c3 := none) (k1 := 1) (k2 := 2) (k3 := 0) (Or.inr ⟨rfl, by decide⟩) (Or.inr ⟨rfl, by decide⟩) (Or.inl rfl)) (fun r3 => sX4_changeWay r3 l1 l2 l3) (fun r4 => (sX13_ofVenue r4 l1 ((5 : Int32) + l2)).bind (fun r8 => (idx ((((9 : Int32) + ((13 : Int32) * l1)) + (5 : Int32)) + l2) 541).bind (fun c10 => (idx ((((9 : Int32) + ((13 : Int32) * l2)) + (5 : Int32)) + l1) 541).bind (fun c14 => some (r8, (wst (wst r4 372 c10 l3) 372 c14 l3))))))
    (fun h w3 R3 => by
      obtain ⟨c, d, hc, hd, g, hg, hn, rfl, rfl, rfl⟩ := key h
      rw [iN_nat (by omega), iN_nat (by omega)]
      obtain ⟨w4, q1, q2, q3⟩ := c_changeWay R3 hI hc hd
      exact ⟨w4, q1, q2, q3⟩
      )
    (fun h w6 h6 => by
      obtain ⟨c, d, hc, hd, g, hg, hn, rfl, rfl, rfl⟩ := key h
      rw [iN_nat (by omega), iN_nat (by omega)]
      show ∃ w7, Option.bind _ _ = _ ∧ _
      rw [e13_way (show c < 8 by omega) (show d < 8 by omega), ob, ix_way (show c < 8 by omega) (show d < 8 by omega), ob, ix_way (show d < 8 by omega) (show c < 8 by omega), ob, h6]
      refine ⟨_, congrArg some (Prod.ext rfl rfl), ?_, fun r h => by rw [wN h, wN h]⟩
      rw [wS, wS, h6]; rfl
      )
    (fun h => by
      obtain ⟨c, d, hc, hd, g, hg, hn, rfl, rfl, rfl⟩ := key h
      rw [iN_nat (by omega), iN_nat (by omega)]
      exact (i_dWay hI hc hd hn hg).mT (by omega) hT
      )
  refine ⟨_, w1, ?_, b, w2, ?_, b2⟩
  · unfold sL_setWay sX12_setWay
    rw [e1_ofWay' hR hI, ob]
    exact a1
  · show sX13_setWay w1 l1 l2 l3 = _
    rw [e13_setWay (show Iv T 12 (w1 372) by rw [a2]; exact hI)]
    unfold sX13_setWay_42
    first | exact b1 | (rw [a2]; exact b1)
theorem b_setLender (hA : AL T w) (hT : T + 40000 ≤ 1000000000) (l1 l2 l3 : Int32) : OPR T w (sL_setLender w l1 l2 l3) (fun w1 => sX13_setLender w1 l1 l2 l3) := by
  have hR := hA.1
  have hI := hA.2.1
  have h12 := hI.ic12
  have h16 := hI.iw16
  have h8 := hI.iv8
  have h4 := hI.ik4
  have key : f3 (true) (rng 0 5 l1 && leB l2 l3) (true) = 0 → ∃ c d, c < 6 ∧ d < 4 ∧ l1 = iN c ∧ l2 = iN d := fun h => by
    obtain ⟨he, hr, hs⟩ := f3_0 h
    obtain ⟨e1, e2⟩ := band hr
    obtain ⟨c, -, hc, e⟩ := rng_n (a := 0) (b := 5) (by decide) (by decide) e1
    obtain ⟨d, hd, e3⟩ := leB_t e2
    exact ⟨c, d, by omega, hd, e, e3⟩
  obtain ⟨w1, a1, a2, b, w2, b1, b2⟩ := op_mut hA hT (v := ln (w 372) l1.toNatClampNeg l2.toNatClampNeg) (m := dLender (w 372) l1.toNatClampNeg l2.toNatClampNeg l3) (CK_f3 (e := true) (r := rng 0 5 l1 && leB l2 l3) (s := true) (c1 := none) (c2 := some 1) (c3 := none) (k1 := 0) (k2 := 1) (k3 := 0) (Or.inl rfl) (Or.inr ⟨rfl, by decide⟩) (Or.inl rfl)) (fun r3 => sX4_changeLender r3 l1 l2 l3) (fun r4 => (idx (((113 : Int32) + ((4 : Int32) * l1)) + l2) 541).bind (fun c8 => some ((r4 372 c8), (wst r4 372 c8 l3))))
    (fun h w3 R3 => by
      obtain ⟨c, d, hc, hd, rfl, rfl⟩ := key h
      rw [iN_nat (by omega), iN_nat (by omega)]
      obtain ⟨w4, q1, q2, q3⟩ := c_changeLender R3 hI hc hd
      exact ⟨w4, q1, q2, q3⟩
      )
    (fun h w6 h6 => by
      obtain ⟨c, d, hc, hd, rfl, rfl⟩ := key h
      rw [iN_nat (by omega), iN_nat (by omega)]
      show ∃ w7, Option.bind _ _ = _ ∧ _
      rw [ix_ln hc hd, ob, h6]
      refine ⟨_, congrArg some (Prod.ext rfl rfl), ?_, fun r h => by rw [wN h]⟩
      rw [wS, h6]; rfl
      )
    (fun h => by
      obtain ⟨c, d, hc, hd, rfl, rfl⟩ := key h
      rw [iN_nat (by omega), iN_nat (by omega)]
      exact (i_dLender hI hc hd).mT (by omega) hT
      )
  refine ⟨_, w1, ?_, b, w2, ?_, b2⟩
  · unfold sL_setLender sX12_setLender
    rw [e1_ofLender', ob]
    exact a1
  · show sX13_setLender w1 l1 l2 l3 = _
    rw [e13_setLender]
    unfold sX13_setLender_23
    first | exact b1 | (rw [a2]; exact b1)
theorem b_setWayRate (hA : AL T w) (hT : T + 40000 ≤ 1000000000) (l1 : Int32) : OPR T w (sL_setWayRate w l1) (fun w1 => sX13_setWayRate w1 l1) := by
  have hR := hA.1
  have hI := hA.2.1
  have h12 := hI.ic12
  have h16 := hI.iw16
  have h8 := hI.iv8
  have h4 := hI.ik4
  have key : f3 (true) (rng 0 5000 l1) (true) = 0 → True := fun h => by
    obtain ⟨he, hr, hs⟩ := f3_0 h
    trivial
  obtain ⟨w1, a1, a2, b, w2, b1, b2⟩ := op_mut hA hT (v := w 372 8) (m := dRate (w 372) l1) (CK_f3 (e := true) (r := rng 0 5000 l1) (s := true) (c1 := none) (c2 := some 1) (c3 := none) (k1 := 0) (k2 := 1) (k3 := 0) (Or.inl rfl) (Or.inr ⟨rfl, by decide⟩) (Or.inl rfl)) (fun r3 => sX4_changeWayRate r3 l1) (fun r4 => some ((r4 372 8), (wst r4 372 8 l1)))
    (fun h w3 R3 => by
      obtain ⟨⟩ := key h
      obtain ⟨w4, q1, q2, q3⟩ := c_changeWayRate R3 hI
      exact ⟨w4, q1, q2, q3⟩
      )
    (fun h w6 h6 => by
      obtain ⟨⟩ := key h
      refine ⟨_, congrArg some (Prod.ext (by rw [h6]) rfl), ?_, fun r h => wN h⟩
      show wst w6 372 8 l1 372 = _
      rw [wS, h6]; rfl
      )
    (fun h => by
      obtain ⟨⟩ := key h
      exact (i_dRate hI).mT (by omega) hT
      )
  refine ⟨_, w1, ?_, b, w2, ?_, b2⟩
  · unfold sL_setWayRate sX12_setWayRate
    rw [e1_ofRate', ob]
    exact a1
  · show sX13_setWayRate w1 l1 = _
    rw [e13_setWayRate]
    unfold sX13_setWayRate_17
    first | exact b1 | (rw [a2]; exact b1)
theorem b_addCourier (hA : AL T w) (hT : T + 40000 ≤ 1000000000) (l1 : Int32) : OPR T w (sL_addCourier w l1) (fun w1 => sX13_addCourier w1 l1) := by
  have hR := hA.1
  have hI := hA.2.1
  have h12 := hI.ic12
  have h16 := hI.iw16
  have h8 := hI.iv8
  have h4 := hI.ik4
  have key : f3 (ok (nV (w 372)) l1) (true) (room (nK (w 372)) 4) = 0 → ∃ c, c < nV (w 372) ∧ l1 = iN c ∧ nK (w 372) < 4 := fun h => by
    obtain ⟨he, hr, hs⟩ := f3_0 h
    obtain ⟨c, hc, e⟩ := ok_inv (by omega) he
    exact ⟨c, hc, e, room_t hs⟩
  obtain ⟨w1, a1, a2, b, w2, b1, b2⟩ := op_mut hA hT (v := w 372 4) (m := dCourier (w 372) l1.toNatClampNeg) (CK_f3 (e := ok (nV (w 372)) l1) (r := true) (s := room (nK (w 372)) 4) (c1 := some 1) (c2 := none) (c3 := some 2) (k1 := 1) (k2 := 0) (k3 := 2) (Or.inr ⟨rfl, by decide⟩) (Or.inl rfl) (Or.inr ⟨rfl, by decide⟩)) (fun r3 => sX4_makeCourier r3 l1) (fun r4 => (idx ((137 : Int32) + ((2 : Int32) * (r4 372 4))) 541).bind (fun c8 => (idx (((137 : Int32) + ((2 : Int32) * ((wst r4 372 c8 l1) 372 4))) + (1 : Int32)) 541).bind (fun c12 => some ((((wst (wst (wst r4 372 c8 l1) 372 c12 (-1 : Int32)) 372 4 (((wst (wst r4 372 c8 l1) 372 c12 (-1 : Int32)) 372 4) + (1 : Int32))) 372 4) - (1 : Int32)), (wst (wst (wst r4 372 c8 l1) 372 c12 (-1 : Int32)) 372 4 (((wst (wst r4 372 c8 l1) 372 c12 (-1 : Int32)) 372 4) + (1 : Int32)))))))
    (fun h w3 R3 => by
      obtain ⟨c, hc, rfl, hn⟩ := key h
      rw [iN_nat (by omega)]
      obtain ⟨w4, q1, q2, q3⟩ := c_makeCourier R3 hI hn
      exact ⟨w4, q1, q2, q3⟩
      )
    (fun h w6 h6 => by
      obtain ⟨c, hc, rfl, hn⟩ := key h
      rw [iN_nat (by omega)]
      show ∃ w7, Option.bind _ _ = _ ∧ _
      rw [h6, hI.ik, ix_co hn, ob]
      have e0 : (wst w6 372 (137 + 2 * nK (w 372)) (iN c)) 372 4 = iN (nK (w 372)) := by rw [wS, uN (by omega), h6]; exact hI.ik
      rw [e0, ix_tg hn, ob]
      have e1 : (wst (wst w6 372 (137 + 2 * nK (w 372)) (iN c)) 372 (137 + 2 * nK (w 372) + 1) (-1 : Int32)) 372 4 = iN (nK (w 372)) := by rw [wS, uN (by omega), e0]
      rw [e1, iN_s]
      refine ⟨_, congrArg some (Prod.ext ?_ rfl), ?_, fun r h => by rw [wN h, wN h, wN h]⟩
      · show wst _ 372 4 _ 372 4 - 1 = _
        rw [wS, uS, iN_p]
      · rw [wS, wS, wS, h6]; rfl
      )
    (fun h => by
      obtain ⟨c, hc, rfl, hn⟩ := key h
      rw [iN_nat (by omega)]
      exact (i_dCourier hI hc hn).mT (by omega) hT
      )
  refine ⟨_, w1, ?_, b, w2, ?_, b2⟩
  · unfold sL_addCourier sX12_addCourier
    rw [e1_newCourier hR hI, ob]
    exact a1
  · show sX13_addCourier w1 l1 = _
    rw [e13_addCourier (show Iv T 12 (w1 372) by rw [a2]; exact hI)]
    unfold sX13_addCourier_28
    first | exact b1 | (rw [a2]; exact b1)
theorem b_addCrate (hA : AL T w) (hT : T + 40000 ≤ 1000000000) (l1 l2 : Int32) : OPR T w (sL_addCrate w l1 l2) (fun w1 => sX13_addCrate w1 l1 l2) := by
  have hR := hA.1
  have hI := hA.2.1
  have h12 := hI.ic12
  have h16 := hI.iw16
  have h8 := hI.iv8
  have h4 := hI.ik4
  have key : f3 (ok (nV (w 372)) l1) (rng 1 4 l2) (room (nC (w 372)) 12) = 0 → ∃ c, c < nV (w 372) ∧ l1 = iN c ∧ nC (w 372) < 12 ∧ ∃ a, 1 ≤ a ∧ a ≤ 4 ∧ l2 = iN a := fun h => by
    obtain ⟨he, hr, hs⟩ := f3_0 h
    obtain ⟨c, hc, e⟩ := ok_inv (by omega) he
    exact ⟨c, hc, e, room_t hs, rng_n (a := 1) (b := 4) (by decide) (by decide) hr⟩
  obtain ⟨w1, a1, a2, b, w2, b1, b2⟩ := op_mut hA hT (v := w 372 2) (m := dCrate (w 372) l1.toNatClampNeg l2) (CK_f3 (e := ok (nV (w 372)) l1) (r := rng 1 4 l2) (s := room (nC (w 372)) 12) (c1 := some 1) (c2 := some 2) (c3 := some 3) (k1 := 1) (k2 := 2) (k3 := 3) (Or.inr ⟨rfl, by decide⟩) (Or.inr ⟨rfl, by decide⟩) (Or.inr ⟨rfl, by decide⟩)) (fun r3 => sX4_makeCrate r3 l1 l2) (fun r4 => (sX13_put (wst r4 372 2 ((r4 372 2) + (1 : Int32))) (r4 372 2) (0 : Int32) l2).bind (fun r10 => (sX13_put r10 (r4 372 2) (1 : Int32) (1 : Int32)).bind (fun r14 => (sX13_put r14 (r4 372 2) (2 : Int32) (-1 : Int32)).bind (fun r18 => (sX13_put r18 (r4 372 2) (3 : Int32) l1).bind (fun r22 => (sX13_put r22 (r4 372 2) (4 : Int32) (-1 : Int32)).bind (fun r26 => (sX13_put r26 (r4 372 2) (5 : Int32) (-1 : Int32)).bind (fun r30 => (sX13_put r30 (r4 372 2) (8 : Int32) (-1 : Int32)).bind (fun r34 => some ((r4 372 2), r34)))))))))
    (fun h w3 R3 => by
      obtain ⟨c, hc, rfl, hn, a, ha1, ha2, rfl⟩ := key h
      rw [iN_nat (by omega)]
      obtain ⟨w4, q1, q2, q3⟩ := c_makeCrate R3 hI hn
      exact ⟨w4, q1, q2, q3⟩
      )
    (fun h w6 h6 => by
      obtain ⟨c, hc, rfl, hn, a, ha1, ha2, rfl⟩ := key h
      rw [iN_nat (by omega)]
      show ∃ w7, Option.bind _ _ = _ ∧ _
      rw [h6, hI.ic, iN_s, e13_put0 hn, ob, e13_put1 hn, ob, e13_put2 hn, ob, e13_put3 hn, ob, e13_put4 hn, ob, e13_put5 hn, ob, e13_put8 hn, ob]
      refine ⟨_, rfl, ?_, fun r h => by rw [wN h, wN h, wN h, wN h, wN h, wN h, wN h, wN h]⟩
      rw [wS, wS, wS, wS, wS, wS, wS, wS, h6]; rfl
      )
    (fun h => by
      obtain ⟨c, hc, rfl, hn, a, ha1, ha2, rfl⟩ := key h
      rw [iN_nat (by omega)]
      exact (i_dCrate hI hc ha1 ha2 hn).mT (by omega) hT
      )
  refine ⟨_, w1, ?_, b, w2, ?_, b2⟩
  · unfold sL_addCrate sX12_addCrate
    rw [e1_newCrate hR hI, ob]
    exact a1
  · show sX13_addCrate w1 l1 l2 = _
    rw [e13_addCrate (show Iv T 12 (w1 372) by rw [a2]; exact hI)]
    unfold sX13_addCrate_42
    first | exact b1 | (rw [a2]; exact b1)
theorem b_addWork (hA : AL T w) (hT : T + 40000 ≤ 1000000000) (l1 l2 l3 l4 l5 : Int32) (h5 : l5 = 0 ∨ l5 = 1) : OPR T w (sL_addWork w l1 l2 l3 l4 l5) (fun w1 => sX13_addWork w1 l1 l2 l3 l4 l5) := by
  have hR := hA.1
  have hI := hA.2.1
  have h12 := hI.ic12
  have h16 := hI.iw16
  have h8 := hI.iv8
  have h4 := hI.ik4
  have key : f3 (ok (nV (w 372)) l1) (rng 0 5 l2 && (rng 1 1000000 l3 && rng 0 20 l4)) (room (nW (w 372)) 16) = 0 → ∃ c, c < nV (w 372) ∧ l1 = iN c ∧ nW (w 372) < 16 ∧ ∃ l, l < 6 ∧ l2 = iN l ∧ ∃ a, 1 ≤ a ∧ a ≤ 1000000 ∧ l3 = iN a := fun h => by
    obtain ⟨he, hr, hs⟩ := f3_0 h
    obtain ⟨c, hc, e⟩ := ok_inv (by omega) he
    obtain ⟨r1, r2⟩ := band hr
    obtain ⟨l, -, hl, e2⟩ := rng_n (a := 0) (b := 5) (by decide) (by decide) r1
    exact ⟨c, hc, e, room_t hs, l, by omega, e2, rng_n (a := 1) (b := 1000000) (by decide) (by decide) (band r2).1⟩
  obtain ⟨w1, a1, a2, b, w2, b1, b2⟩ := op_mut hA hT (v := w 372 3) (m := dWork (w 372) l1.toNatClampNeg l2 l3 l4 l5) (CK_f3 (e := ok (nV (w 372)) l1) (r := rng 0 5 l2 && (rng 1 1000000 l3 && rng 0 20 l4)) (s := room (nW (w 372)) 16) (c1 := some 1) (c2 := some 2) (c3 := some 3) (k1 := 1) (k2 := 2) (k3 := 3) (Or.inr ⟨rfl, by decide⟩) (Or.inr ⟨rfl, by decide⟩) (Or.inr ⟨rfl, by decide⟩)) (fun r3 => sX4_makeWork r3 l1 l2 l3 l4 l5) (fun r4 => (sX13_putWork (wst r4 372 3 ((r4 372 3) + (1 : Int32))) (r4 372 3) (0 : Int32) l2).bind (fun r10 => (sX13_putWork r10 (r4 372 3) (1 : Int32) l3).bind (fun r14 => (sX13_putWork r14 (r4 372 3) (2 : Int32) l4).bind (fun r18 => (if l5 = 0 then sX13_addWork_148 r18 l1 (r4 372 3) (r4 372 3) (3 : Int32) (0 : Int32) else sX13_addWork_148 r18 l1 (r4 372 3) (r4 372 3) (3 : Int32) (1 : Int32))))))
    (fun h w3 R3 => by
      obtain ⟨c, hc, rfl, hn, l, hl, rfl, a, ha1, ha2, rfl⟩ := key h
      rw [iN_nat (by omega)]
      obtain ⟨w4, q1, q2, q3⟩ := c_makeWork R3 hI h5 hn
      exact ⟨w4, q1, q2, q3⟩
      )
    (fun h w6 h6 => by
      obtain ⟨c, hc, rfl, hn, l, hl, rfl, a, ha1, ha2, rfl⟩ := key h
      rw [iN_nat (by omega)]
      show ∃ w7, Option.bind _ _ = _ ∧ _
      rw [h6, hI.iw, iN_s, pw0 hn, ob, pw1 hn, ob, pw2 hn, ob]
      have e5 : ∀ (X : Int32 → Option (Int32 × Wl)), (if l5 = 0 then X 0 else X 1) = X l5 := fun X => by
        rcases h5 with rfl | rfl
        · rw [if_pos (show (0 : Int32) = 0 from rfl)]
        · rw [if_neg (show ¬ (1 : Int32) = 0 by decide)]
      rw [e5 (fun x => sX13_addWork_148 _ (iN c) (iN (nW (w 372))) (iN (nW (w 372))) 3 x)]
      show ∃ w7, sX13_addWork_148 _ (iN c) (iN (nW (w 372))) (iN (nW (w 372))) 3 l5 = _ ∧ _
      unfold sX13_addWork_148
      rw [pw3 hn, ob, pw4 hn, ob, pw5 hn, ob, pw6 hn, ob, pw7 hn, ob]
      refine ⟨_, rfl, ?_, fun r h => by rw [wN h, wN h, wN h, wN h, wN h, wN h, wN h, wN h, wN h]⟩
      rw [wS, wS, wS, wS, wS, wS, wS, wS, wS, h6]; rfl
      )
    (fun h => by
      obtain ⟨c, hc, rfl, hn, l, hl, rfl, a, ha1, ha2, rfl⟩ := key h
      rw [iN_nat (by omega)]
      exact (i_dWork hI hc hl ha1 ha2 h5 hn).mT (by omega) hT
      )
  refine ⟨_, w1, ?_, b, w2, ?_, b2⟩
  · unfold sL_addWork sX12_addWork
    rw [e1_newWork hR hI, ob]
    exact a1
  · show sX13_addWork w1 l1 l2 l3 l4 l5 = _
    rw [e13_addWork (show Iv T 12 (w1 372) by rw [a2]; exact hI)]
    unfold sX13_addWork_75
    first | exact b1 | (rw [a2]; exact b1)
end BN
