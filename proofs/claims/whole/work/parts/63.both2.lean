/-! BOTH SIDES: the deeds. Written by wip/whole/pure/p63.py -/
section BD
variable {w : Wl} {T : Nat}
def OPR (T : Nat) (w : Wl) (A : Option (Int32 × Wl)) (M : Wl → Option (Int32 × Wl)) : Prop := ∃ k w1, A = some (k, w1) ∧ ∃ b w2, M w1 = some (b, w2) ∧ RES T w1 w2 k b
theorem CK_cc {e p : Bool} : CK (some 1) none (some 2) (cc3 e p) (cc2 e p) := by
  cases e
  · exact Or.inr ⟨by show ¬ (1 : Int32) = 0; decide, Or.inl ⟨rfl, rfl⟩⟩
  · cases p
    · exact Or.inr ⟨by decide, Or.inr (Or.inr ⟨rfl, rfl⟩)⟩
    · exact Or.inl ⟨rfl, rfl⟩
theorem b_open (hA : AL T w) (hT : T + 40000 ≤ 1000000000) (l1 : Int32) : OPR T w (sL_open w l1) (fun w1 => sX13_open w1 l1) := by
  have hR := hA.1
  have hI := hA.2.1
  have h12 := hI.ic12
  have h16 := hI.iw16
  have h8 := hI.iv8
  have h4 := hI.ik4
  have key : cc3 (ok (nC (w 372)) l1) (mOpen (w 372) l1.toNatClampNeg) = 0 → ∃ c, c < nC (w 372) ∧ l1 = iN c ∧ mOpen (w 372) c = true := fun h => by
    obtain ⟨a, b⟩ := band (cc3_0.mp h)
    obtain ⟨c, hc, e⟩ := ok_inv (by omega) a
    rw [e, iN_nat (by omega)] at b
    exact ⟨c, hc, e, b⟩
  obtain ⟨w1, a1, a2, b, w2, b1, b2⟩ := op_mut hA hT (v := aDirW (dOpens (w 372) l1.toNatClampNeg) l1) (m := dOpens (w 372) l1.toNatClampNeg) (CK_cc (e := ok (nC (w 372)) l1) (p := mOpen (w 372) l1.toNatClampNeg)) (fun r3 => sX4_openCrate r3 l1) (fun r6 => (sX13_opens r6 l1).bind (fun r10 => some (r10.1, r10.2)))
    (fun h w3 R3 => by
      obtain ⟨c, hc, rfl, hm⟩ := key h
      rw [iN_nat (by omega)]
      obtain ⟨w4, q1, q2, q3, -⟩ := c_openCrate R3 hI hc (mOpen_r hm)
      exact ⟨w4, q1, q2, q3⟩
      )
    (fun h w6 h6 => by
      obtain ⟨c, hc, rfl, hm⟩ := key h
      have I6 : Iv T 12 (w6 372) := by rw [h6]; exact hI
      rw [iN_nat (by omega)]
      obtain ⟨w7, q1, q2, q3⟩ := e13_opens I6 (by rw [h6]; exact hc) (by rw [h6]; exact mOpen_r hm)
      rw [h6] at q1 q2
      refine ⟨w7, ?_, q2, q3⟩
      show Option.bind _ _ = _
      rw [q1, ob]
      )
    (fun h => by
      obtain ⟨c, hc, rfl, hm⟩ := key h
      rw [iN_nat (by omega)]
      obtain ⟨w4, -, -, -, q4⟩ := c_openCrate hR hI hc (mOpen_r hm)
      exact q4.mT (by omega) hT
      )
  refine ⟨_, w1, ?_, b, w2, ?_, b2⟩
  · unfold sL_open sX12_open
    rw [e1_ofOpening hR hI, ob]
    exact a1
  · show sX13_open w1 l1 = _
    unfold sX13_open
    rw [e13_notOpen (by rw [a2]; exact hI), ob, a2]
    exact b1
theorem b_close (hA : AL T w) (hT : T + 40000 ≤ 1000000000) (l1 : Int32) : OPR T w (sL_close w l1) (fun w1 => sX13_close w1 l1) := by
  have hR := hA.1
  have hI := hA.2.1
  have h12 := hI.ic12
  have h16 := hI.iw16
  have h8 := hI.iv8
  have h4 := hI.ik4
  have key : cc3 (ok (nC (w 372)) l1) (mClose (w 372) l1.toNatClampNeg) = 0 → ∃ c, c < nC (w 372) ∧ l1 = iN c ∧ mClose (w 372) c = true := fun h => by
    obtain ⟨a, b⟩ := band (cc3_0.mp h)
    obtain ⟨c, hc, e⟩ := ok_inv (by omega) a
    rw [e, iN_nat (by omega)] at b
    exact ⟨c, hc, e, b⟩
  obtain ⟨w1, a1, a2, b, w2, b1, b2⟩ := op_mut hA hT (v := aWin (dCloses (w 372) l1.toNatClampNeg) l1) (m := dCloses (w 372) l1.toNatClampNeg) (CK_cc (e := ok (nC (w 372)) l1) (p := mClose (w 372) l1.toNatClampNeg)) (fun r3 => sX4_closeCrate r3 l1) (fun r6 => (sX13_closes r6 l1).bind (fun r10 => some (r10.1, r10.2)))
    (fun h w3 R3 => by
      obtain ⟨c, hc, rfl, hm⟩ := key h
      rw [iN_nat (by omega)]
      obtain ⟨w4, q1, q2, q3⟩ := c_closeCrate R3 hI hc hm
      exact ⟨w4, q1, q2, q3⟩
      )
    (fun h w6 h6 => by
      obtain ⟨c, hc, rfl, hm⟩ := key h
      have I6 : Iv T 12 (w6 372) := by rw [h6]; exact hI
      rw [iN_nat (by omega)]
      obtain ⟨w7, q1, q2, q3⟩ := e13_closes I6 (by rw [h6]; exact hc) (by rw [h6]; exact hm)
      rw [h6] at q1 q2
      refine ⟨w7, ?_, q2, q3⟩
      show Option.bind _ _ = _
      rw [q1, ob]
      )
    (fun h => by
      obtain ⟨c, hc, rfl, hm⟩ := key h
      rw [iN_nat (by omega)]
      exact (i_dCloses hI hc hm).mT (by omega) hT
      )
  refine ⟨_, w1, ?_, b, w2, ?_, b2⟩
  · unfold sL_close sX12_close
    rw [e1_ofClosing hR hI, ob]
    exact a1
  · show sX13_close w1 l1 = _
    unfold sX13_close
    rw [e13_notClose (by rw [a2]; exact hI), ob, a2]
    exact b1
theorem b_nest (hA : AL T w) (hT : T + 40000 ≤ 1000000000) (l1 l2 : Int32) : OPR T w (sL_nest w l1 l2) (fun w1 => sX13_nest w1 l1 l2) := by
  have hR := hA.1
  have hI := hA.2.1
  have h12 := hI.ic12
  have h16 := hI.iw16
  have h8 := hI.iv8
  have h4 := hI.ik4
  have key : cc3 (ok (nC (w 372)) l1 && ok (nC (w 372)) l2) (mNest (w 372) l1.toNatClampNeg l2.toNatClampNeg) = 0 → ∃ c d, c < nC (w 372) ∧ d < nC (w 372) ∧ l1 = iN c ∧ l2 = iN d ∧ mNest (w 372) c d = true := fun h => by
    obtain ⟨a, b⟩ := band (cc3_0.mp h)
    obtain ⟨a, a2⟩ := band a
    obtain ⟨c, hc, e⟩ := ok_inv (by omega) a
    obtain ⟨d, hd, e2⟩ := ok_inv (by omega) a2
    rw [e, e2, iN_nat (by omega), iN_nat (by omega)] at b
    exact ⟨c, d, hc, hd, e, e2, b⟩
  obtain ⟨w1, a1, a2, b, w2, b1, b2⟩ := op_mut hA hT (v := aDirC (dNests (w 372) l1.toNatClampNeg l2.toNatClampNeg) l2) (m := dNests (w 372) l1.toNatClampNeg l2.toNatClampNeg) (CK_cc (e := ok (nC (w 372)) l1 && ok (nC (w 372)) l2) (p := mNest (w 372) l1.toNatClampNeg l2.toNatClampNeg)) (fun r3 => sX4_putCrateInto r3 l1 l2) (fun r6 => (sX13_nests r6 l1 l2).bind (fun r10 => some (r10.1, r10.2)))
    (fun h w3 R3 => by
      obtain ⟨c, d, hc, hd, rfl, rfl, hm⟩ := key h
      rw [iN_nat (by omega), iN_nat (by omega)]
      obtain ⟨w4, q1, q2, q3⟩ := c_putCrateInto R3 hI hc hd hm
      exact ⟨w4, q1, q2, q3⟩
      )
    (fun h w6 h6 => by
      obtain ⟨c, d, hc, hd, rfl, rfl, hm⟩ := key h
      have I6 : Iv T 12 (w6 372) := by rw [h6]; exact hI
      rw [iN_nat (by omega), iN_nat (by omega)]
      obtain ⟨w7, q1, q2, q3⟩ := e13_nests I6 (by rw [h6]; exact hc) (by rw [h6]; exact hd) (by rw [h6]; exact hm)
      rw [h6] at q1 q2
      refine ⟨w7, ?_, q2, q3⟩
      show Option.bind _ _ = _
      rw [q1, ob]
      )
    (fun h => by
      obtain ⟨c, d, hc, hd, rfl, rfl, hm⟩ := key h
      rw [iN_nat (by omega), iN_nat (by omega)]
      exact (i_dNests hI hc hd hm).mT (by omega) hT
      )
  refine ⟨_, w1, ?_, b, w2, ?_, b2⟩
  · unfold sL_nest sX12_nest
    rw [e1_ofNesting hR hI, ob]
    exact a1
  · show sX13_nest w1 l1 l2 = _
    unfold sX13_nest
    rw [e13_notNest (by rw [a2]; exact hI), ob, a2]
    exact b1
theorem b_takeOut (hA : AL T w) (hT : T + 40000 ≤ 1000000000) (l1 : Int32) : OPR T w (sL_takeOut w l1) (fun w1 => sX13_takeOut w1 l1) := by
  have hR := hA.1
  have hI := hA.2.1
  have h12 := hI.ic12
  have h16 := hI.iw16
  have h8 := hI.iv8
  have h4 := hI.ik4
  have key : cc3 (ok (nC (w 372)) l1) (mTake (w 372) l1.toNatClampNeg) = 0 → ∃ c, c < nC (w 372) ∧ l1 = iN c ∧ mTake (w 372) c = true := fun h => by
    obtain ⟨a, b⟩ := band (cc3_0.mp h)
    obtain ⟨c, hc, e⟩ := ok_inv (by omega) a
    rw [e, iN_nat (by omega)] at b
    exact ⟨c, hc, e, b⟩
  obtain ⟨w1, a1, a2, b, w2, b1, b2⟩ := op_mut hA hT (v := cr (w 372) l1.toNatClampNeg 2) (m := dTakes (w 372) l1.toNatClampNeg) (CK_cc (e := ok (nC (w 372)) l1) (p := mTake (w 372) l1.toNatClampNeg)) (fun r3 => sX4_takeCrateOut r3 l1) (fun r6 => (sX13_takesOut r6 l1).bind (fun r10 => some (r10.1, r10.2)))
    (fun h w3 R3 => by
      obtain ⟨c, hc, rfl, hm⟩ := key h
      rw [iN_nat (by omega)]
      obtain ⟨w4, q1, q2, q3⟩ := c_takeCrateOut R3 hI hc hm
      exact ⟨w4, q1, q2, q3⟩
      )
    (fun h w6 h6 => by
      obtain ⟨c, hc, rfl, hm⟩ := key h
      have I6 : Iv T 12 (w6 372) := by rw [h6]; exact hI
      rw [iN_nat (by omega)]
      obtain ⟨w7, q1, q2, q3⟩ := e13_takesOut I6 (by rw [h6]; exact hc)
      rw [h6] at q1 q2
      refine ⟨w7, ?_, q2, q3⟩
      show Option.bind _ _ = _
      rw [q1, ob]
      )
    (fun h => by
      obtain ⟨c, hc, rfl, hm⟩ := key h
      rw [iN_nat (by omega)]
      exact (i_dTakes hI hc hm).mT (by omega) hT
      )
  refine ⟨_, w1, ?_, b, w2, ?_, b2⟩
  · unfold sL_takeOut sX12_takeOut
    rw [e1_ofTakingOut hR hI, ob]
    exact a1
  · show sX13_takeOut w1 l1 = _
    unfold sX13_takeOut
    rw [e13_notTakeOut (by rw [a2]; exact hI), ob, a2]
    exact b1
theorem b_pack (hA : AL T w) (hT : T + 40000 ≤ 1000000000) (l1 l2 : Int32) : OPR T w (sL_pack w l1 l2) (fun w1 => sX13_pack w1 l1 l2) := by
  have hR := hA.1
  have hI := hA.2.1
  have h12 := hI.ic12
  have h16 := hI.iw16
  have h8 := hI.iv8
  have h4 := hI.ik4
  have key : cc3 (ok (nW (w 372)) l1 && ok (nC (w 372)) l2) (mPack (w 372) l1.toNatClampNeg l2.toNatClampNeg) = 0 → ∃ c d, c < nW (w 372) ∧ d < nC (w 372) ∧ l1 = iN c ∧ l2 = iN d ∧ mPack (w 372) c d = true := fun h => by
    obtain ⟨a, b⟩ := band (cc3_0.mp h)
    obtain ⟨a, a2⟩ := band a
    obtain ⟨c, hc, e⟩ := ok_inv (by omega) a
    obtain ⟨d, hd, e2⟩ := ok_inv (by omega) a2
    rw [e, e2, iN_nat (by omega), iN_nat (by omega)] at b
    exact ⟨c, d, hc, hd, e, e2, b⟩
  obtain ⟨w1, a1, a2, b, w2, b1, b2⟩ := op_mut hA hT (v := aDirW (dPacks (w 372) l1.toNatClampNeg l2.toNatClampNeg) l2) (m := dPacks (w 372) l1.toNatClampNeg l2.toNatClampNeg) (CK_cc (e := ok (nW (w 372)) l1 && ok (nC (w 372)) l2) (p := mPack (w 372) l1.toNatClampNeg l2.toNatClampNeg)) (fun r3 => sX4_packWork r3 l1 l2) (fun r6 => (sX13_packs r6 l1 l2).bind (fun r10 => some (r10.1, r10.2)))
    (fun h w3 R3 => by
      obtain ⟨c, d, hc, hd, rfl, rfl, hm⟩ := key h
      rw [iN_nat (by omega), iN_nat (by omega)]
      obtain ⟨w4, q1, q2, q3⟩ := c_packWork R3 hI hc hd
      exact ⟨w4, q1, q2, q3⟩
      )
    (fun h w6 h6 => by
      obtain ⟨c, d, hc, hd, rfl, rfl, hm⟩ := key h
      have I6 : Iv T 12 (w6 372) := by rw [h6]; exact hI
      rw [iN_nat (by omega), iN_nat (by omega)]
      obtain ⟨w7, q1, q2, q3⟩ := e13_packs I6 (by rw [h6]; exact hc) (by rw [h6]; exact hd)
      rw [h6] at q1 q2
      refine ⟨w7, ?_, q2, q3⟩
      show Option.bind _ _ = _
      rw [q1, ob]
      )
    (fun h => by
      obtain ⟨c, d, hc, hd, rfl, rfl, hm⟩ := key h
      rw [iN_nat (by omega), iN_nat (by omega)]
      exact (i_dPacks hI hc hd).mT (by omega) hT
      )
  refine ⟨_, w1, ?_, b, w2, ?_, b2⟩
  · unfold sL_pack sX12_pack
    rw [e1_ofPacking hR hI, ob]
    exact a1
  · show sX13_pack w1 l1 l2 = _
    unfold sX13_pack
    rw [e13_notPack (by rw [a2]; exact hI), ob, a2]
    exact b1
theorem b_unpack (hA : AL T w) (hT : T + 40000 ≤ 1000000000) (l1 : Int32) : OPR T w (sL_unpack w l1) (fun w1 => sX13_unpack w1 l1) := by
  have hR := hA.1
  have hI := hA.2.1
  have h12 := hI.ic12
  have h16 := hI.iw16
  have h8 := hI.iv8
  have h4 := hI.ik4
  have key : cc3 (ok (nW (w 372)) l1) (mUnp (w 372) l1.toNatClampNeg) = 0 → ∃ c, c < nW (w 372) ∧ l1 = iN c ∧ mUnp (w 372) c = true := fun h => by
    obtain ⟨a, b⟩ := band (cc3_0.mp h)
    obtain ⟨c, hc, e⟩ := ok_inv (by omega) a
    rw [e, iN_nat (by omega)] at b
    exact ⟨c, hc, e, b⟩
  obtain ⟨w1, a1, a2, b, w2, b1, b2⟩ := op_mut hA hT (v := vof (w 372) (wk (w 372) l1.toNatClampNeg 4).toNatClampNeg) (m := dUnpacks (w 372) l1.toNatClampNeg) (CK_cc (e := ok (nW (w 372)) l1) (p := mUnp (w 372) l1.toNatClampNeg)) (fun r3 => sX4_unpackWork r3 l1) (fun r6 => (sX13_unpacks r6 l1).bind (fun r10 => some (r10.1, r10.2)))
    (fun h w3 R3 => by
      obtain ⟨c, hc, rfl, hm⟩ := key h
      rw [iN_nat (by omega)]
      obtain ⟨w4, q1, q2, q3⟩ := c_unpackWork R3 hI hc hm
      exact ⟨w4, q1, q2, q3⟩
      )
    (fun h w6 h6 => by
      obtain ⟨c, hc, rfl, hm⟩ := key h
      have I6 : Iv T 12 (w6 372) := by rw [h6]; exact hI
      rw [iN_nat (by omega)]
      obtain ⟨w7, q1, q2, q3⟩ := e13_unpacks I6 (by rw [h6]; exact hc) (by rw [h6]; exact hm)
      rw [h6] at q1 q2
      refine ⟨w7, ?_, q2, q3⟩
      show Option.bind _ _ = _
      rw [q1, ob]
      )
    (fun h => by
      obtain ⟨c, hc, rfl, hm⟩ := key h
      rw [iN_nat (by omega)]
      exact (i_dUnpacks hI hc hm).mT (by omega) hT
      )
  refine ⟨_, w1, ?_, b, w2, ?_, b2⟩
  · unfold sL_unpack sX12_unpack
    rw [e1_ofUnpacking hR hI, ob]
    exact a1
  · show sX13_unpack w1 l1 = _
    unfold sX13_unpack
    rw [e13_notUnpack (by rw [a2]; exact hI), ob, a2]
    exact b1
theorem b_send (hA : AL T w) (hT : T + 40000 ≤ 1000000000) (l1 l2 l3 : Int32) : OPR T w (sL_send w l1 l2 l3) (fun w1 => sX13_send w1 l1 l2 l3) := by
  have hR := hA.1
  have hI := hA.2.1
  have h12 := hI.ic12
  have h16 := hI.iw16
  have h8 := hI.iv8
  have h4 := hI.ik4
  have key : cc3 (ok (nC (w 372)) l1 && (ok (nV (w 372)) l2 && okx (nK (w 372)) l3)) (mSend (w 372) l1.toNatClampNeg l2.toNatClampNeg l3) = 0 → ∃ c d, c < nC (w 372) ∧ d < nV (w 372) ∧ l1 = iN c ∧ l2 = iN d ∧ ptr (nK (w 372)) l3 ∧ aReason (w 372) c d l3 = 0 := fun h => by
    obtain ⟨a, b⟩ := band (cc3_0.mp h)
    obtain ⟨a, a2⟩ := band a
    obtain ⟨a2, a3⟩ := band a2
    obtain ⟨c, hc, e⟩ := ok_inv (by omega) a
    obtain ⟨d, hd, e2⟩ := ok_inv (by omega) a2
    rw [e, e2, iN_nat (by omega), iN_nat (by omega)] at b
    exact ⟨c, d, hc, hd, e, e2, okx_inv (by omega) a3, mSend_0 b⟩
  obtain ⟨w1, a1, a2, b, w2, b1, b2⟩ := op_mut hA hT (v := cr (sendM (w 372) l1.toNatClampNeg l2.toNatClampNeg) l1.toNatClampNeg 5) (m := dSend (w 372) l1.toNatClampNeg l2.toNatClampNeg l3) (CK_cc (e := ok (nC (w 372)) l1 && (ok (nV (w 372)) l2 && okx (nK (w 372)) l3)) (p := mSend (w 372) l1.toNatClampNeg l2.toNatClampNeg l3)) (fun r3 => sX4_sendCrate r3 l1 l2 l3) (fun r6 => (sX13_sends r6 l1 l2 l3).bind (fun r10 => some (r10.1, r10.2)))
    (fun h w3 R3 => by
      obtain ⟨c, d, hc, hd, rfl, rfl, hx, hm⟩ := key h
      rw [iN_nat (by omega), iN_nat (by omega)]
      obtain ⟨w4, q1, q2, q3⟩ := c_sendCrate R3 hI hc hd hx hm
      exact ⟨w4, q1, q2, q3⟩
      )
    (fun h w6 h6 => by
      obtain ⟨c, d, hc, hd, rfl, rfl, hx, hm⟩ := key h
      have I6 : Iv T 12 (w6 372) := by rw [h6]; exact hI
      rw [iN_nat (by omega), iN_nat (by omega)]
      obtain ⟨w7, q1, q2, q3⟩ := e13_sends I6 (by rw [h6]; exact hc) (by rw [h6]; exact hd) (by rw [h6]; exact hx) (by rw [h6]; exact hm)
      rw [h6] at q1 q2
      refine ⟨w7, ?_, q2, q3⟩
      show Option.bind _ _ = _
      rw [q1, ob]
      )
    (fun h => by
      obtain ⟨c, d, hc, hd, rfl, rfl, hx, hm⟩ := key h
      rw [iN_nat (by omega), iN_nat (by omega)]
      exact (i_dSend hI hc hd hx hm).mT (by omega) hT
      )
  refine ⟨_, w1, ?_, b, w2, ?_, b2⟩
  · unfold sL_send sX12_send
    rw [e1_ofSending hR hI, ob]
    exact a1
  · show sX13_send w1 l1 l2 l3 = _
    unfold sX13_send
    rw [e13_notSend (by rw [a2]; exact hI), ob, a2]
    exact b1
theorem b_advance (hA : AL T w) (hT : T + 40000 ≤ 1000000000) (l1 : Int32) : OPR T w (sL_advance w l1) (fun w1 => sX13_advance w1 l1) := by
  have hR := hA.1
  have hI := hA.2.1
  have key : (if isw l1 = true then (0 : Int32) else 2) = 0 → ∃ c, c ≤ 240 ∧ l1 = iN c := fun h => by
    cases hb : isw l1
    · rw [hb] at h; exact absurd h (by decide)
    · obtain ⟨c, -, h2, e⟩ := isw_inv hb; exact ⟨c, h2, e⟩
  have ck : CK none (some 1) none (if isw l1 = true then (0 : Int32) else 2) (if isw l1 = true then (0 : Int32) else 1) := by
    cases isw l1
    · exact Or.inr ⟨by decide, Or.inr (Or.inl ⟨rfl, rfl⟩)⟩
    · exact Or.inl ⟨rfl, rfl⟩
  obtain ⟨w1, a1, a2, b, w2, b1, b2⟩ := op_mut hA hT (v := dHours (w 372) l1.toNatClampNeg 7 - w 372 7) (m := dHours (w 372) l1.toNatClampNeg) ck (fun r3 => sX4_letHoursPass r3 l1) (fun r6 => (sX13_advances r6 l1).bind (fun r10 => some (r10.1, r10.2)))
    (fun h w3 R3 => by
      obtain ⟨c, hc, rfl⟩ := key h
      rw [iN_nat (by omega)]
      obtain ⟨w4, q1, q2, q3, -⟩ := c_letHoursPass R3 hI hc (by omega)
      exact ⟨w4, q1, q2, q3⟩)
    (fun h w6 h6 => by
      obtain ⟨c, hc, rfl⟩ := key h
      rw [iN_nat (by omega)]
      have I6 : Iv T 12 (w6 372) := by rw [h6]; exact hI
      obtain ⟨w7, q1, q2, q3⟩ := e13_advances I6 hc (by omega) (fun i a hi ha => i_dHour (T := T + i) ha (show T + i + 1 ≤ 1000000000 by omega))
      rw [h6] at q1 q2
      refine ⟨w7, ?_, q2, q3⟩
      show Option.bind _ _ = _
      rw [q1, ob])
    (fun h => by
      obtain ⟨c, hc, rfl⟩ := key h
      rw [iN_nat (by omega)]
      obtain ⟨w4, -, -, -, q4⟩ := c_letHoursPass hR hI hc (by omega)
      exact q4.mT (by omega) hT)
  refine ⟨_, w1, ?_, b, w2, ?_, b2⟩
  · unfold sL_advance sX12_advance
    rw [e1_ofWaiting, ob]
    exact a1
  · show sX13_advance w1 l1 = _
    unfold sX13_advance
    rw [e13_notAdvance, ob]
    exact b1
end BD
