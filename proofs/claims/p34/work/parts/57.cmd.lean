/-! COMMANDS: what each asks and does -/
section CM
variable {w : Wl} {T : Nat} {m : Nat → Int32}
def isw (l : Int32) : Bool := if l < 1 then false else if 240 < l then false else true
def chk (m : Nat → Int32) : Nat → (Nat → Int32) → Bool
  | 0, v => ok (nC m) (v 0) && mOpen m (v 0).toNatClampNeg
  | 1, v => ok (nC m) (v 0) && mClose m (v 0).toNatClampNeg
  | 2, v => (ok (nC m) (v 0) && ok (nC m) (v 1)) && mNest m (v 0).toNatClampNeg (v 1).toNatClampNeg
  | 3, v => ok (nC m) (v 0) && mTake m (v 0).toNatClampNeg
  | 4, v => (ok (nW m) (v 0) && ok (nC m) (v 1)) && mPack m (v 0).toNatClampNeg (v 1).toNatClampNeg
  | 5, v => ok (nW m) (v 0) && mUnp m (v 0).toNatClampNeg
  | 6, v => (ok (nC m) (v 0) && (ok (nV m) (v 1) && okx (nK m) (-1))) && mSend m (v 0).toNatClampNeg (v 1).toNatClampNeg (-1)
  | 7, v => (ok (nC m) (v 0) && (ok (nV m) (v 1) && okx (nK m) (v 2))) && mSend m (v 0).toNatClampNeg (v 1).toNatClampNeg (v 2)
  | _, v => isw (v 0)
def act (m : Nat → Int32) : Nat → (Nat → Int32) → Nat → Int32
  | 0, v => dOpens m (v 0).toNatClampNeg
  | 1, v => dCloses m (v 0).toNatClampNeg
  | 2, v => dNests m (v 0).toNatClampNeg (v 1).toNatClampNeg
  | 3, v => dTakes m (v 0).toNatClampNeg
  | 4, v => dPacks m (v 0).toNatClampNeg (v 1).toNatClampNeg
  | 5, v => dUnpacks m (v 0).toNatClampNeg
  | 6, v => dSend m (v 0).toNatClampNeg (v 1).toNatClampNeg (-1)
  | 7, v => dSend m (v 0).toNatClampNeg (v 1).toNatClampNeg (v 2)
  | _, v => dHours m (v 0).toNatClampNeg
theorem cc3_0 {e p : Bool} : cc3 e p = 0 ↔ (e && p) = true := by cases e <;> cases p <;> decide
theorem cc2_0 {e p : Bool} : cc2 e p = 0 ↔ (e && p) = true := by cases e <;> cases p <;> decide
theorem isw_inv {l : Int32} (h : isw l = true) : ∃ k, 1 ≤ k ∧ k ≤ 240 ∧ l = iN k := by
  unfold isw at h
  by_cases h1 : l < 1
  · rw [if_pos h1] at h; cases h
  rw [if_neg h1] at h
  by_cases h2 : 240 < l
  · rw [if_pos h2] at h; cases h
  have h0 : ¬ l < 0 := fun q => h1 (Int32.lt_trans q (by decide))
  have e := of_nn h0
  have hl := nat_lt l
  generalize l.toNatClampNeg = k at e hl
  subst e
  refine ⟨k, ?_, ?_, rfl⟩
  · exact Nat.le_of_not_lt fun q => h1 ((iN_lt (b := 1) hl (by decide)).mpr q)
  · exact Nat.le_of_not_lt fun q => h2 ((iN_lt (a := 240) (by decide) hl).mpr q)
theorem e1_ofWaiting (l : Int32) : sX1_ofWaiting w l = some (if isw l = true then 0 else 2) := by
  unfold sX1_ofWaiting sX1_isIn isw
  by_cases h1 : l < 1
  · rw [if_pos h1, if_pos h1]; rfl
  · rw [if_neg h1, if_neg h1]
    by_cases h2 : 240 < l
    · rw [if_pos h2, if_pos h2]; rfl
    · rw [if_neg h2, if_neg h2]; rfl
theorem nine {D : Nat} (hD : D < 9) : D = 0 ∨ D = 1 ∨ D = 2 ∨ D = 3 ∨ D = 4 ∨ D = 5 ∨ D = 6 ∨ D = 7 ∨ D = 8 := by omega
theorem e12_wrong (hR : Rl w 1 m) (hI : Iv T 12 m) {D : Nat} (hD : D < 9) : ∃ x, sX12_wrongWith w D = some x ∧ (x = 0 ↔ chk m D (w 370) = true) := by
  unfold sX12_wrongWith
  rw [show idx (Int32.ofNat D) 9 = some D from idx_iN hD (by decide), ob]
  rcases nine hD with rfl | rfl | rfl | rfl | rfl | rfl | rfl | rfl | rfl
  · rw [if_pos (by decide), e1_ofOpening hR hI, ob]; exact ⟨_, rfl, cc3_0⟩
  · rw [if_neg (by decide), if_pos (by decide), e1_ofClosing hR hI, ob]; exact ⟨_, rfl, cc3_0⟩
  · rw [if_neg (by decide), if_neg (by decide), if_pos (by decide), e1_ofNesting hR hI, ob]; exact ⟨_, rfl, cc3_0⟩
  · rw [if_neg (by decide), if_neg (by decide), if_neg (by decide), if_pos (by decide), e1_ofTakingOut hR hI, ob]; exact ⟨_, rfl, cc3_0⟩
  · rw [if_neg (by decide), if_neg (by decide), if_neg (by decide), if_neg (by decide), if_pos (by decide), e1_ofPacking hR hI, ob]; exact ⟨_, rfl, cc3_0⟩
  · rw [if_neg (by decide), if_neg (by decide), if_neg (by decide), if_neg (by decide), if_neg (by decide), if_pos (by decide), e1_ofUnpacking hR hI, ob]; exact ⟨_, rfl, cc3_0⟩
  · rw [if_neg (by decide), if_neg (by decide), if_neg (by decide), if_neg (by decide), if_neg (by decide), if_neg (by decide), if_pos (by decide), e1_ofSending hR hI, ob]; exact ⟨_, rfl, cc3_0⟩
  · rw [if_neg (by decide), if_neg (by decide), if_neg (by decide), if_neg (by decide), if_neg (by decide), if_neg (by decide), if_neg (by decide), if_pos (by decide), e1_ofSending hR hI, ob]; exact ⟨_, rfl, cc3_0⟩
  · rw [if_neg (by decide), if_neg (by decide), if_neg (by decide), if_neg (by decide), if_neg (by decide), if_neg (by decide), if_neg (by decide), if_neg (by decide), e1_ofWaiting, ob]
    refine ⟨_, rfl, ?_⟩
    show _ ↔ isw (w 370 0) = true
    cases isw (w 370 0) <;> decide
theorem band {a b : Bool} (h : (a && b) = true) : a = true ∧ b = true := by cases a <;> cases b <;> first | exact ⟨rfl, rfl⟩ | cases h
theorem mSend_0 {c v : Nat} {x : Int32} (h : mSend m c v x = true) : aReason m c v x = 0 := by
  unfold mSend at h
  by_cases e : aReason m c v x = 0
  · exact e
  · rw [if_neg e] at h; cases h
theorem mOpen_r {c : Nat} (h : mOpen m c = true) : reach m c = true := by
  unfold mOpen at h
  cases h1 : opb m c
  · rw [h1] at h; simp only [iF] at h
    cases h2 : reach m c
    · rw [h2] at h; simp only [iF] at h; cases h
    · rfl
  · rw [h1] at h; simp only [iT] at h; cases h
theorem c_perform (hR : Rl w 1 m) (hI : Iv T 12 m) (hT : T + 240 ≤ 1000000000) {D : Nat} (hD : D < 9) (h : chk m D (w 370) = true) : ∃ k w', sX12_perform w D = some (k, w') ∧ Rl w' 1 (act m D (w 370)) ∧ outb w w' ∧ Iv (T + 240) 12 (act m D (w 370)) := by
  have h12 := hI.ic12
  have h16 := hI.iw16
  have h8 := hI.iv8
  have h4 := hI.ik4
  unfold sX12_perform
  rw [show idx (Int32.ofNat D) 9 = some D from idx_iN hD (by decide), ob]
  generalize w 370 = v at h
  rcases nine hD with rfl | rfl | rfl | rfl | rfl | rfl | rfl | rfl | rfl
  · obtain ⟨a, b⟩ := band h
    obtain ⟨c, hc, e⟩ := ok_inv (by omega) a
    rw [if_pos (by decide), e]
    show ∃ k w', _ ∧ Rl w' 1 (dOpens m (v 0).toNatClampNeg) ∧ outb w w' ∧ Iv (T + 240) 12 (dOpens m (v 0).toNatClampNeg)
    rw [e, iN_nat (by omega)] at b ⊢
    obtain ⟨w', q1, q2, q3, q4⟩ := c_openCrate hR hI hc (mOpen_r b)
    rw [q1, ob]
    exact ⟨_, w', rfl, q2, q3, q4.mT (by omega) hT⟩
  · obtain ⟨a, b⟩ := band h
    obtain ⟨c, hc, e⟩ := ok_inv (by omega) a
    rw [if_neg (by decide), if_pos (by decide), e]
    show ∃ k w', _ ∧ Rl w' 1 (dCloses m (v 0).toNatClampNeg) ∧ outb w w' ∧ Iv (T + 240) 12 (dCloses m (v 0).toNatClampNeg)
    rw [e, iN_nat (by omega)] at b ⊢
    obtain ⟨w', q1, q2, q3⟩ := c_closeCrate hR hI hc b
    rw [q1, ob]
    exact ⟨_, w', rfl, q2, q3, (i_dCloses hI hc b).mT (by omega) hT⟩
  · obtain ⟨a, b⟩ := band h
    obtain ⟨a, a2⟩ := band a
    obtain ⟨c, hc, e⟩ := ok_inv (by omega) a
    obtain ⟨d, hd, e2⟩ := ok_inv (by omega) a2
    rw [if_neg (by decide), if_neg (by decide), if_pos (by decide), e, e2]
    show ∃ k w', _ ∧ Rl w' 1 (dNests m (v 0).toNatClampNeg (v 1).toNatClampNeg) ∧ outb w w' ∧ Iv (T + 240) 12 (dNests m (v 0).toNatClampNeg (v 1).toNatClampNeg)
    rw [e, e2, iN_nat (by omega), iN_nat (by omega)] at b ⊢
    obtain ⟨w', q1, q2, q3⟩ := c_putCrateInto hR hI hc hd b
    rw [q1, ob]
    exact ⟨_, w', rfl, q2, q3, (i_dNests hI hc hd b).mT (by omega) hT⟩
  · obtain ⟨a, b⟩ := band h
    obtain ⟨c, hc, e⟩ := ok_inv (by omega) a
    rw [if_neg (by decide), if_neg (by decide), if_neg (by decide), if_pos (by decide), e]
    show ∃ k w', _ ∧ Rl w' 1 (dTakes m (v 0).toNatClampNeg) ∧ outb w w' ∧ Iv (T + 240) 12 (dTakes m (v 0).toNatClampNeg)
    rw [e, iN_nat (by omega)] at b ⊢
    obtain ⟨w', q1, q2, q3⟩ := c_takeCrateOut hR hI hc b
    rw [q1, ob]
    exact ⟨_, w', rfl, q2, q3, (i_dTakes hI hc b).mT (by omega) hT⟩
  · obtain ⟨a, b⟩ := band h
    obtain ⟨a, a2⟩ := band a
    obtain ⟨c, hc, e⟩ := ok_inv (by omega) a
    obtain ⟨d, hd, e2⟩ := ok_inv (by omega) a2
    rw [if_neg (by decide), if_neg (by decide), if_neg (by decide), if_neg (by decide), if_pos (by decide), e, e2]
    show ∃ k w', _ ∧ Rl w' 1 (dPacks m (v 0).toNatClampNeg (v 1).toNatClampNeg) ∧ outb w w' ∧ Iv (T + 240) 12 (dPacks m (v 0).toNatClampNeg (v 1).toNatClampNeg)
    rw [e, e2, iN_nat (by omega), iN_nat (by omega)] at b ⊢
    obtain ⟨w', q1, q2, q3⟩ := c_packWork hR hI hc hd
    rw [q1, ob]
    exact ⟨_, w', rfl, q2, q3, (i_dPacks hI hc hd).mT (by omega) hT⟩
  · obtain ⟨a, b⟩ := band h
    obtain ⟨c, hc, e⟩ := ok_inv (by omega) a
    rw [if_neg (by decide), if_neg (by decide), if_neg (by decide), if_neg (by decide), if_neg (by decide), if_pos (by decide), e]
    show ∃ k w', _ ∧ Rl w' 1 (dUnpacks m (v 0).toNatClampNeg) ∧ outb w w' ∧ Iv (T + 240) 12 (dUnpacks m (v 0).toNatClampNeg)
    rw [e, iN_nat (by omega)] at b ⊢
    obtain ⟨w', q1, q2, q3⟩ := c_unpackWork hR hI hc b
    rw [q1, ob]
    exact ⟨_, w', rfl, q2, q3, (i_dUnpacks hI hc b).mT (by omega) hT⟩
  · obtain ⟨a, b⟩ := band h
    obtain ⟨a, a2⟩ := band a
    obtain ⟨a2, a3⟩ := band a2
    obtain ⟨c, hc, e⟩ := ok_inv (by omega) a
    obtain ⟨d, hd, e2⟩ := ok_inv (by omega) a2
    have hx := okx_inv (by omega) a3
    rw [if_neg (by decide), if_neg (by decide), if_neg (by decide), if_neg (by decide), if_neg (by decide), if_neg (by decide), if_pos (by decide), e, e2]
    show ∃ k w', _ ∧ Rl w' 1 (dSend m (v 0).toNatClampNeg (v 1).toNatClampNeg (-1)) ∧ outb w w' ∧ Iv (T + 240) 12 (dSend m (v 0).toNatClampNeg (v 1).toNatClampNeg (-1))
    rw [e, e2, iN_nat (by omega), iN_nat (by omega)] at b ⊢
    have b := mSend_0 b
    obtain ⟨w', q1, q2, q3⟩ := c_sendCrate hR hI hc hd hx b
    rw [q1, ob]
    exact ⟨_, w', rfl, q2, q3, (i_dSend hI hc hd hx b).mT (by omega) hT⟩
  · obtain ⟨a, b⟩ := band h
    obtain ⟨a, a2⟩ := band a
    obtain ⟨a2, a3⟩ := band a2
    obtain ⟨c, hc, e⟩ := ok_inv (by omega) a
    obtain ⟨d, hd, e2⟩ := ok_inv (by omega) a2
    have hx := okx_inv (by omega) a3
    rw [if_neg (by decide), if_neg (by decide), if_neg (by decide), if_neg (by decide), if_neg (by decide), if_neg (by decide), if_neg (by decide), if_pos (by decide), e, e2]
    show ∃ k w', _ ∧ Rl w' 1 (dSend m (v 0).toNatClampNeg (v 1).toNatClampNeg (v 2)) ∧ outb w w' ∧ Iv (T + 240) 12 (dSend m (v 0).toNatClampNeg (v 1).toNatClampNeg (v 2))
    rw [e, e2, iN_nat (by omega), iN_nat (by omega)] at b ⊢
    have b := mSend_0 b
    obtain ⟨w', q1, q2, q3⟩ := c_sendCrate hR hI hc hd hx b
    rw [q1, ob]
    exact ⟨_, w', rfl, q2, q3, (i_dSend hI hc hd hx b).mT (by omega) hT⟩
  · obtain ⟨k, k1, k2, e⟩ := isw_inv (l := v 0) h
    rw [if_neg (by decide), if_neg (by decide), if_neg (by decide), if_neg (by decide), if_neg (by decide), if_neg (by decide), if_neg (by decide), if_neg (by decide), e]
    show ∃ k w', _ ∧ Rl w' 1 (dHours m (v 0).toNatClampNeg) ∧ outb w w' ∧ Iv (T + 240) 12 (dHours m (v 0).toNatClampNeg)
    rw [e, iN_nat (by omega)]
    obtain ⟨w', q1, q2, q3, q4⟩ := c_letHoursPass hR hI k2 (by omega)
    rw [q1, ob]
    exact ⟨_, w', rfl, q2, q3, q4.mT (by omega) hT⟩
/-- only the numbers that the command has are looked at -/
theorem chk_v {D : Nat} (hD : D < 9) {v v' : Nat → Int32} (h : ∀ j, j < (wnc D).toNatClampNeg → v j = v' j) : chk m D v = chk m D v' ∧ act m D v = act m D v' := by
  have h0 : v 0 = v' 0 := h 0 (by have := wnc_K hD; omega)
  rcases nine hD with rfl | rfl | rfl | rfl | rfl | rfl | rfl | rfl | rfl
  · simp only [chk, act, h0, and_self]
  · simp only [chk, act, h0, and_self]
  · simp only [chk, act, h0, h 1 (by decide), and_self]
  · simp only [chk, act, h0, and_self]
  · simp only [chk, act, h0, h 1 (by decide), and_self]
  · simp only [chk, act, h0, and_self]
  · simp only [chk, act, h0, h 1 (by decide), and_self]
  · simp only [chk, act, h0, h 1 (by decide), h 2 (by decide), and_self]
  · simp only [chk, act, h0, and_self]
end CM
