/-! WHAT STAYS, piece by piece -/
def eqr (lo hi : Nat) (m m' : Nat → Int32) : Prop := ∀ a, lo ≤ a → a < hi → m' a = m a
def eqw (lo hi : Nat) (w w' : Wl) : Prop := ∀ r, lo ≤ r → r < hi → w' r = w r
/-- the world is the same outside of the present state -/
def outb (w w' : Wl) : Prop := ∀ r, r < 1 ∨ 73 ≤ r → w' r = w r
theorem outb.tr {w w' w'' : Wl} (h : outb w w') (h' : outb w' w'') : outb w w'' := fun r hr => (h' r hr).trans (h r hr)
section SA
variable {w w' : Wl} {q : Nat} {m m' : Nat → Int32}
theorem sS (hR : Rl w q m) (hw : w' q = w q) (hm : eqr 0 9 m m') : RlS (w' q) m' := by
  rw [hw]
  unfold RlS
  rw [hm 0 (by omega) (by omega), hm 1 (by omega) (by omega), hm 2 (by omega) (by omega), hm 3 (by omega) (by omega), hm 4 (by omega) (by omega), hm 5 (by omega) (by omega), hm 6 (by omega) (by omega), hm 7 (by omega) (by omega), hm 8 (by omega) (by omega)]
  exact hR.1
theorem sV (hR : Rl w q m) (hw : eqw (q + 12) (q + 28) w w') (hm : eqr 9 113 m m') : ∀ v, v < 8 → (∀ j, j < 5 → w' (q + 12 + 2 * v) j = vn m' v j) ∧ ∀ j, j < 8 → w' (q + 12 + 2 * v + 1) j = vn m' v (5 + j) := fun v hv => by
  rw [hw _ (by omega) (by omega), hw _ (by omega) (by omega)]
  refine ⟨fun j hj => ?_, fun j hj => ?_⟩
  · rw [(hR.2.1 v hv).1 j hj]; exact (hm _ (by omega) (by omega)).symm
  · rw [(hR.2.1 v hv).2 j hj]; exact (hm _ (by omega) (by omega)).symm
theorem sA (hR : Rl w q m) (hw : eqw (q + 28) (q + 40) w w') (hm : eqr 145 253 m m') : ∀ c, c < 12 → RlA (w' (q + 28 + c)) (cr m' c) := fun c hc =>
  (hR.2.2.1 c hc).of (hw _ (by omega) (by omega)) (fun j hj => hm _ (by omega) (by omega))
theorem sC (hR : Rl w q m) (hw : eqw (q + 28) (q + 40) w w') (hm : eqr 137 253 m m') (hc : nC m' = nC m) (h12 : nC m ≤ 12) (hk : nK m' = nK m) (h4 : nK m ≤ 4) : ∀ c, c < nC m' → RlC (nK m') (tg m') c (w' (q + 28 + c)) (cr m' c) := fun c h => by
  rw [hk]
  exact (hR.2.2.2.1 c (by omega)).of (hw _ (by omega) (by omega)) (fun j hj => hm _ (by omega) (by omega)) (fun k hk' => by unfold tg; rw [hm _ (by omega) (by omega)])
theorem sP (hR : Rl w q m) (hw : eqw (q + 40) (q + 72) w w') (hm : eqr 253 541 m m') : ∀ i, i < 16 → (w' (q + 40 + 2 * i) 3 = 0 ∨ w' (q + 40 + 2 * i) 3 = 1) ∧ (∀ j, j < 10 → w' (q + 40 + 2 * i + 1) j = wk m' i (8 + j)) := fun i hi => by
  rw [hw _ (by omega) (by omega), hw _ (by omega) (by omega)]
  refine ⟨(hR.2.2.2.2.1 i hi).1, fun j hj => ?_⟩
  rw [(hR.2.2.2.2.1 i hi).2 j hj]; exact (hm _ (by omega) (by omega)).symm
theorem sW (hR : Rl w q m) (hw : eqw (q + 40) (q + 72) w w') (hm : eqr 253 541 m m') (h : nW m' = nW m) (h16 : nW m ≤ 16) : ∀ i, i < nW m' → RlW (w' (q + 40 + 2 * i)) (wk m' i) := fun i hi =>
  (hR.2.2.2.2.2.1 i (by omega)).of (hw _ (by omega) (by omega)) (fun j hj => hm _ (by omega) (by omega))
theorem sZ (hR : Rl w q m) (hw : eqw (q + 40) (q + 72) w w') (h : nW m' = nW m) : ∀ i, nW m' ≤ i → i < 16 → w' (q + 40 + 2 * i) 6 = 0 ∧ w' (q + 40 + 2 * i) 7 = 0 := fun i h1 hi => by
  rw [hw _ (by omega) (by omega)]; exact hR.2.2.2.2.2.2.1 i (by omega) hi
theorem sL (hR : Rl w q m) (hw : eqw (q + 6) (q + 12) w w') (hm : eqr 113 137 m m') : ∀ l, l < 6 → ∀ j, j < 4 → w' (q + 6 + l) j = ln m' l j := fun l hl j hj => by
  rw [hw _ (by omega) (by omega), hR.2.2.2.2.2.2.2.1 l hl j hj]; exact (hm _ (by omega) (by omega)).symm
theorem sK (hR : Rl w q m) (hw : w' (q + 4) = w (q + 4)) (hm : eqr 137 145 m m') : ∀ k, k < 4 → w' (q + 4) k = co m' k := fun k hk => by
  rw [hw, hR.2.2.2.2.2.2.2.2 k hk]; exact (hm _ (by omega) (by omega)).symm
variable {T z : Nat}
theorem jV1 (hI : Iv T z m) (hv : nV m' = nV m) (hm : eqr 9 113 m m') : ∀ v, v < nV m' → clim (vn m' v 0) (vn m' v 1) := fun v h => by
  have := hI.iv8
  have := hI.icl v (by omega)
  unfold vn at this ⊢
  rwa [hm _ (by omega) (by omega), hm _ (by omega) (by omega)]
theorem jV2 (hI : Iv T z m) (hm : eqr 9 113 m m') : ∀ v, v < 8 → ∀ j, j < 8 → ∃ a, a ≤ 200 ∧ vn m' v (5 + j) = iN a := fun v hv j hj => by
  obtain ⟨a, ha, e⟩ := hI.iwy v hv j hj
  exact ⟨a, ha, (hm _ (by omega) (by omega)).trans e⟩
theorem jV3 (hI : Iv T z m) (hm : eqr 9 113 m m') : ∀ v, v < 8 → vn m' v (5 + v) = 0 := fun v hv => (hm _ (by omega) (by omega)).trans (hI.iwd v hv)
theorem jC (hI : Iv T z m) (hv : nV m ≤ nV m') (hc : nC m' = nC m) (ht : tm m' = tm m) (hm : eqr 145 253 m m') : ∀ c, c < nC m' → COk (nV m') (nC m') (tm m') (c < z) (opn m') (cr m' c) := fun c h => by
  have := hI.ic12
  refine (hI.ico c (by omega)).congr hv (by omega) ht id (fun j hj => hm _ (by omega) (by omega)) (fun d hd _ _ p => ?_)
  rw [opn_c (by omega)] at p ⊢
  exact (hm _ (by omega) (by omega)).trans p
theorem jD (hI : Iv T z m) (hc : nC m' = nC m) (hm : eqr 145 253 m m') : ∀ c, c < nC m' → ∃ k, dp (hol m') k (iN c) := fun c h => by
  have h12 := hI.ic12
  obtain ⟨k, hk⟩ := hI.idp c (by omega)
  refine ⟨k, dp_congr (by omega) hI.ich (fun c' hc' => ?_) (Or.inr ⟨c, by omega, rfl⟩) hk⟩
  rw [hol_c (by omega), hol_c (by omega)]
  exact hm _ (by omega) (by omega)
theorem jW (hI : Iv T z m) (hv : nV m ≤ nV m') (hc : nC m ≤ nC m') (hw : nW m' = nW m) (hm : eqr 253 541 m m') : ∀ i, i < nW m' → WOk (nV m') (nC m') (wk m' i) := fun i h => by
  have := hI.iw16
  exact (hI.iwo i (by omega)).congr hv hc (fun j hj => hm _ (by omega) (by omega))
theorem jK (hI : Iv T z m) (hv : nV m ≤ nV m') (hc : nC m ≤ nC m') (hk : nK m' = nK m) (hm : eqr 137 253 m m') : ∀ k, k < nK m' → KOk (nV m') (nC m') (atv m') (co m' k) (tg m' k) := fun k h => by
  have := hI.ik4
  have h12 := hI.ic12
  have := hI.iko k (by omega)
  unfold co tg at this ⊢
  rw [hm _ (by omega) (by omega), hm _ (by omega) (by omega)]
  refine this.congr hv hc (fun c h1 _ p => ?_)
  rw [atv_c (by omega)] at p ⊢
  exact (hm _ (by omega) (by omega)).trans p
theorem ns_of (hm : eqr 0 5 m m') : nV m' = nV m ∧ nC m' = nC m ∧ nW m' = nW m ∧ nK m' = nK m ∧ tm m' = tm m := by
  unfold nV nC nW nK tm
  rw [hm 1 (by omega) (by omega), hm 2 (by omega) (by omega), hm 3 (by omega) (by omega), hm 4 (by omega) (by omega), hm 0 (by omega) (by omega)]
  exact ⟨rfl, rfl, rfl, rfl, rfl⟩
end SA
/-! MAKINGS AND CHANGES -/
def dVenue (m : Nat → Int32) (a b c d : Int32) : Nat → Int32 := upd (upd (upd (upd (upd m (9 + 13 * nV m + 0) a) (9 + 13 * nV m + 1) b) (9 + 13 * nV m + 2) c) (9 + 13 * nV m + 3) d) 1 (iN (nV m + 1))
def dClimate (m : Nat → Int32) (v : Nat) (a b : Int32) : Nat → Int32 := upd (upd m (9 + 13 * v + 0) a) (9 + 13 * v + 1) b
def dWay (m : Nat → Int32) (a b : Nat) (h : Int32) : Nat → Int32 := upd (upd m (9 + 13 * a + (5 + b)) h) (9 + 13 * b + (5 + a)) h
def dLender (m : Nat → Int32) (l j : Nat) (a : Int32) : Nat → Int32 := upd m (113 + 4 * l + j) a
def dRate (m : Nat → Int32) (a : Int32) : Nat → Int32 := upd m 8 a
def dCourier (m : Nat → Int32) (v : Nat) : Nat → Int32 := upd (upd (upd m (137 + 2 * nK m) (iN v)) (137 + 2 * nK m + 1) (-1)) 4 (iN (nK m + 1))
section MK
variable {T z : Nat} {m : Nat → Int32} {w : Wl}
theorem i_dVenue (hI : Iv T z m) (h8 : nV m < 8) {a b c d : Int32} (hc : clim a b) : Iv T z (dVenue m a b c d) := by
  have n1 : nV (dVenue m a b c d) = nV m + 1 := by unfold dVenue nV; rw [uS]; exact iN_nat (by unfold nV at h8; omega)
  have hs : ∀ x, x ≠ 1 → (x < 9 ∨ 113 ≤ x) → dVenue m a b c d x = m x := fun x h1 h2 => by
    unfold dVenue
    rw [uN h1, uN (by omega), uN (by omega), uN (by omega), uN (by omega)]
  have n2 : nC (dVenue m a b c d) = nC m := by unfold nC; rw [hs 2 (by decide) (by decide)]
  have n3 : nW (dVenue m a b c d) = nW m := by unfold nW; rw [hs 3 (by decide) (by decide)]
  have n4 : nK (dVenue m a b c d) = nK m := by unfold nK; rw [hs 4 (by decide) (by decide)]
  have n5 : tm (dVenue m a b c d) = tm m := by unfold tm; rw [hs 0 (by decide) (by decide)]
  have old : ∀ v j, v < nV m → j < 13 → vn (dVenue m a b c d) v j = vn m v j := fun v j hv hj => by
    unfold dVenue vn
    rw [uN (by omega), uN (by omega), uN (by omega), uN (by omega), uN (by omega)]
  have way : ∀ v j, v < 8 → 4 ≤ j → j < 13 → vn (dVenue m a b c d) v j = vn m v j := fun v j hv h4 hj => by
    unfold dVenue vn
    rw [uN (by omega), uN (by omega), uN (by omega), uN (by omega), uN (by omega)]
  refine ⟨⟨?_, ?_, hI.iT9⟩, ⟨?_, by omega⟩, ⟨?_, by rw [n2]; exact hI.ic12⟩, ⟨?_, by rw [n3]; exact hI.iw16⟩, ⟨?_, by rw [n4]; exact hI.ik4⟩, fun v hv => ?_, fun v hv j hj => ?_, fun v hv => ?_, jC hI (by omega) n2 n5 (fun x h1 h2 => hs x (by omega) (by omega)), jD hI n2 (fun x h1 h2 => hs x (by omega) (by omega)), jW hI (by omega) (by omega) n3 (fun x h1 h2 => hs x (by omega) (by omega)), jK hI (by omega) (by omega) n4 (fun x h1 h2 => hs x (by omega) (by omega))⟩
  · rw [n5, hs 0 (by decide) (by decide)]; exact hI.it
  · rw [n5]; exact hI.itT
  · rw [n1]; unfold dVenue; rw [uS]
  · rw [n2, hs 2 (by decide) (by decide)]; exact hI.ic
  · rw [n3, hs 3 (by decide) (by decide)]; exact hI.iw
  · rw [n4, hs 4 (by decide) (by decide)]; exact hI.ik
  · by_cases e : v < nV m
    · rw [old v 0 e (by decide), old v 1 e (by decide)]; exact hI.icl v e
    · have e : v = nV m := by omega
      subst e
      have e0 : vn (dVenue m a b c d) (nV m) 0 = a := by unfold dVenue vn; rw [uN (by omega), uN (by omega), uN (by omega), uN (by omega), uS]
      have e1 : vn (dVenue m a b c d) (nV m) 1 = b := by unfold dVenue vn; rw [uN (by omega), uN (by omega), uN (by omega), uS]
      rw [e0, e1]; exact hc
  · rw [way v (5 + j) hv (by omega) (by omega)]; exact hI.iwy v hv j hj
  · rw [way v (5 + v) hv (by omega) (by omega)]; exact hI.iwd v hv
theorem c_makeVenue (hR : Rl w 1 m) (hI : Iv T z m) (h8 : nV m < 8) {a b c d : Int32} : ∃ w', sX4_makeVenue w a b c d = some (m 1, w') ∧ Rl w' 1 (dVenue m a b c d) ∧ outb w w' := by
  unfold sX4_makeVenue
  rw [hR.r5 hI, idx_iN h8 (by decide), ob, ← hR.r5 hI, hR.s.2.2.2.2.2.1]
  refine ⟨_, rfl, ?_, fun r hr => by rw [wN (by omega), wN (by omega), wN (by omega), wN (by omega), wN (by omega)]⟩
  have hs : ∀ x, x ≠ 1 → (x < 9 ∨ 113 ≤ x) → dVenue m a b c d x = m x := fun x h1 h2 => by
    unfold dVenue
    rw [uN h1, uN (by omega), uN (by omega), uN (by omega), uN (by omega)]
  have n2 : nC (dVenue m a b c d) = nC m := by unfold nC; rw [hs 2 (by decide) (by decide)]
  have n3 : nW (dVenue m a b c d) = nW m := by unfold nW; rw [hs 3 (by decide) (by decide)]
  have n4 : nK (dVenue m a b c d) = nK m := by unfold nK; rw [hs 4 (by decide) (by decide)]
  generalize hw' : wst (wst (wst (wst (wst w (13 + 2 * nV m) 0 a) (13 + 2 * nV m) 1 b) (13 + 2 * nV m) 2 c) (13 + 2 * nV m) 3 d) 1 5 _ = w'
  have hrow : ∀ r, r ≠ 1 → r ≠ 13 + 2 * nV m → w' r = w r := fun r h1 h2 => by rw [← hw', wN h1, wN h2, wN h2, wN h2, wN h2]
  have h1row : w' 1 = upd (w 1) 5 (iN (nV m + 1)) := by
    rw [← hw', wS, wN (by omega), wN (by omega), wN (by omega), wN (by omega), hR.r5 hI, iN_s]
  have hvrow : w' (13 + 2 * nV m) = upd (upd (upd (upd (w (13 + 2 * nV m)) 0 a) 1 b) 2 c) 3 d := by
    rw [← hw', wN (by omega), wS, wS, wS, wS]
  refine ⟨?_, fun v hv => ?_, sA hR (fun r h1 h2 => hrow r (by omega) (by omega)) (fun x h1 h2 => hs x (by omega) (by omega)), sC hR (fun r h1 h2 => hrow r (by omega) (by omega)) (fun x h1 h2 => hs x (by omega) (by omega)) n2 hI.ic12 n4 hI.ik4, sP hR (fun r h1 h2 => hrow r (by omega) (by omega)) (fun x h1 h2 => hs x (by omega) (by omega)), sW hR (fun r h1 h2 => hrow r (by omega) (by omega)) (fun x h1 h2 => hs x (by omega) (by omega)) n3 hI.iw16, sZ hR (fun r h1 h2 => hrow r (by omega) (by omega)) n3, sL hR (fun r h1 h2 => hrow r (by omega) (by omega)) (fun x h1 h2 => hs x (by omega) (by omega)), sK hR (hrow _ (by omega) (by omega)) (fun x h1 h2 => hs x (by omega) (by omega))⟩
  · rw [h1row]
    unfold RlS
    rw [uN (by decide), uN (by decide), uN (by decide), uN (by decide), uN (by decide), uS, uN (by decide), uN (by decide), uN (by decide), hs 0 (by decide) (by decide), hs 8 (by decide) (by decide), hs 5 (by decide) (by decide), hs 6 (by decide) (by decide), hs 7 (by decide) (by decide), hs 2 (by decide) (by decide), hs 3 (by decide) (by decide), hs 4 (by decide) (by decide)]
    obtain ⟨a1, a2, a3, a4, a5, a6, a7, a8, a9⟩ := hR.1
    exact ⟨a1, a2, a3, a4, a5, by unfold dVenue; rw [uS], a7, a8, a9⟩
  · by_cases e : v = nV m
    · subst e
      rw [show 1 + 12 + 2 * nV m = 13 + 2 * nV m by omega, hvrow, hrow _ (by omega) (by omega)]
      refine ⟨fun j hj => ?_, fun j hj => ?_⟩
      · unfold dVenue vn
        rcases (by omega : j = 0 ∨ j = 1 ∨ j = 2 ∨ j = 3 ∨ j = 4) with rfl | rfl | rfl | rfl | rfl
        · simp (disch := omega) only [uS, uN]
        · simp (disch := omega) only [uS, uN]
        · simp (disch := omega) only [uS, uN]
        · simp (disch := omega) only [uS, uN]
        · simp (disch := omega) only [uS, uN]
          exact hR.v hv (by decide)
      · unfold dVenue vn
        rw [uN (by omega), uN (by omega), uN (by omega), uN (by omega), uN (by omega)]
        exact hR.vw hv hj
    · rw [hrow _ (by omega) (by omega), hrow _ (by omega) (by omega)]
      refine ⟨fun j hj => ?_, fun j hj => ?_⟩
      · rw [(hR.2.1 v hv).1 j hj]
        unfold dVenue vn
        rw [uN (by omega), uN (by omega), uN (by omega), uN (by omega), uN (by omega)]
      · rw [(hR.2.1 v hv).2 j hj]
        unfold dVenue vn
        rw [uN (by omega), uN (by omega), uN (by omega), uN (by omega), uN (by omega)]
end MK
