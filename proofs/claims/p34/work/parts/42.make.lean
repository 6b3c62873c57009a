/-! MAKINGS AND CHANGES, further -/
def dCrate (m : Nat → Int32) (v : Nat) (a : Int32) : Nat → Int32 := upd (upd (upd (upd (upd (upd (upd (upd m 2 (iN (nC m + 1))) (145 + 9 * nC m + 0) a) (145 + 9 * nC m + 1) 1) (145 + 9 * nC m + 2) (-1)) (145 + 9 * nC m + 3) (iN v)) (145 + 9 * nC m + 4) (-1)) (145 + 9 * nC m + 5) (-1)) (145 + 9 * nC m + 8) (-1)
def dWork (m : Nat → Int32) (v : Nat) (l a b e : Int32) : Nat → Int32 := upd (upd (upd (upd (upd (upd (upd (upd (upd m 3 (iN (nW m + 1))) (253 + 18 * nW m + 0) l) (253 + 18 * nW m + 1) a) (253 + 18 * nW m + 2) b) (253 + 18 * nW m + 3) e) (253 + 18 * nW m + 4) (-1)) (253 + 18 * nW m + 5) (iN v)) (253 + 18 * nW m + 6) 0) (253 + 18 * nW m + 7) 0
section MZ
variable {T z : Nat} {m m' : Nat → Int32} {w w' : Wl}
/-- the counts stay -/
theorem Iv.mk0 (hI : Iv T z m) (hm : eqr 0 5 m m') (h1 : ∀ v, v < nV m' → clim (vn m' v 0) (vn m' v 1)) (h2 : ∀ v, v < 8 → ∀ j, j < 8 → ∃ a, a ≤ 200 ∧ vn m' v (5 + j) = iN a) (h3 : ∀ v, v < 8 → vn m' v (5 + v) = 0)
    (h4 : ∀ c, c < nC m' → COk (nV m') (nC m') (tm m') (c < z) (opn m') (cr m' c)) (h5 : ∀ c, c < nC m' → ∃ k, dp (hol m') k (iN c)) (h6 : ∀ i, i < nW m' → WOk (nV m') (nC m') (wk m' i)) (h7 : ∀ k, k < nK m' → KOk (nV m') (nC m') (atv m') (co m' k) (tg m' k)) : Iv T z m' := by
  obtain ⟨n1, n2, n3, n4, n5⟩ := ns_of hm
  refine ⟨⟨?_, by rw [n5]; exact hI.itT, hI.iT9⟩, ⟨?_, by rw [n1]; exact hI.iv8⟩, ⟨?_, by rw [n2]; exact hI.ic12⟩, ⟨?_, by rw [n3]; exact hI.iw16⟩, ⟨?_, by rw [n4]; exact hI.ik4⟩, h1, h2, h3, h4, h5, h6, h7⟩
  · rw [n5, hm 0 (by decide) (by decide)]; exact hI.it
  · rw [n1, hm 1 (by decide) (by decide)]; exact hI.iv
  · rw [n2, hm 2 (by decide) (by decide)]; exact hI.ic
  · rw [n3, hm 3 (by decide) (by decide)]; exact hI.iw
  · rw [n4, hm 4 (by decide) (by decide)]; exact hI.ik
theorem eqr_of {lo hi : Nat} (h : ∀ a, lo ≤ a → a < hi → m' a = m a) : eqr lo hi m m' := h
-- climate
theorem i_dClimate (hI : Iv T z m) {v : Nat} {a b : Int32} (hv : v < nV m) (hc : clim a b) : Iv T z (dClimate m v a b) := by
  have h8 := hI.iv8
  have hs : ∀ x, x < 9 ∨ 113 ≤ x → dClimate m v a b x = m x := fun x h => by unfold dClimate; simp (disch := omega) only [uS, uN]
  obtain ⟨n1, n2, n3, n4, n5⟩ := ns_of (m := m) (m' := dClimate m v a b) (fun x _ _ => hs x (by omega))
  refine hI.mk0 (fun x _ _ => hs x (by omega)) (fun u hu => ?_) (fun u hu j hj => ?_) (fun u hu => ?_) (jC hI (by omega) n2 n5 (fun x _ _ => hs x (by omega))) (jD hI n2 (fun x _ _ => hs x (by omega))) (jW hI (by omega) (by omega) n3 (fun x _ _ => hs x (by omega))) (jK hI (by omega) (by omega) n4 (fun x _ _ => hs x (by omega)))
  · unfold dClimate vn
    by_cases e : u = v
    · subst e; simp (disch := omega) only [uS, uN]; exact hc
    · simp (disch := omega) only [uS, uN]; exact hI.icl u (by omega)
  · unfold dClimate vn; simp (disch := omega) only [uS, uN]; exact hI.iwy u hu j hj
  · unfold dClimate vn; simp (disch := omega) only [uS, uN]; exact hI.iwd u hu
theorem c_changeClimate (hR : Rl w 1 m) (hI : Iv T z m) {v : Nat} {a b : Int32} (hv : v < nV m) : ∃ w', sX4_changeClimate w (iN v) a b = some ((1000 : Int32) * vn m v 0 + vn m v 1, w') ∧ Rl w' 1 (dClimate m v a b) ∧ outb w w' := by
  have h8 := hI.iv8
  unfold sX4_changeClimate
  rw [idx_iN (by omega) (by decide), ob, hR.v (by omega) (by decide), hR.v (by omega) (by decide)]
  refine ⟨_, rfl, ?_, fun r hr => by simp (disch := omega) only [wN]⟩
  have hs : ∀ x, x < 9 ∨ 113 ≤ x → dClimate m v a b x = m x := fun x h => by unfold dClimate; simp (disch := omega) only [uS, uN]
  obtain ⟨n1, n2, n3, n4, n5⟩ := ns_of (m := m) (m' := dClimate m v a b) (fun x _ _ => hs x (by omega))
  have hrow : ∀ r, r ≠ 13 + 2 * v → wst (wst w (13 + 2 * v) 0 a) (13 + 2 * v) 1 b r = w r := fun r h => by simp (disch := omega) only [wN]
  refine ⟨sS hR (hrow 1 (by omega)) (fun x _ _ => hs x (by omega)), fun u hu => ?_, sA hR (fun r h1 h2 => hrow r (by omega)) (fun x h1 h2 => hs x (by omega)), sC hR (fun r h1 h2 => hrow r (by omega)) (fun x h1 h2 => hs x (by omega)) n2 hI.ic12 n4 hI.ik4, sP hR (fun r h1 h2 => hrow r (by omega)) (fun x h1 h2 => hs x (by omega)), sW hR (fun r h1 h2 => hrow r (by omega)) (fun x h1 h2 => hs x (by omega)) n3 hI.iw16, sZ hR (fun r h1 h2 => hrow r (by omega)) n3, sL hR (fun r h1 h2 => hrow r (by omega)) (fun x h1 h2 => hs x (by omega)), sK hR (hrow _ (by omega)) (fun x h1 h2 => hs x (by omega))⟩
  rw [hrow (1 + 12 + 2 * u + 1) (by omega)]
  refine ⟨fun j hj => ?_, fun j hj => ?_⟩
  · have hq := (hR.2.1 u hu).1 j hj
    unfold dClimate vn
    by_cases e : u = v
    · subst e
      rw [show 1 + 12 + 2 * u = 13 + 2 * u by omega] at hq ⊢
      rcases (by omega : j = 0 ∨ j = 1 ∨ j = 2 ∨ j = 3 ∨ j = 4) with rfl | rfl | rfl | rfl | rfl
      · simp (disch := omega) only [wS, wN, uS, uN]
      · simp (disch := omega) only [wS, wN, uS, uN]
      · simp (disch := omega) only [wS, wN, uS, uN]; exact hq
      · simp (disch := omega) only [wS, wN, uS, uN]; exact hq
      · simp (disch := omega) only [wS, wN, uS, uN]; exact hq
    · rw [hrow _ (by omega), hq]
      simp (disch := omega) only [uS, uN]
      rfl
  · rw [(hR.2.1 u hu).2 j hj]
    unfold dClimate vn
    simp (disch := omega) only [uS, uN]
-- ways
theorem i_dWay (hI : Iv T z m) {a b h : Nat} (ha : a < nV m) (hb : b < nV m) (hn : a ≠ b) (hh : h ≤ 200) : Iv T z (dWay m a b (iN h)) := by
  have h8 := hI.iv8
  have hs : ∀ x, x < 9 ∨ 113 ≤ x → dWay m a b (iN h) x = m x := fun x h => by unfold dWay; simp (disch := omega) only [uS, uN]
  obtain ⟨n1, n2, n3, n4, n5⟩ := ns_of (m := m) (m' := dWay m a b (iN h)) (fun x _ _ => hs x (by omega))
  refine hI.mk0 (fun x _ _ => hs x (by omega)) (fun u hu => ?_) (fun u hu j hj => ?_) (fun u hu => ?_) (jC hI (by omega) n2 n5 (fun x _ _ => hs x (by omega))) (jD hI n2 (fun x _ _ => hs x (by omega))) (jW hI (by omega) (by omega) n3 (fun x _ _ => hs x (by omega))) (jK hI (by omega) (by omega) n4 (fun x _ _ => hs x (by omega)))
  · unfold dWay vn; simp (disch := omega) only [uS, uN]; exact hI.icl u (by omega)
  · unfold dWay vn upd
    split
    · exact ⟨h, hh, rfl⟩
    · split
      · exact ⟨h, hh, rfl⟩
      · exact hI.iwy u hu j hj
  · unfold dWay vn
    simp (disch := omega) only [uS, uN]; exact hI.iwd u hu
theorem c_changeWay (hR : Rl w 1 m) (hI : Iv T z m) {a b : Nat} {h : Int32} (ha : a < nV m) (hb : b < nV m) : ∃ w', sX4_changeWay w (iN a) (iN b) h = some (vn m a (5 + b), w') ∧ Rl w' 1 (dWay m a b h) ∧ outb w w' := by
  have h8 := hI.iv8
  unfold sX4_changeWay
  rw [idx_iN (by omega) (by decide), ob, idx_iN (by omega) (by decide), ob, hR.vw (by omega) (by omega)]
  refine ⟨_, rfl, ?_, fun r hr => by simp (disch := omega) only [wN]⟩
  have hs : ∀ x, x < 9 ∨ 113 ≤ x → dWay m a b h x = m x := fun x hx => by unfold dWay; simp (disch := omega) only [uS, uN]
  obtain ⟨n1, n2, n3, n4, n5⟩ := ns_of (m := m) (m' := dWay m a b h) (fun x _ _ => hs x (by omega))
  have hrow : ∀ r, r ≠ 13 + 2 * a + 1 → r ≠ 13 + 2 * b + 1 → wst (wst w (13 + 2 * a + 1) b h) (13 + 2 * b + 1) a h r = w r := fun r h1 h2 => by simp (disch := omega) only [wN]
  refine ⟨sS hR (hrow 1 (by omega) (by omega)) (fun x _ _ => hs x (by omega)), fun u hu => ?_, sA hR (fun r h1 h2 => hrow r (by omega) (by omega)) (fun x h1 h2 => hs x (by omega)), sC hR (fun r h1 h2 => hrow r (by omega) (by omega)) (fun x h1 h2 => hs x (by omega)) n2 hI.ic12 n4 hI.ik4, sP hR (fun r h1 h2 => hrow r (by omega) (by omega)) (fun x h1 h2 => hs x (by omega)), sW hR (fun r h1 h2 => hrow r (by omega) (by omega)) (fun x h1 h2 => hs x (by omega)) n3 hI.iw16, sZ hR (fun r h1 h2 => hrow r (by omega) (by omega)) n3, sL hR (fun r h1 h2 => hrow r (by omega) (by omega)) (fun x h1 h2 => hs x (by omega)), sK hR (hrow _ (by omega) (by omega)) (fun x h1 h2 => hs x (by omega))⟩
  rw [hrow (1 + 12 + 2 * u) (by omega) (by omega)]
  refine ⟨fun j hj => ?_, fun j hj => ?_⟩
  · rw [(hR.2.1 u hu).1 j hj]
    unfold dWay vn
    simp (disch := omega) only [uS, uN]
  · have hq := (hR.2.1 u hu).2 j hj
    rw [show 1 + 12 + 2 * u + 1 = 13 + 2 * u + 1 by omega] at hq ⊢
    unfold dWay vn
    by_cases e1 : u = b ∧ j = a
    · obtain ⟨rfl, rfl⟩ := e1
      rw [wS, uS, uS]
    · have : ¬ (9 + 13 * u + (5 + j)) = 9 + 13 * b + (5 + a) := by omega
      rw [uN this]
      have e3 : wst (wst w (13 + 2 * a + 1) b h) (13 + 2 * b + 1) a h (13 + 2 * u + 1) j = wst w (13 + 2 * a + 1) b h (13 + 2 * u + 1) j := by
        by_cases e : u = b
        · subst e
          rw [wS, uN (by omega)]
        · rw [wN (by omega)]
      rw [e3]
      by_cases e2 : u = a ∧ j = b
      · obtain ⟨rfl, rfl⟩ := e2
        rw [wS, uS, uS]
      · have : ¬ (9 + 13 * u + (5 + j)) = 9 + 13 * a + (5 + b) := by omega
        rw [uN this]
        by_cases e : u = a
        · subst e
          rw [wS, uN (by omega)]; exact hq
        · rw [wN (by omega)]; exact hq
-- lenders
theorem i_dLender (hI : Iv T z m) {l j : Nat} {a : Int32} (hl : l < 6) (hj : j < 4) : Iv T z (dLender m l j a) := by
  have hs : ∀ x, x < 113 ∨ 137 ≤ x → dLender m l j a x = m x := fun x h => by unfold dLender; simp (disch := omega) only [uS, uN]
  obtain ⟨n1, n2, n3, n4, n5⟩ := ns_of (m := m) (m' := dLender m l j a) (fun x _ _ => hs x (by omega))
  exact hI.mk0 (fun x _ _ => hs x (by omega)) (jV1 hI n1 (fun x _ _ => hs x (by omega))) (jV2 hI (fun x _ _ => hs x (by omega))) (jV3 hI (fun x _ _ => hs x (by omega))) (jC hI (by omega) n2 n5 (fun x _ _ => hs x (by omega))) (jD hI n2 (fun x _ _ => hs x (by omega))) (jW hI (by omega) (by omega) n3 (fun x _ _ => hs x (by omega))) (jK hI (by omega) (by omega) n4 (fun x _ _ => hs x (by omega)))
theorem c_changeLender (hR : Rl w 1 m) (hI : Iv T z m) {l j : Nat} {a : Int32} (hl : l < 6) (hj : j < 4) : ∃ w', sX4_changeLender w (iN l) (iN j) a = some (ln m l j, w') ∧ Rl w' 1 (dLender m l j a) ∧ outb w w' := by
  unfold sX4_changeLender
  rw [idx_iN (by omega) (by decide), ob, idx_iN (by omega) (by decide), ob, hR.l hl hj]
  refine ⟨_, rfl, ?_, fun r hr => by simp (disch := omega) only [wN]⟩
  have hs : ∀ x, x < 113 ∨ 137 ≤ x → dLender m l j a x = m x := fun x h => by unfold dLender; simp (disch := omega) only [uS, uN]
  obtain ⟨n1, n2, n3, n4, n5⟩ := ns_of (m := m) (m' := dLender m l j a) (fun x _ _ => hs x (by omega))
  have hrow : ∀ r, r ≠ 7 + l → wst w (7 + l) j a r = w r := fun r h1 => by simp (disch := omega) only [wN]
  refine ⟨sS hR (hrow 1 (by omega)) (fun x _ _ => hs x (by omega)), sV hR (fun r h1 h2 => hrow r (by omega)) (fun x h1 h2 => hs x (by omega)), sA hR (fun r h1 h2 => hrow r (by omega)) (fun x h1 h2 => hs x (by omega)), sC hR (fun r h1 h2 => hrow r (by omega)) (fun x h1 h2 => hs x (by omega)) n2 hI.ic12 n4 hI.ik4, sP hR (fun r h1 h2 => hrow r (by omega)) (fun x h1 h2 => hs x (by omega)), sW hR (fun r h1 h2 => hrow r (by omega)) (fun x h1 h2 => hs x (by omega)) n3 hI.iw16, sZ hR (fun r h1 h2 => hrow r (by omega)) n3, fun u hu i hi => ?_, sK hR (hrow _ (by omega)) (fun x h1 h2 => hs x (by omega))⟩
  have hq := hR.2.2.2.2.2.2.2.1 u hu i hi
  rw [show 1 + 6 + u = 7 + u by omega] at hq ⊢
  unfold dLender ln
  by_cases e : u = l
  · subst e
    by_cases e2 : i = j
    · subst e2; rw [wS, uS, uS]
    · rw [wS, uN e2, uN (by omega)]; exact hq
  · rw [wN (by omega), uN (by omega)]; exact hq
-- the rate for ways
theorem i_dRate (hI : Iv T z m) {a : Int32} : Iv T z (dRate m a) := by
  have hs : ∀ x, x ≠ 8 → dRate m a x = m x := fun x h => by unfold dRate; rw [uN h]
  obtain ⟨n1, n2, n3, n4, n5⟩ := ns_of (m := m) (m' := dRate m a) (fun x _ _ => hs x (by omega))
  exact hI.mk0 (fun x _ _ => hs x (by omega)) (jV1 hI n1 (fun x _ _ => hs x (by omega))) (jV2 hI (fun x _ _ => hs x (by omega))) (jV3 hI (fun x _ _ => hs x (by omega))) (jC hI (by omega) n2 n5 (fun x _ _ => hs x (by omega))) (jD hI n2 (fun x _ _ => hs x (by omega))) (jW hI (by omega) (by omega) n3 (fun x _ _ => hs x (by omega))) (jK hI (by omega) (by omega) n4 (fun x _ _ => hs x (by omega)))
theorem c_changeWayRate (hR : Rl w 1 m) (hI : Iv T z m) {a : Int32} : ∃ w', sX4_changeWayRate w a = some (m 8, w') ∧ Rl w' 1 (dRate m a) ∧ outb w w' := by
  unfold sX4_changeWayRate
  rw [hR.s.2.1]
  refine ⟨_, rfl, ?_, fun r hr => by simp (disch := omega) only [wN]⟩
  have hs : ∀ x, x ≠ 8 → dRate m a x = m x := fun x h => by unfold dRate; rw [uN h]
  obtain ⟨n1, n2, n3, n4, n5⟩ := ns_of (m := m) (m' := dRate m a) (fun x _ _ => hs x (by omega))
  have hrow : ∀ r, r ≠ 1 → wst w 1 1 a r = w r := fun r h1 => by simp (disch := omega) only [wN]
  refine ⟨?_, sV hR (fun r h1 h2 => hrow r (by omega)) (fun x h1 h2 => hs x (by omega)), sA hR (fun r h1 h2 => hrow r (by omega)) (fun x h1 h2 => hs x (by omega)), sC hR (fun r h1 h2 => hrow r (by omega)) (fun x h1 h2 => hs x (by omega)) n2 hI.ic12 n4 hI.ik4, sP hR (fun r h1 h2 => hrow r (by omega)) (fun x h1 h2 => hs x (by omega)), sW hR (fun r h1 h2 => hrow r (by omega)) (fun x h1 h2 => hs x (by omega)) n3 hI.iw16, sZ hR (fun r h1 h2 => hrow r (by omega)) n3, sL hR (fun r h1 h2 => hrow r (by omega)) (fun x h1 h2 => hs x (by omega)), sK hR (hrow _ (by omega)) (fun x h1 h2 => hs x (by omega))⟩
  obtain ⟨a1, a2, a3, a4, a5, a6, a7, a8, a9⟩ := hR.1
  rw [wS]
  unfold RlS dRate
  simp (disch := omega) only [uS, uN]
  exact ⟨a1, trivial, a3, a4, a5, a6, a7, a8, a9⟩
-- couriers
theorem i_dCourier (hI : Iv T z m) {v : Nat} (hv : v < nV m) (h4 : nK m < 4) : Iv T z (dCourier m v) := by
  have hs : ∀ x, x ≠ 4 → (x < 137 ∨ 145 ≤ x) → dCourier m v x = m x := fun x h h' => by unfold dCourier; simp (disch := omega) only [uS, uN]
  have n1 : nV (dCourier m v) = nV m := by unfold nV; rw [hs 1 (by decide) (by decide)]
  have n2 : nC (dCourier m v) = nC m := by unfold nC; rw [hs 2 (by decide) (by decide)]
  have n3 : nW (dCourier m v) = nW m := by unfold nW; rw [hs 3 (by decide) (by decide)]
  have n4 : nK (dCourier m v) = nK m + 1 := by unfold dCourier nK; rw [uS]; exact iN_nat (by unfold nK at h4; omega)
  have n5 : tm (dCourier m v) = tm m := by unfold tm; rw [hs 0 (by decide) (by decide)]
  refine ⟨⟨?_, by rw [n5]; exact hI.itT, hI.iT9⟩, ⟨?_, by rw [n1]; exact hI.iv8⟩, ⟨?_, by rw [n2]; exact hI.ic12⟩, ⟨?_, by rw [n3]; exact hI.iw16⟩, ⟨?_, by rw [n4]; omega⟩, jV1 hI n1 (fun x _ _ => hs x (by omega) (by omega)), jV2 hI (fun x _ _ => hs x (by omega) (by omega)), jV3 hI (fun x _ _ => hs x (by omega) (by omega)), jC hI (by omega) n2 n5 (fun x _ _ => hs x (by omega) (by omega)), jD hI n2 (fun x _ _ => hs x (by omega) (by omega)), jW hI (by omega) (by omega) n3 (fun x _ _ => hs x (by omega) (by omega)), fun k hk => ?_⟩
  · rw [n5, hs 0 (by decide) (by decide)]; exact hI.it
  · rw [n1, hs 1 (by decide) (by decide)]; exact hI.iv
  · rw [n2, hs 2 (by decide) (by decide)]; exact hI.ic
  · rw [n3, hs 3 (by decide) (by decide)]; exact hI.iw
  · rw [n4]; unfold dCourier; rw [uS]
  · have hat : atv (dCourier m v) = atv m := by
      funext d
      unfold atv
      by_cases h : d < 12
      · rw [if_pos h, if_pos h]; exact hs _ (by omega) (by omega)
      · rw [if_neg h, if_neg h]
    rw [n1, n2, hat]
    unfold dCourier co tg
    by_cases e : k = nK m
    · subst e
      simp (disch := omega) only [uS, uN]
      exact ⟨Or.inr ⟨v, hv, rfl⟩, Or.inl rfl, fun _ => rfl⟩
    · simp (disch := omega) only [uS, uN]
      exact hI.iko k (by omega)
theorem c_makeCourier (hR : Rl w 1 m) (hI : Iv T z m) {v : Nat} (h4 : nK m < 4) : ∃ w', sX4_makeCourier w (iN v) = some (m 4, w') ∧ Rl w' 1 (dCourier m v) ∧ outb w w' := by
  unfold sX4_makeCourier
  rw [hR.r8 hI, idx_iN h4 (by decide), ob, ← hR.r8 hI, hR.s.2.2.2.2.2.2.2.2]
  refine ⟨_, rfl, ?_, fun r hr => by simp (disch := omega) only [wN]⟩
  have hs : ∀ x, x ≠ 4 → (x < 137 ∨ 145 ≤ x) → dCourier m v x = m x := fun x h h' => by unfold dCourier; simp (disch := omega) only [uS, uN]
  have n2 : nC (dCourier m v) = nC m := by unfold nC; rw [hs 2 (by decide) (by decide)]
  have n3 : nW (dCourier m v) = nW m := by unfold nW; rw [hs 3 (by decide) (by decide)]
  have n4 : nK (dCourier m v) = nK m + 1 := by unfold dCourier nK; rw [uS]; exact iN_nat (by unfold nK at h4; omega)
  have hv : wst w 5 (nK m) (iN v) 1 8 + 1 = iN (nK m + 1) := by rw [wN (by omega), hR.r8 hI, iN_s]
  rw [hv]
  have hrow : ∀ r, r ≠ 1 → r ≠ 5 → wst (wst w 5 (nK m) (iN v)) 1 8 (iN (nK m + 1)) r = w r := fun r h1 h2 => by simp (disch := omega) only [wN]
  refine ⟨?_, sV hR (fun r h1 h2 => hrow r (by omega) (by omega)) (fun x h1 h2 => hs x (by omega) (by omega)), sA hR (fun r h1 h2 => hrow r (by omega) (by omega)) (fun x h1 h2 => hs x (by omega) (by omega)), fun c hc => ?_, sP hR (fun r h1 h2 => hrow r (by omega) (by omega)) (fun x h1 h2 => hs x (by omega) (by omega)), sW hR (fun r h1 h2 => hrow r (by omega) (by omega)) (fun x h1 h2 => hs x (by omega) (by omega)) n3 hI.iw16, sZ hR (fun r h1 h2 => hrow r (by omega) (by omega)) n3, sL hR (fun r h1 h2 => hrow r (by omega) (by omega)) (fun x h1 h2 => hs x (by omega) (by omega)), fun k hk => ?_⟩
  · obtain ⟨a1, a2, a3, a4, a5, a6, a7, a8, a9⟩ := hR.1
    rw [wS, wN (by decide)]
    unfold RlS dCourier
    simp (disch := omega) only [uS, uN]
    exact ⟨a1, a2, a3, a4, a5, a6, a7, a8, trivial⟩
  · have h12 := hI.ic12
    rw [n2] at hc
    rw [hrow _ (by omega) (by omega), n4]
    obtain ⟨b1, b2, b3, b4, b5, b6, b7⟩ := hR.2.2.2.1 c hc
    have hcr : ∀ j, j < 9 → cr (dCourier m v) c j = cr m c j := fun j hj => hs _ (by omega) (by omega)
    unfold RlC
    rw [hcr 1 (by decide), hcr 2 (by decide), hcr 3 (by decide), hcr 4 (by decide), hcr 5 (by decide), hcr 8 (by decide)]
    refine ⟨b1, b2, b3, b4, b5, ?_, fun k hk => ?_⟩
    · rcases b6 with e | ⟨k, hk, e⟩
      · exact Or.inl e
      · exact Or.inr ⟨k, by omega, e⟩
    · unfold dCourier tg
      by_cases e : k = nK m
      · subst e
        simp (disch := omega) only [uS, uN]
        refine ⟨fun e => ?_, fun e => (m1_iN (by omega) e).elim⟩
        rcases b6 with e' | ⟨k, hk, e'⟩
        · exact (m1_iN (by omega) (e'.symm.trans e)).elim
        · have := (iN_eq (by omega) (by omega)).mp (e'.symm.trans e)
          omega
      · simp (disch := omega) only [uS, uN]
        exact b7 k (by omega)
  · have hq := hR.2.2.2.2.2.2.2.2 k hk
    show wst (wst w 5 (nK m) (iN v)) 1 8 (iN (nK m + 1)) 5 k = _
    rw [wN (by decide), wS]
    unfold dCourier co
    by_cases e : k = nK m
    · subst e
      simp (disch := omega) only [uS, uN]
    · simp (disch := omega) only [uS, uN]
      exact hq
end MZ
