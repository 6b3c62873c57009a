/-! MAKINGS: crates and works -/
section MC
variable {T z : Nat} {m m' : Nat → Int32} {w w' : Wl}
theorem nC_le {m : Nat → Int32} : nC m < 2147483648 := nat_lt _
theorem nW_le {m : Nat → Int32} : nW m < 2147483648 := nat_lt _
theorem dCrate_s {v : Nat} {a : Int32} (h : nC m < 12) : ∀ x, x ≠ 2 → (x < 145 + 9 * nC m ∨ 154 + 9 * nC m ≤ x) → dCrate m v a x = m x := fun x h1 h2 => by unfold dCrate; simp (disch := omega) only [uS, uN]
theorem dCrate_n {v : Nat} {a : Int32} (h : nC m < 12) : nV (dCrate m v a) = nV m ∧ nC (dCrate m v a) = nC m + 1 ∧ nW (dCrate m v a) = nW m ∧ nK (dCrate m v a) = nK m ∧ tm (dCrate m v a) = tm m := by
  refine ⟨?_, ?_, ?_, ?_, ?_⟩
  · unfold nV; rw [dCrate_s h 1 (by decide) (by omega)]
  · unfold nC at h
    unfold dCrate nC
    simp (disch := omega) only [uS, uN]
    exact iN_nat (by omega)
  · unfold nW; rw [dCrate_s h 3 (by decide) (by omega)]
  · unfold nK; rw [dCrate_s h 4 (by decide) (by omega)]
  · unfold tm; rw [dCrate_s h 0 (by decide) (by omega)]
theorem dCrate_c {v : Nat} {a : Int32} (h : nC m < 12) : cr (dCrate m v a) (nC m) 0 = a ∧ cr (dCrate m v a) (nC m) 1 = 1 ∧ cr (dCrate m v a) (nC m) 2 = -1 ∧ cr (dCrate m v a) (nC m) 3 = iN v ∧ cr (dCrate m v a) (nC m) 4 = -1 ∧ cr (dCrate m v a) (nC m) 5 = -1 ∧ cr (dCrate m v a) (nC m) 6 = cr m (nC m) 6 ∧ cr (dCrate m v a) (nC m) 7 = cr m (nC m) 7 := by
  unfold dCrate cr
  simp (disch := omega) only [uS, uN]
  exact ⟨trivial, trivial, trivial, trivial, trivial, trivial, trivial, trivial⟩
theorem dCrate_o {v d j : Nat} {a : Int32} (h : nC m < 12) (hd : d ≠ nC m) (hj : j < 9) : cr (dCrate m v a) d j = cr m d j := dCrate_s h _ (by omega) (by omega)
theorem i_dCrate (hI : Iv T z m) {v a : Nat} (hv : v < nV m) (ha1 : 1 ≤ a) (ha2 : a ≤ 4) (h : nC m < 12) : Iv T z (dCrate m v (iN a)) := by
  obtain ⟨n1, n2, n3, n4, n5⟩ := dCrate_n (v := v) (a := iN a) h
  have hs := dCrate_s (v := v) (a := iN a) h
  obtain ⟨c0, c1, c2, c3, c4, c5, c6, c7⟩ := dCrate_c (v := v) (a := iN a) h
  refine ⟨⟨?_, by rw [n5]; exact hI.itT, hI.iT9⟩, ⟨?_, by rw [n1]; exact hI.iv8⟩, ⟨?_, by rw [n2]; omega⟩, ⟨?_, by rw [n3]; exact hI.iw16⟩, ⟨?_, by rw [n4]; exact hI.ik4⟩, jV1 hI n1 (fun x _ _ => hs x (by omega) (by omega)), jV2 hI (fun x _ _ => hs x (by omega) (by omega)), jV3 hI (fun x _ _ => hs x (by omega) (by omega)), fun c hc => ?_, fun c hc => ?_, jW hI (by omega) (by omega) n3 (fun x _ _ => hs x (by omega) (by omega)), fun k hk => ?_⟩
  · rw [n5, hs 0 (by decide) (by omega)]; exact hI.it
  · rw [n1, hs 1 (by decide) (by omega)]; exact hI.iv
  · rw [n2]; unfold dCrate; simp (disch := omega) only [uS, uN]
  · rw [n3, hs 3 (by decide) (by omega)]; exact hI.iw
  · rw [n4, hs 4 (by decide) (by omega)]; exact hI.ik
  · rw [n1, n2, n5]
    by_cases e : c = nC m
    · subst e
      unfold COk
      rw [c0, c1, c2, c3, c4, c5]
      exact ⟨Or.inr rfl, ⟨a, ha1, ha2, rfl⟩, Or.inl rfl, Or.inr ⟨⟨v, hv, rfl⟩, rfl, rfl⟩, fun q => absurd q (by decide)⟩
    · refine (hI.ico c (by omega)).congr (Nat.le_refl _) (by omega) rfl id (fun j hj => dCrate_o h e hj) (fun d hd _ _ p => ?_)
      rw [opn_c (by omega)] at p ⊢
      rw [dCrate_o h (by omega) (by decide)]; exact p
  · by_cases e : c = nC m
    · subst e
      refine ⟨1, iN_m1 (by omega), ?_⟩
      show hol _ (iN (nC m)).toNatClampNeg = -1
      rw [iN_nat (by omega), hol_c h, c2]
    · obtain ⟨k, hk⟩ := hI.idp c (by omega)
      refine ⟨k, dp_congr (by omega) hI.ich (fun c' hc' => ?_) (Or.inr ⟨c, by omega, rfl⟩) hk⟩
      rw [hol_c (by omega), hol_c (by omega), dCrate_o h (by omega) (by decide)]
  · rw [n1, n2]
    have e1 : co (dCrate m v (iN a)) k = co m k := hs _ (by omega) (by have := hI.ik4; omega)
    have e2 : tg (dCrate m v (iN a)) k = tg m k := hs _ (by omega) (by have := hI.ik4; omega)
    rw [e1, e2]
    refine (hI.iko k (by omega)).congr (Nat.le_refl _) (by omega) (fun d hd _ p => ?_)
    rw [atv_c (by omega)] at p ⊢
    rw [dCrate_o h (by omega) (by decide)]; exact p
theorem c_makeCrate (hR : Rl w 1 m) (hI : Iv T z m) {v : Nat} {a : Int32} (h : nC m < 12) : ∃ w', sX4_makeCrate w (iN v) a = some (m 2, w') ∧ Rl w' 1 (dCrate m v a) ∧ outb w w' := by
  obtain ⟨n1, n2, n3, n4, n5⟩ := dCrate_n (v := v) (a := a) h
  have hs := dCrate_s (v := v) (a := a) h
  obtain ⟨c0, c1, c2, c3, c4, c5, c6, c7⟩ := dCrate_c (v := v) (a := a) h
  have h4 := hI.ik4
  unfold sX4_makeCrate sX3_standAt
  rw [hR.r6 hI, idx_iN h (by decide), ob, ob, ← hR.r6 hI, hR.s.2.2.2.2.2.2.1]
  generalize hw' : wst (wst (wst (wst (wst (wst (wst (wst w (29 + nC m) 0 a) (29 + nC m) 1 1) (29 + nC m) 2 (-1)) (29 + nC m) 3 (iN v)) (29 + nC m) 4 (-1)) (29 + nC m) 5 (-1)) (29 + nC m) 6 (-1)) 1 6 _ = w'
  have hrow : ∀ r, r ≠ 1 → r ≠ 29 + nC m → w' r = w r := fun r h1 h2 => by rw [← hw']; simp (disch := omega) only [wN]
  have h1row : w' 1 = upd (w 1) 6 (iN (nC m + 1)) := by
    rw [← hw', wS]
    simp (disch := omega) only [wN]
    rw [hR.r6 hI, iN_s]
  have hcrow : w' (29 + nC m) = upd (upd (upd (upd (upd (upd (upd (w (29 + nC m)) 0 a) 1 1) 2 (-1)) 3 (iN v)) 4 (-1)) 5 (-1)) 6 (-1) := by
    rw [← hw', wN (by omega)]
    simp only [wS]
  refine ⟨w', rfl, ?_, fun r hr => hrow r (by omega) (by omega)⟩
  refine ⟨?_, sV hR (fun r h1 h2 => hrow r (by omega) (by omega)) (fun x _ _ => hs x (by omega) (by omega)), fun c hc => ?_, fun c hc => ?_, sP hR (fun r h1 h2 => hrow r (by omega) (by omega)) (fun x _ _ => hs x (by omega) (by omega)), sW hR (fun r h1 h2 => hrow r (by omega) (by omega)) (fun x _ _ => hs x (by omega) (by omega)) n3 hI.iw16, sZ hR (fun r h1 h2 => hrow r (by omega) (by omega)) n3, sL hR (fun r h1 h2 => hrow r (by omega) (by omega)) (fun x _ _ => hs x (by omega) (by omega)), sK hR (hrow _ (by omega) (by omega)) (fun x _ _ => hs x (by omega) (by omega))⟩
  · obtain ⟨a1, a2, a3, a4, a5, a6, a7, a8, a9⟩ := hR.1
    rw [h1row]
    unfold RlS dCrate
    simp (disch := omega) only [uS, uN]
    exact ⟨a1, a2, a3, a4, a5, a6, trivial, a8, a9⟩
  · by_cases e : c = nC m
    · subst e
      obtain ⟨b1, b2, b3, b4, b5⟩ := hR.a hc
      rw [show 1 + 28 + nC m = 29 + nC m by omega, hcrow]
      unfold RlA
      rw [c0, c1, c6, c7]
      simp (disch := omega) only [uS, uN]
      exact ⟨trivial, trivial, Or.inr trivial, b4, b5⟩
    · exact (hR.2.2.1 c hc).of (hrow _ (by omega) (by omega)) (fun j hj => dCrate_o h e hj)
  · rw [n4]
    have et : ∀ k, k < nK m → tg (dCrate m v a) k = tg m k := fun k hk => hs _ (by omega) (by omega)
    by_cases e : c = nC m
    · subst e
      rw [show 1 + 28 + nC m = 29 + nC m by omega, hcrow]
      unfold RlC
      rw [c1, c2, c3, c4, c5]
      simp (disch := omega) only [uS, uN, if_true]
      refine ⟨trivial, trivial, trivial, trivial, fun q => absurd q (by decide), Or.inl trivial, fun k hk => ?_⟩
      rw [et k hk]
      refine ⟨fun q => (m1_iN (by omega) q).elim, fun q => ?_⟩
      rcases (hI.iko k hk).2.1 with e | ⟨c', hc', e, -⟩
      · exact (m1_iN (by omega) (e.symm.trans q)).elim
      · have := (iN_eq (by omega) (by omega)).mp (e.symm.trans q)
        omega
    · exact (hR.2.2.2.1 c (by omega)).of (hrow _ (by omega) (by omega)) (fun j hj => dCrate_o h e hj) (fun k hk => by rw [et k hk])
-- works
theorem dWork_s {v : Nat} {l a b e : Int32} (h : nW m < 16) : ∀ x, x ≠ 3 → (x < 253 + 18 * nW m ∨ 253 + 18 * nW m + 8 ≤ x) → dWork m v l a b e x = m x := fun x h1 h2 => by unfold dWork; simp (disch := omega) only [uS, uN]
theorem dWork_n {v : Nat} {l a b e : Int32} (h : nW m < 16) : nV (dWork m v l a b e) = nV m ∧ nC (dWork m v l a b e) = nC m ∧ nW (dWork m v l a b e) = nW m + 1 ∧ nK (dWork m v l a b e) = nK m ∧ tm (dWork m v l a b e) = tm m := by
  refine ⟨?_, ?_, ?_, ?_, ?_⟩
  · unfold nV; rw [dWork_s h 1 (by decide) (by omega)]
  · unfold nC; rw [dWork_s h 2 (by decide) (by omega)]
  · unfold nW at h
    unfold dWork nW
    simp (disch := omega) only [uS, uN]
    exact iN_nat (by omega)
  · unfold nK; rw [dWork_s h 4 (by decide) (by omega)]
  · unfold tm; rw [dWork_s h 0 (by decide) (by omega)]
theorem dWork_c {v : Nat} {l a b e : Int32} (h : nW m < 16) : wk (dWork m v l a b e) (nW m) 0 = l ∧ wk (dWork m v l a b e) (nW m) 1 = a ∧ wk (dWork m v l a b e) (nW m) 2 = b ∧ wk (dWork m v l a b e) (nW m) 3 = e ∧ wk (dWork m v l a b e) (nW m) 4 = -1 ∧ wk (dWork m v l a b e) (nW m) 5 = iN v ∧ wk (dWork m v l a b e) (nW m) 6 = 0 ∧ wk (dWork m v l a b e) (nW m) 7 = 0 := by
  unfold dWork wk
  simp (disch := omega) only [uS, uN]
  exact ⟨trivial, trivial, trivial, trivial, trivial, trivial, trivial, trivial⟩
theorem dWork_o {v d j : Nat} {l a b e : Int32} (h : nW m < 16) (hd : d ≠ nW m) (hj : j < 18) : wk (dWork m v l a b e) d j = wk m d j := dWork_s h _ (by omega) (by omega)
theorem i_dWork (hI : Iv T z m) {v l a : Nat} {b e : Int32} (hv : v < nV m) (hl : l < 6) (ha1 : 1 ≤ a) (ha2 : a ≤ 1000000) (he : e = 0 ∨ e = 1) (h : nW m < 16) : Iv T z (dWork m v (iN l) (iN a) b e) := by
  obtain ⟨n1, n2, n3, n4, n5⟩ := dWork_n (v := v) (l := iN l) (a := iN a) (b := b) (e := e) h
  have hs := dWork_s (v := v) (l := iN l) (a := iN a) (b := b) (e := e) h
  obtain ⟨c0, c1, c2, c3, c4, c5, c6, c7⟩ := dWork_c (v := v) (l := iN l) (a := iN a) (b := b) (e := e) h
  refine ⟨⟨?_, by rw [n5]; exact hI.itT, hI.iT9⟩, ⟨?_, by rw [n1]; exact hI.iv8⟩, ⟨?_, by rw [n2]; exact hI.ic12⟩, ⟨?_, by rw [n3]; omega⟩, ⟨?_, by rw [n4]; exact hI.ik4⟩, jV1 hI n1 (fun x _ _ => hs x (by omega) (by omega)), jV2 hI (fun x _ _ => hs x (by omega) (by omega)), jV3 hI (fun x _ _ => hs x (by omega) (by omega)), jC hI (by omega) n2 n5 (fun x _ _ => hs x (by omega) (by omega)), jD hI n2 (fun x _ _ => hs x (by omega) (by omega)), fun i hi => ?_, jK hI (by omega) (by omega) n4 (fun x _ _ => hs x (by omega) (by omega))⟩
  · rw [n5, hs 0 (by decide) (by omega)]; exact hI.it
  · rw [n1, hs 1 (by decide) (by omega)]; exact hI.iv
  · rw [n2, hs 2 (by decide) (by omega)]; exact hI.ic
  · rw [n3]; unfold dWork; simp (disch := omega) only [uS, uN]
  · rw [n4, hs 4 (by decide) (by omega)]; exact hI.ik
  · rw [n1, n2]
    by_cases e : i = nW m
    · subst e
      unfold WOk
      rw [c0, c1, c3, c4, c5, c7]
      exact ⟨⟨l, hl, rfl⟩, ⟨a, ha1, ha2, rfl⟩, he, Or.inl rfl, fun _ => ⟨v, hv, rfl⟩, 0, by omega, rfl⟩
    · exact (hI.iwo i (by omega)).congr (Nat.le_refl _) (Nat.le_refl _) (fun j hj => dWork_o h e (by omega))
theorem c_makeWork (hR : Rl w 1 m) (hI : Iv T z m) {v : Nat} {l a b e : Int32} (he : e = 0 ∨ e = 1) (h : nW m < 16) : ∃ w', sX4_makeWork w (iN v) l a b e = some (m 3, w') ∧ Rl w' 1 (dWork m v l a b e) ∧ outb w w' := by
  obtain ⟨n1, n2, n3, n4, n5⟩ := dWork_n (v := v) (l := l) (a := a) (b := b) (e := e) h
  have hs := dWork_s (v := v) (l := l) (a := a) (b := b) (e := e) h
  obtain ⟨c0, c1, c2, c3, c4, c5, c6, c7⟩ := dWork_c (v := v) (l := l) (a := a) (b := b) (e := e) h
  unfold sX4_makeWork
  rw [hR.r7 hI, idx_iN h (by decide), ob, if_pos he, ← hR.r7 hI, hR.s.2.2.2.2.2.2.2.1]
  generalize hw' : wst (wst (wst (wst (wst (wst (wst w (41 + 2 * nW m) 0 l) (41 + 2 * nW m) 1 a) (41 + 2 * nW m) 2 b) (41 + 2 * nW m) 3 e) (41 + 2 * nW m) 4 (-1)) (41 + 2 * nW m) 5 (iN v)) 1 7 _ = w'
  have hrow : ∀ r, r ≠ 1 → r ≠ 41 + 2 * nW m → w' r = w r := fun r h1 h2 => by rw [← hw']; simp (disch := omega) only [wN]
  have h1row : w' 1 = upd (w 1) 7 (iN (nW m + 1)) := by
    rw [← hw', wS]
    simp (disch := omega) only [wN]
    rw [hR.r7 hI, iN_s]
  have hcrow : w' (41 + 2 * nW m) = upd (upd (upd (upd (upd (upd (w (41 + 2 * nW m)) 0 l) 1 a) 2 b) 3 e) 4 (-1)) 5 (iN v) := by
    rw [← hw', wN (by omega)]
    simp only [wS]
  refine ⟨w', rfl, ?_, fun r hr => hrow r (by omega) (by omega)⟩
  refine ⟨?_, sV hR (fun r h1 h2 => hrow r (by omega) (by omega)) (fun x _ _ => hs x (by omega) (by omega)), sA hR (fun r h1 h2 => hrow r (by omega) (by omega)) (fun x _ _ => hs x (by omega) (by omega)), sC hR (fun r h1 h2 => hrow r (by omega) (by omega)) (fun x _ _ => hs x (by omega) (by omega)) n2 hI.ic12 n4 hI.ik4, fun i hi => ?_, fun i hi => ?_, fun i h1 hi => ?_, sL hR (fun r h1 h2 => hrow r (by omega) (by omega)) (fun x _ _ => hs x (by omega) (by omega)), sK hR (hrow _ (by omega) (by omega)) (fun x _ _ => hs x (by omega) (by omega))⟩
  · obtain ⟨a1, a2, a3, a4, a5, a6, a7, a8, a9⟩ := hR.1
    rw [h1row]
    unfold RlS dWork
    simp (disch := omega) only [uS, uN]
    exact ⟨a1, a2, a3, a4, a5, a6, a7, trivial, a9⟩
  · rw [hrow (1 + 40 + 2 * i + 1) (by omega) (by omega)]
    refine ⟨?_, fun j hj => ?_⟩
    · by_cases e' : i = nW m
      · subst e'
        rw [show 1 + 40 + 2 * nW m = 41 + 2 * nW m by omega, hcrow]
        simp (disch := omega) only [uS, uN]
        exact he
      · rw [hrow _ (by omega) (by omega)]; exact (hR.2.2.2.2.1 i hi).1
    · rw [(hR.2.2.2.2.1 i hi).2 j hj]; exact (hs _ (by omega) (by omega)).symm
  · by_cases e' : i = nW m
    · subst e'
      obtain ⟨z6, z7⟩ := hR.w0 (Nat.le_refl _) h
      rw [show 1 + 40 + 2 * nW m = 41 + 2 * nW m by omega, hcrow]
      unfold RlW
      rw [c0, c1, c2, c3, c4, c5, c6, c7]
      simp (disch := omega) only [uS, uN, if_true]
      exact ⟨trivial, trivial, trivial, trivial, trivial, trivial, z6, z7⟩
    · exact (hR.2.2.2.2.2.1 i (by omega)).of (hrow _ (by omega) (by omega)) (fun j hj => dWork_o h e' (by omega))
  · rw [hrow _ (by omega) (by omega)]
    exact hR.2.2.2.2.2.2.1 i (by omega) hi
end MC
