/-! DEEDS: closing in the model, nesting, taking out, packing, unpacking -/
section DF
variable {T z : Nat} {m m' : Nat → Int32} {w w' : Wl}
-- nesting
theorem dNests_eqo {c d : Nat} : eqo (145 + 9 * c) (154 + 9 * c) m (dNests m c d) := eqo.rf.upd1 (by omega) (by omega)
theorem dNests_f {c d j : Nat} (hj : j ≠ 2) : cr (dNests m c d) c j = cr m c j := by unfold dNests cr; rw [uN (by omega)]
theorem dNests_2 {c d : Nat} : cr (dNests m c d) c 2 = iN d := by unfold dNests cr; rw [uS]
theorem mNest_of (hI : Iv T z m) {c d : Nat} (hc : c < nC m) (h : mNest m c d = true) : c ≠ d ∧ opb m c = false ∧ cr m c 1 = 0 ∧ cr m c 2 = -1 ∧ ¬ cr m c 3 = -1 ∧ opb m d = true ∧ reach m d = true := by
  unfold mNest at h
  by_cases e : c = d
  · rw [if_pos e] at h; cases h
  rw [if_neg e] at h
  rcases hI.iob hc with ⟨o1, o2⟩ | ⟨o1, o2⟩
  · rw [o2] at h
    simp only [iF] at h
    by_cases h2 : cr m c 2 = -1
    · rw [if_pos h2] at h
      by_cases h3 : cr m c 3 = -1
      · rw [if_pos h3] at h; cases h
      · rw [if_neg h3] at h
        unfold mUse at h
        cases od : opb m d
        · rw [od] at h; cases h
        cases hr : reach m d
        · rw [od, hr] at h; cases h
        exact ⟨e, o2, o1, h2, h3, rfl, rfl⟩
    · rw [if_neg h2] at h; cases h
  · rw [o2] at h; cases h
theorem i_dNests (hI : Iv T z m) {c d : Nat} (hc : c < nC m) (hd : d < nC m) (h : mNest m c d = true) : Iv T z (dNests m c d) := by
  have h12 := hI.ic12
  obtain ⟨hne, o2, o1, h2, h3, od, hr⟩ := mNest_of hI hc h
  obtain ⟨a1, a2, a3, a4, a5⟩ := hI.ico c hc
  have hh : ∀ e, e < nC m → e ≠ c → hol (dNests m c d) e = hol m e := fun e he hne => by
    rw [hol_c (by omega), hol_c (by omega)]; exact dNests_eqo.fr hne (by decide)
  have hod : cr m d 1 = 1 := by
    rcases hI.iob hd with ⟨_, q⟩ | ⟨q, _⟩
    · rw [q] at od; cases od
    · exact q
  refine hI.crate hc dNests_eqo (fun _ _ q => q) ?_ (fun e he _ _ q => by rw [o1] at q; exact absurd q (by decide)) (fun k hk _ q => by rw [dNests_f (by decide)]; exact q) (fun e he => ?_)
  · unfold COk
    rw [dNests_2, dNests_f (by decide), dNests_f (by decide), dNests_f (by decide), dNests_f (by decide), dNests_f (by decide), dNests_f (by decide), dNests_f (by decide)]
    refine ⟨a1, a2, Or.inr ⟨d, hd, rfl, fun q => ?_⟩, Or.inr ?_, a5⟩
    · rw [o1] at q; exact absurd q (by decide)
    · rcases a4 with q | q
      · exact (h3 q.1).elim
      · exact q
  · obtain ⟨k, hk⟩ := hI.idp e he
    refine dp_re (n := nC m) (c := c) (h := hol m) (by omega) hI.ich hh ?_ k (iN e) (Or.inr ⟨e, he, rfl⟩) hk
    obtain ⟨k', k1, k2⟩ := hI.idc hd
    have k3 := k2.2
    rw [iN_nat (by omega)] at k3
    refine ⟨k' + 1, ?_⟩
    rw [hol_c (by omega), dNests_2]
    refine ⟨iN_m1 (by omega), ?_⟩
    rw [iN_nat (by omega), hh d hd (fun e => hne e.symm)]
    exact dp_av (n := nC m) (c := c) (o := opn m) (by omega) hI.ich hh (by rw [opn_c (by omega), o1]; decide) k' _ (hI.ich d hd) k3 (reach_ao hI hd k2 k1 hr)
theorem c_putCrateInto (hR : Rl w 1 m) (hI : Iv T z m) {c d : Nat} (hc : c < nC m) (hd : d < nC m) (h : mNest m c d = true) : ∃ w', sX4_putCrateInto w (iN c) (iN d) = some (aDirC (dNests m c d) (iN d), w') ∧ Rl w' 1 (dNests m c d) ∧ outb w w' := by
  have h12 := hI.ic12
  have hI' := i_dNests hI hc hd h
  obtain ⟨hne, o2, o1, h2, h3, od, hr⟩ := mNest_of hI hc h
  unfold sX4_putCrateInto sX3_standAt
  rw [idx_iN (by omega) (by decide), ob, ob]
  generalize hw' : wst (wst (wst (wst (wst (wst w (29 + c) 2 (-1)) (29 + c) 3 (-1)) (29 + c) 4 (-1)) (29 + c) 5 (-1)) (29 + c) 6 (-1)) (29 + c) 2 (iN d) = w'
  have hrow : ∀ r, r ≠ 29 + c → w' r = w r := fun r h1 => by rw [← hw']; simp (disch := omega) only [wN]
  have hcrow : w' (29 + c) = upd (upd (upd (upd (upd (upd (w (29 + c)) 2 (-1)) 3 (-1)) 4 (-1)) 5 (-1)) 6 (-1)) 2 (iN d) := by
    rw [← hw']
    simp only [wS]
  have hR' : Rl w' 1 (dNests m c d) := by
    refine hR.crate (c := c) h12 hI.iw16 hI.ik4 (by omega) (fun r hr => hrow r (by omega)) dNests_eqo ?_ (fun _ => ?_)
    · obtain ⟨b1, b2, b3, b4, b5⟩ := hR.a (by omega : c < 12)
      rw [show 1 + 28 + c = 29 + c by omega, hcrow]
      unfold RlA
      rw [dNests_f (by decide), dNests_f (by decide), dNests_f (by decide), dNests_f (by decide)]
      simp (disch := omega) only [uS, uN]
      exact ⟨b1, b2, b3, b4, b5⟩
    · obtain ⟨b1, b2, b3, b4, b5, b6, b7⟩ := hR.c hc
      have a4 : cr m c 4 = -1 ∧ cr m c 5 = -1 := by
        rcases (hI.ico c hc).2.2.2.1 with q | q
        · exact (h3 q.1).elim
        · exact q.2
      rw [show 1 + 28 + c = 29 + c by omega, hcrow]
      unfold RlC
      rw [dNests_2, dNests_f (by decide), dNests_f (by decide), dNests_f (by decide), dNests_f (by decide), dNests_f (by decide), a4.1, a4.2, if_neg (iN_m1 (by omega))]
      simp (disch := omega) only [uS, uN]
      refine ⟨trivial, trivial, trivial, trivial, b5, Or.inl trivial, fun k hk => ⟨fun q => (m1_iN (by have := hI.ik4; omega) q).elim, fun q => (no_tag hI hc h3 k hk q).elim⟩⟩
  refine ⟨w', ?_, hR', fun r hr => hrow r (by omega)⟩
  rw [e6_cratesDirectlyIn hR' hI', ob]
-- taking out
theorem dTakes_eqo {c : Nat} : eqo (145 + 9 * c) (154 + 9 * c) m (dTakes m c) := (eqo.rf.upd1 (by omega) (by omega)).upd1 (by omega) (by omega)
theorem dTakes_f {c j : Nat} (h2 : j ≠ 2) (h3 : j ≠ 3) : cr (dTakes m c) c j = cr m c j := by unfold dTakes; generalize vof m c = q; unfold cr; rw [uN (by omega), uN (by omega)]
theorem dTakes_2 {c : Nat} : cr (dTakes m c) c 2 = -1 := by unfold dTakes cr; rw [uS]
theorem dTakes_3 {c : Nat} : cr (dTakes m c) c 3 = vof m c := by unfold dTakes; generalize vof m c = q; unfold cr; rw [uN (by omega), uS]
theorem mTake_of (hI : Iv T z m) {c : Nat} (hc : c < nC m) (h : mTake m c = true) : ¬ cr m c 2 = -1 ∧ opb m c = false ∧ cr m c 1 = 0 ∧ reach m c = true := by
  unfold mTake at h
  by_cases h2 : cr m c 2 = -1
  · rw [if_pos h2] at h; cases h
  rw [if_neg h2] at h
  rcases hI.iob hc with ⟨o1, o2⟩ | ⟨o1, o2⟩
  · rw [o2] at h
    simp only [iF] at h
    exact ⟨h2, o2, o1, h⟩
  · rw [o2] at h; cases h
theorem i_dTakes (hI : Iv T z m) {c : Nat} (hc : c < nC m) (h : mTake m c = true) : Iv T z (dTakes m c) := by
  have h12 := hI.ic12
  obtain ⟨h2, o2, o1, hr⟩ := mTake_of hI hc h
  obtain ⟨u, hu, eu⟩ := hI.irv hc hr
  obtain ⟨a1, a2, a3, a4, a5⟩ := hI.ico c hc
  have hh : ∀ e, e < nC m → e ≠ c → hol (dTakes m c) e = hol m e := fun e he hne => by
    rw [hol_c (by omega), hol_c (by omega)]; exact dTakes_eqo.fr hne (by decide)
  refine hI.crate hc dTakes_eqo (fun _ _ q => q) ?_ (fun e he _ _ q => by rw [o1] at q; exact absurd q (by decide)) (fun k hk _ q => ?_) (fun e he => ?_)
  · unfold COk
    rw [dTakes_2, dTakes_3, dTakes_f (by decide) (by decide), dTakes_f (by decide) (by decide), dTakes_f (by decide) (by decide), dTakes_f (by decide) (by decide), dTakes_f (by decide) (by decide), dTakes_f (by decide) (by decide)]
    refine ⟨a1, a2, Or.inl rfl, Or.inr ?_, a5⟩
    rcases a4 with q | q
    · exact (h2 q.2.1).elim
    · exact ⟨⟨u, hu, eu⟩, q.2⟩
  · rcases a4 with p | p
    · exact (h2 p.2.1).elim
    · obtain ⟨⟨v, hv, ev⟩, -, -⟩ := p
      exact (iN_m1 (by have := hI.iv8; omega) (ev.symm.trans q)).elim
  · obtain ⟨k, hk⟩ := hI.idp e he
    refine dp_re (n := nC m) (c := c) (h := hol m) (by omega) hI.ich hh ⟨0, ?_⟩ k (iN e) (Or.inr ⟨e, he, rfl⟩) hk
    show hol (dTakes m c) c = -1
    rw [hol_c (by omega), dTakes_2]
theorem c_takeCrateOut (hR : Rl w 1 m) (hI : Iv T z m) {c : Nat} (hc : c < nC m) (h : mTake m c = true) : ∃ w', sX4_takeCrateOut w (iN c) = some (cr m c 2, w') ∧ Rl w' 1 (dTakes m c) ∧ outb w w' := by
  have h12 := hI.ic12
  obtain ⟨h2, o2, o1, hr⟩ := mTake_of hI hc h
  unfold sX4_takeCrateOut sX3_standAt
  rw [idx_iN (by omega) (by decide), ob, e6_venueOfCrate hR hI hc, ob, ob, (hR.c hc).1]
  generalize hw' : wst (wst (wst (wst (wst w (29 + c) 2 (-1)) (29 + c) 3 (vof m c)) (29 + c) 4 (-1)) (29 + c) 5 (-1)) (29 + c) 6 (-1) = w'
  have hrow : ∀ r, r ≠ 29 + c → w' r = w r := fun r h1 => by rw [← hw']; simp (disch := omega) only [wN]
  have hcrow : w' (29 + c) = upd (upd (upd (upd (upd (w (29 + c)) 2 (-1)) 3 (vof m c)) 4 (-1)) 5 (-1)) 6 (-1) := by
    rw [← hw']
    simp only [wS]
  have hR' : Rl w' 1 (dTakes m c) := by
    refine hR.crate (c := c) h12 hI.iw16 hI.ik4 (by omega) (fun r hr => hrow r (by omega)) dTakes_eqo ?_ (fun _ => ?_)
    · obtain ⟨b1, b2, b3, b4, b5⟩ := hR.a (by omega : c < 12)
      rw [show 1 + 28 + c = 29 + c by omega, hcrow]
      unfold RlA
      rw [dTakes_f (by decide) (by decide), dTakes_f (by decide) (by decide), dTakes_f (by decide) (by decide), dTakes_f (by decide) (by decide)]
      simp (disch := omega) only [uS, uN]
      exact ⟨b1, b2, b3, b4, b5⟩
    · obtain ⟨b1, b2, b3, b4, b5, b6, b7⟩ := hR.c hc
      have a4 : (∃ v, v < nV m ∧ cr m c 3 = iN v) ∧ cr m c 4 = -1 ∧ cr m c 5 = -1 := by
        rcases (hI.ico c hc).2.2.2.1 with q | q
        · exact (h2 q.2.1).elim
        · exact q
      obtain ⟨⟨v, hv, ev⟩, a5, a6⟩ := a4
      rw [show 1 + 28 + c = 29 + c by omega, hcrow]
      unfold RlC
      rw [dTakes_2, dTakes_3, dTakes_f (by decide) (by decide), dTakes_f (by decide) (by decide), dTakes_f (by decide) (by decide), dTakes_f (by decide) (by decide), a5, a6, if_pos rfl]
      simp (disch := omega) only [uS, uN]
      refine ⟨trivial, trivial, trivial, trivial, b5, Or.inl trivial, fun k hk => ⟨fun q => (m1_iN (by have := hI.ik4; omega) q).elim, fun q => (no_tag hI hc (by rw [ev]; exact iN_m1 (by have := hI.iv8; omega)) k hk q).elim⟩⟩
  exact ⟨w', rfl, hR', fun r hr => hrow r (by omega)⟩
-- packing
theorem dPacks_eqo {i c : Nat} : eqo (253 + 18 * i) (253 + 18 * i + 18) m (dPacks m i c) := eqo.rf.upd1 (by omega) (by omega)
theorem dPacks_f {i c j : Nat} (hj : j ≠ 4) : wk (dPacks m i c) i j = wk m i j := by unfold dPacks wk; rw [uN (by omega)]
theorem dPacks_4 {i c : Nat} : wk (dPacks m i c) i 4 = iN c := by unfold dPacks wk; rw [uS]
theorem i_dPacks (hI : Iv T z m) {i c : Nat} (hi : i < nW m) (hc : c < nC m) : Iv T z (dPacks m i c) := by
  have h12 := hI.ic12
  refine hI.work hi dPacks_eqo ?_
  obtain ⟨b1, b2, b3, b4, b5, b6⟩ := hI.iwo i hi
  unfold WOk
  rw [dPacks_4, dPacks_f (by decide), dPacks_f (by decide), dPacks_f (by decide), dPacks_f (by decide), dPacks_f (by decide)]
  exact ⟨b1, b2, b3, Or.inr ⟨c, hc, rfl⟩, fun q => (iN_m1 (by omega) q).elim, b6⟩
theorem c_packWork (hR : Rl w 1 m) (hI : Iv T z m) {i c : Nat} (hi : i < nW m) (hc : c < nC m) : ∃ w', sX4_packWork w (iN i) (iN c) = some (aDirW (dPacks m i c) (iN c), w') ∧ Rl w' 1 (dPacks m i c) ∧ outb w w' := by
  have h12 := hI.ic12
  have h16 := hI.iw16
  have hI' := i_dPacks hI hi hc
  unfold sX4_packWork
  rw [idx_iN (by omega) (by decide), ob]
  have hrow : ∀ r, r ≠ 41 + 2 * i → wst (wst w (41 + 2 * i) 4 (iN c)) (41 + 2 * i) 5 (-1) r = w r := fun r h1 => by simp (disch := omega) only [wN]
  have hR' : Rl (wst (wst w (41 + 2 * i) 4 (iN c)) (41 + 2 * i) 5 (-1)) 1 (dPacks m i c) := by
    refine hR.work hI hi (fun r h1 h2 => hrow r h1) dPacks_eqo ?_ (fun j hj => ?_) ?_
    · rw [wS, wS]; simp (disch := omega) only [uN]; exact hR.w3 (by omega)
    · rw [hrow _ (by omega), dPacks_f (by omega)]; have := hR.pl (i := i) (by omega) hj; rwa [show 41 + 2 * i + 1 = 42 + 2 * i by omega] at this
    · obtain ⟨b1, b2, b3, b4, b5, b6, b7, b8⟩ := hR.wo hi
      unfold RlW
      rw [dPacks_4, dPacks_f (by decide), dPacks_f (by decide), dPacks_f (by decide), dPacks_f (by decide), dPacks_f (by decide), dPacks_f (by decide), dPacks_f (by decide), wS, wS, if_neg (iN_m1 (by omega))]
      simp (disch := omega) only [uS, uN]
      exact ⟨b1, b2, b3, b4, trivial, trivial, b7, b8⟩
  refine ⟨_, ?_, hR', fun r hr => hrow r (by omega)⟩
  rw [e6_worksDirectlyIn hR' hI', ob]
-- unpacking
theorem dUnpacks_eqo {i : Nat} : eqo (253 + 18 * i) (253 + 18 * i + 18) m (dUnpacks m i) := (eqo.rf.upd1 (by omega) (by omega)).upd1 (by omega) (by omega)
theorem dUnpacks_f {i j : Nat} (h4 : j ≠ 4) (h5 : j ≠ 5) : wk (dUnpacks m i) i j = wk m i j := by unfold dUnpacks; generalize vof m _ = q; unfold wk; rw [uN (by omega), uN (by omega)]
theorem dUnpacks_4 {i : Nat} : wk (dUnpacks m i) i 4 = -1 := by unfold dUnpacks; generalize vof m _ = q; unfold wk; rw [uS]
theorem dUnpacks_5 {i : Nat} : wk (dUnpacks m i) i 5 = vof m (wk m i 4).toNatClampNeg := by unfold dUnpacks; generalize vof m _ = q; unfold wk; rw [uN (by omega), uS]
theorem mUnp_of (hI : Iv T z m) {i : Nat} (hi : i < nW m) (h : mUnp m i = true) : ∃ c, c < nC m ∧ wk m i 4 = iN c ∧ reach m c = true := by
  have h12 := hI.ic12
  unfold mUnp at h
  rcases hI.iwp hi with e | ⟨c, hc, e⟩
  · rw [if_pos e] at h; cases h
  · rw [e, if_neg (iN_m1 (by omega)), iN_nat (by omega)] at h
    refine ⟨c, hc, e, ?_⟩
    cases ho : opb m c
    · rw [ho] at h; cases h
    · rw [ho] at h
      simp only [iT, if_true] at h
      exact h
theorem i_dUnpacks (hI : Iv T z m) {i : Nat} (hi : i < nW m) (h : mUnp m i = true) : Iv T z (dUnpacks m i) := by
  have h12 := hI.ic12
  obtain ⟨c, hc, e, hr⟩ := mUnp_of hI hi h
  obtain ⟨u, hu, eu⟩ := hI.irv hc hr
  refine hI.work hi dUnpacks_eqo ?_
  obtain ⟨b1, b2, b3, b4, b5, b6⟩ := hI.iwo i hi
  unfold WOk
  rw [dUnpacks_4, dUnpacks_5, e, iN_nat (by omega), dUnpacks_f (by decide) (by decide), dUnpacks_f (by decide) (by decide), dUnpacks_f (by decide) (by decide), dUnpacks_f (by decide) (by decide)]
  exact ⟨b1, b2, b3, Or.inl rfl, fun _ => ⟨u, hu, eu⟩, b6⟩
theorem c_unpackWork (hR : Rl w 1 m) (hI : Iv T z m) {i : Nat} (hi : i < nW m) (h : mUnp m i = true) : ∃ w', sX4_unpackWork w (iN i) = some (vof m (wk m i 4).toNatClampNeg, w') ∧ Rl w' 1 (dUnpacks m i) ∧ outb w w' := by
  have h12 := hI.ic12
  have h16 := hI.iw16
  obtain ⟨c, hc, e, hr⟩ := mUnp_of hI hi h
  unfold sX4_unpackWork
  have hwat : wat m i = vof m (wk m i 4).toNatClampNeg := by unfold wat; rw [e, if_neg (iN_m1 (by omega))]
  rw [e6_venueOfWork hR hI hi, ob, idx_iN (by omega) (by decide), ob, hwat]
  have hrow : ∀ r, r ≠ 41 + 2 * i → wst (wst w (41 + 2 * i) 4 (-1)) (41 + 2 * i) 5 (vof m (wk m i 4).toNatClampNeg) r = w r := fun r h1 => by simp (disch := omega) only [wN]
  refine ⟨_, rfl, ?_, fun r hr => hrow r (by omega)⟩
  refine hR.work hI hi (fun r h1 h2 => hrow r h1) dUnpacks_eqo ?_ (fun j hj => ?_) ?_
  · rw [wS, wS]; simp (disch := omega) only [uN]; exact hR.w3 (by omega)
  · rw [hrow _ (by omega), dUnpacks_f (by omega) (by omega)]; have := hR.pl (i := i) (by omega) hj; rwa [show 41 + 2 * i + 1 = 42 + 2 * i by omega] at this
  · obtain ⟨b1, b2, b3, b4, b5, b6, b7, b8⟩ := hR.wo hi
    unfold RlW
    rw [dUnpacks_4, dUnpacks_5, dUnpacks_f (by decide) (by decide), dUnpacks_f (by decide) (by decide), dUnpacks_f (by decide) (by decide), dUnpacks_f (by decide) (by decide), dUnpacks_f (by decide) (by decide), dUnpacks_f (by decide) (by decide), wS, wS, if_pos rfl]
    simp (disch := omega) only [uS, uN]
    exact ⟨b1, b2, b3, b4, trivial, trivial, b7, b8⟩
end DF
