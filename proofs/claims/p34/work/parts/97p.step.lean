/-! A STEP OF THE LAW -/
def Cn (n : Nat) (m : Nat → Int32) : Prop := (n ≤ nV m ∨ 3 ≤ nV m) ∧ (n ≤ 8 + nC m ∨ 5 ≤ nC m) ∧ (n ≤ 13 + nW m ∨ 6 ≤ nW m)
def Fin1 (T n : Nat) (o : Option Wl) : Prop := ∃ w' m', o = some w' ∧ ST T w' m' ∧ Jv m' ∧ Cn n m'
section SE
variable {T n : Nat} {m m' : Nat → Int32} {w w' : Wl} {lo : Int32 → Option Int32} {lnn : Int32}
theorem low_w (l k : Int32) : sL_low w' l k = sL_low w l k := rfl
theorem e1044 (hS : ST T w m) (hJ : Jv m) (hC : Cn n m) : Fin1 T n (sL_step_1044 lo lnn w) := by
  obtain ⟨w1, a1, a2⟩ := p_sound hS hJ
  refine ⟨w1, m, ?_, a2, hJ, hC⟩
  unfold sL_step_1044
  rw [a1, ob, if_pos rfl]
theorem Fin1.mT {T' : Nat} {o : Option Wl} (h : Fin1 T n o) (h1 : T ≤ T') (h2 : T' ≤ 1000000000) : Fin1 T' n o := by
  obtain ⟨w', m', a, b, c, d⟩ := h
  exact ⟨w', m', a, b.mT h1 h2, c, d⟩
theorem eRes {o : Option (Bool × Wl)} (h : Res T m o) (hC : ∀ m', nV m' = nV m → nC m' = nC m → nW m' = nW m → Cn n m') : Fin1 T n (o.bind (fun r => (if r.1 = true then sL_step_1044 lo lnn r.2 else none))) := by
  obtain ⟨w', m', rfl, b, c, d1, d2, d3, d4⟩ := h
  rw [ob, if_pos rfl]
  exact e1044 b c (hC m' d1 d2 d3)
-- makers
theorem e_venue {y : Int32} (hS : ST T w m) (hJ : Jv m) (hC : ∀ m', nV m ≤ nV m' → (nV m' = nV m + 1 ∨ nV m = 8) → nC m' = nC m → nW m' = nW m → Cn n m') {a b r c : Int32} (h1 : clB a b = true) (h2 : rng 0 500 r = true) (h3 : rng 0 10000000 c = true) (hlow : ∀ w' : Wl, ∃ k, sL_low w' y 51 = some k ∧ a = k - 10) : Fin1 T n (sL_step_278 lo lnn w y (iN (nV m)) a b r c) := by
  have hI := hS.2.1
  have h8 := hI.iv8
  unfold sL_step_278
  by_cases h : nV m = 8
  · rw [t_addVenue hS h h1 h2 h3, ob, if_pos (by rw [h]; rfl)]
    unfold sL_step_299
    rw [if_pos rfl, if_pos (show (-90200 : Int32) < 0 by decide)]
    exact e1044 hS hJ (hC m (Nat.le_refl _) (Or.inr h) rfl rfl)
  · obtain ⟨w1, a1, a2⟩ := u_addVenue hS (by omega) h1 h2 h3
    have S1 := a2.st
    have J1 := j_dVenue (a := a) (b := b) (c := r) (d := c) hI hJ (by omega)
    have hV : nV (dVenue m a b r c) = nV m + 1 := by
      show (upd _ 1 (iN (nV m + 1)) 1).toNatClampNeg = _
      rw [uS, iN_nat (by omega)]
    have he : ∀ x, x ≠ 1 → (x < 9 + 13 * nV m ∨ 9 + 13 * nV m + 4 ≤ x) → dVenue m a b r c x = m x := fun x h1 h2 => by
      unfold dVenue; simp (disch := omega) only [uN]
    have v0 : vn (dVenue m a b r c) (nV m) 0 = a := by unfold dVenue vn; simp (disch := omega) only [uN, uS]
    have v4 : vn (dVenue m a b r c) (nV m) 4 = 0 := (he _ (by omega) (by omega)).trans (hJ.2.2.2.2.1 (nV m) (Nat.le_refl _) (by omega))
    have eC : nC (dVenue m a b r c) = nC m := congrArg Int32.toNatClampNeg (he 2 (by omega) (by omega))
    have eW : nW (dVenue m a b r c) = nW m := congrArg Int32.toNatClampNeg (he 3 (by omega) (by omega))
    generalize dVenue m a b r c = m1 at *
    obtain ⟨k, k1, k2⟩ := hlow w1
    rw [show sL_addVenue w a b r c = _ from lW_s a1, ob, if_neg (show ¬ iN (nV m) = 8 from fun q => h ((iN_eq (b := 8) (by omega) (by decide)).mp q))]
    unfold sL_step_299
    rw [if_pos hI.iv, hI.iv, if_neg (iN_neg (by omega)), q_v0 S1.1 S1.2.1 (by omega), ob, k1, ob, if_pos (v0.trans k2), q_v8 S1.1 S1.2.1 (by omega), ob, if_pos v4]
    exact e1044 S1 J1 (hC m1 (by omega) (Or.inl hV) eC eW)
theorem e_way {v : Nat} {y : Int32} (hS : ST T w m) (hJ : Jv m) (hC : ∀ m', nV m' = nV m → nC m' = nC m → nW m' = nW m → Cn n m') (hv : v < nV m) {b k : Nat} (hb : b < nV m) (hk : k < 40) :
    Fin1 T n ((sL_setWay w (iN v) (iN b) ((1 : Int32) + iN k)).bind (fun r85 => (if r85.1 = (-90100 : Int32) then sL_step_395 lo lnn r85.2 (iN v) (iN b) ((1 : Int32) + iN k) (0 : Int32) else sL_step_395 lo lnn r85.2 (iN v) (iN b) ((1 : Int32) + iN k) (1 : Int32)))) := by
  have hI := hS.2.1
  have h8 := hI.iv8
  rw [show (1 : Int32) + iN k = iN (1 + k) from iN_add 1 k]
  by_cases h : v = b
  · subst h
    rw [t_setWay hS hv, ob, if_pos rfl]
    unfold sL_step_395
    rw [if_pos rfl]
    unfold sL_step_407
    rw [if_pos rfl, if_pos rfl]
    exact e1044 hS hJ (hC m rfl rfl rfl)
  · have hn : ¬ iN v = iN b := fun q => h ((iN_eq (by omega) (by omega)).mp q)
    obtain ⟨w1, a1, a2⟩ := u_setWay hS hv hb h (show 1 + k ≤ 200 by omega)
    have S1 := a2.st
    have J1 := j_dWay (h := iN (1 + k)) hI hJ hv hb
    obtain ⟨g, hg, eg⟩ := hI.iwy v (by omega) b (by omega)
    have he : ∀ (q : Nat → Int32) (a b : Nat) (h : Int32), ∀ x, x < 9 → dWay q a b h x = q x := fun q a b h x hx => by unfold dWay; rw [uN (by omega), uN (by omega)]
    have eb : vn (dWay m v b (iN (1 + k))) b (5 + v) = iN (1 + k) := by unfold dWay vn; rw [uS]
    have eV : nV (dWay m v b (iN (1 + k))) = nV m := congrArg Int32.toNatClampNeg (he _ _ _ _ 1 (by decide))
    have eC : nC (dWay m v b (iN (1 + k))) = nC m := congrArg Int32.toNatClampNeg (he _ _ _ _ 2 (by decide))
    have eW : nW (dWay m v b (iN (1 + k))) = nW m := congrArg Int32.toNatClampNeg (he _ _ _ _ 3 (by decide))
    generalize dWay m v b (iN (1 + k)) = m1 at *
    obtain ⟨w2, b1, b2⟩ := u_setWay S1 (show b < nV m1 by omega) (show v < nV m1 by omega) (Ne.symm h) (show 1 + k ≤ 200 by omega)
    have S2 := b2.st
    have J2 := j_dWay (h := iN (1 + k)) S1.2.1 J1 (show b < nV m1 by omega) (show v < nV m1 by omega)
    rw [show sL_setWay w (iN v) (iN b) (iN (1 + k)) = _ from lW_s a1, ob, eg, if_neg (fun q => by have := iN_neg (a := g) (by omega); rw [show iN g = (-90100 : Int32) from q] at this; exact this (by decide))]
    unfold sL_step_395
    rw [if_neg hn]
    unfold sL_step_407
    rw [if_pos rfl, if_neg hn, show sO_setWay w1 (iN b) (iN v) (iN (1 + k)) = _ from okS_s b1, ob, if_pos eb]
    exact e1044 S2 J2 (hC _ ((congrArg Int32.toNatClampNeg (he _ _ _ _ 1 (by decide))).trans eV) ((congrArg Int32.toNatClampNeg (he _ _ _ _ 2 (by decide))).trans eC) ((congrArg Int32.toNatClampNeg (he _ _ _ _ 3 (by decide))).trans eW))
theorem e_crate {v : Nat} {y : Int32} (hS : ST T w m) (hJ : Jv m) (hC : ∀ m', nV m' = nV m → nC m ≤ nC m' → (nC m' = nC m + 1 ∨ nC m = 12) → nW m' = nW m → Cn n m') (hv : v < nV m) : Fin1 T n (sL_step_455 lo lnn w y (iN (nC m)) (iN v)) := by
  have hI := hS.2.1
  have h8 := hI.iv8
  have h12 := hI.ic12
  obtain ⟨k, hk, elow⟩ := p_low (w := w) y (N := 4) (by decide) (by decide)
  unfold sL_step_455
  rw [show sL_low w y 4 = _ from elow, ob, show (1 : Int32) + iN k = iN (1 + k) from iN_add 1 k]
  by_cases h : nC m = 12
  · rw [t_addCrate hS hv (by omega) (by omega) h, ob, if_pos (by rw [h]; rfl)]
    unfold sL_step_489
    rw [if_pos rfl, if_pos (show (-90200 : Int32) < 0 by decide)]
    exact e1044 hS hJ (hC m rfl (Nat.le_refl _) (Or.inr h) rfl)
  · obtain ⟨w1, a1, a2⟩ := u_addCrate hS hv (show 1 ≤ 1 + k by omega) (show 1 + k ≤ 4 by omega) (by omega)
    have S1 := a2.st
    have J1 := j_dCrate hI hJ hv (show 1 ≤ 1 + k by omega) (show 1 + k ≤ 4 by omega) (by omega)
    obtain ⟨n1, n2, n3, n4, n5⟩ := dCrate_n (m := m) (v := v) (a := iN (1 + k)) (by omega)
    obtain ⟨c0, c1, c2, c3, c4, c5, c6, c7⟩ := dCrate_c (m := m) (v := v) (a := iN (1 + k)) (by omega)
    generalize dCrate m v (iN (1 + k)) = m1 at *
    have hc : nC m < nC m1 := by omega
    rw [show sL_addCrate w (iN v) (iN (1 + k)) = _ from lW_s a1, ob, if_neg (show ¬ iN (nC m) = 12 from fun q => h ((iN_eq (b := 12) (by omega) (by decide)).mp q))]
    unfold sL_step_489
    rw [if_pos hI.ic, hI.ic, if_neg (iN_neg (by omega)), q_c1 S1.1 S1.2.1 hc, ob, if_pos c1, q_c3 S1.1 S1.2.1 hc, ob, if_pos ((vof_top (by omega) c2).trans c3), q_c13 S1.1 S1.2.1 hc, ob, open_reach S1.2.1 _ hc c1, if_pos (show bI true = 1 from rfl), q_c0 S1.1 S1.2.1 hc, ob, show sL_low w1 y 4 = _ from elow, ob, c0, if_pos (show iN (1 + k) = 1 + iN k from (iN_add 1 k).symm)]
    exact e1044 S1 J1 (hC m1 n1 (by omega) (Or.inl n2) n3)
theorem e_work {v : Nat} {y : Int32} (hS : ST T w m) (hJ : Jv m) (hC : ∀ m', nV m' = nV m → nC m' = nC m → nW m ≤ nW m' → (nW m' = nW m + 1 ∨ nW m = 16) → Cn n m') (hv : v < nV m) : Fin1 T n (sL_step_573 lo lnn w y (iN (nW m)) (iN v)) := by
  have hI := hS.2.1
  have h8 := hI.iv8
  have h16 := hI.iw16
  obtain ⟨l, hl, el⟩ := p_low (w := w) y (N := 6) (by decide) (by decide)
  obtain ⟨b, hb, eb⟩ := p_low (w := w) (y >>> ((3 : Int32) &&& 31)) (N := 900) (by decide) (by decide)
  obtain ⟨g, hg, eg⟩ := p_low (w := w) (y >>> ((13 : Int32) &&& 31)) (N := 6) (by decide) (by decide)
  obtain ⟨s, hs, es⟩ := p_low (w := w) (y >>> ((16 : Int32) &&& 31)) (N := 4) (by decide) (by decide)
  have key : ∀ e : Int32, (e = 0 ∨ e = 1) → Fin1 T n (sL_step_624 lo lnn w (iN (nW m)) (iN v) (iN v) (iN l) ((1 : Int32) + iN b) (iN g) e) := fun e he => by
    rw [show (1 : Int32) + iN b = iN (1 + b) from iN_add 1 b]
    unfold sL_step_624
    by_cases h : nW m = 16
    · rw [t_addWork hS hv hl (by omega) (by omega) (by omega) h, ob, if_pos (by rw [h]; rfl)]
      unfold sL_step_645
      rw [if_pos rfl, if_pos (show (-90200 : Int32) < 0 by decide)]
      exact e1044 hS hJ (hC m rfl rfl (Nat.le_refl _) (Or.inr h))
    · obtain ⟨w1, a1, a2⟩ := u_addWork hS hv hl (show 1 ≤ 1 + b by omega) (show 1 + b ≤ 1000000 by omega) (show g ≤ 20 by omega) he (by omega)
      have S1 := a2.st
      have J1 := j_dWork (l := iN l) (a := iN (1 + b)) (e := e) hI hJ hv (show g ≤ 20 by omega) (by omega)
      obtain ⟨n1, n2, n3, n4, n5⟩ := dWork_n (m := m) (v := v) (l := iN l) (a := iN (1 + b)) (b := iN g) (e := e) (by omega)
      obtain ⟨c0, c1, c2, c3, c4, c5, c6, c7⟩ := dWork_c (m := m) (v := v) (l := iN l) (a := iN (1 + b)) (b := iN g) (e := e) (by omega)
      generalize dWork m v (iN l) (iN (1 + b)) (iN g) e = m1 at *
      have hi : nW m < nW m1 := by omega
      have hno : aNoted m1 (nW m) 0 = -1 := by unfold aNoted; rw [c7, if_pos (Int32.le_refl _)]
      rw [show sL_addWork w (iN v) (iN l) (iN (1 + b)) (iN g) e = _ from lW_s a1, ob, if_neg (show ¬ iN (nW m) = 16 from fun q => h ((iN_eq (b := 16) (by omega) (by decide)).mp q))]
      unfold sL_step_645
      rw [if_pos hI.iw, hI.iw, if_neg (iN_neg (by omega)), q_w5 S1.1 S1.2.1 hi, ob, if_pos ((wat_no c4).trans c5), q_w4 S1.1 S1.2.1 hi, ob, if_pos c4, q_w7 S1.1 S1.2.1 hi, ob, if_pos c6, q_noted S1.1 S1.2.1 hi (by decide), ob, if_pos hno]
      exact e1044 S1 J1 (hC m1 n1 n2 (by omega) (Or.inl n3))
  unfold sL_step_573
  rw [show sL_low w y 6 = _ from el, ob, show sL_low w (y >>> ((3 : Int32) &&& 31)) 900 = _ from eb, ob, show sL_low w (y >>> ((13 : Int32) &&& 31)) 6 = _ from eg, ob, show sL_low w (y >>> ((16 : Int32) &&& 31)) 4 = _ from es, ob]
  by_cases q : iN s = 0
  · rw [if_pos q]; exact key 1 (Or.inr rfl)
  · rw [if_neg q]; exact key 0 (Or.inl rfl)
theorem e_courier {v : Nat} (hS : ST T w m) (hJ : Jv m) (hC : ∀ m', nV m' = nV m → nC m' = nC m → nW m' = nW m → Cn n m') (hv : v < nV m) :
    Fin1 T n ((sL_addCourier w (iN v)).bind (fun r73 => (if iN (nK m) = (4 : Int32) then sL_step_732 lo lnn r73.2 (iN v) r73.1 r73.1 (-90200 : Int32) else sL_step_732 lo lnn r73.2 (iN v) r73.1 r73.1 (iN (nK m))))) := by
  have hI := hS.2.1
  have h8 := hI.iv8
  have h4 := hI.ik4
  by_cases h : nK m = 4
  · rw [t_addCourier hS hv h, ob, if_pos (by rw [h]; rfl)]
    unfold sL_step_732
    rw [if_pos rfl, if_pos (show (-90200 : Int32) < 0 by decide)]
    exact e1044 hS hJ (hC m rfl rfl rfl)
  · obtain ⟨w1, a1, a2⟩ := u_addCourier hS hv (by omega)
    have S1 := a2.st
    have J1 := j_dCourier (v := v) hI hJ (by omega)
    have he : ∀ x, x ≠ 4 → (x < 137 ∨ 145 ≤ x) → dCourier m v x = m x := fun x h1 h2 => by unfold dCourier; simp (disch := omega) only [uN]
    have hK : nK (dCourier m v) = nK m + 1 := by
      show (upd _ 4 (iN (nK m + 1)) 4).toNatClampNeg = _
      rw [uS, iN_nat (by omega)]
    have ec : co (dCourier m v) (nK m) = iN v := by unfold dCourier co; rw [uN (by omega), uN (by omega), uS]
    have eV : nV (dCourier m v) = nV m := congrArg Int32.toNatClampNeg (he 1 (by omega) (by omega))
    have eC : nC (dCourier m v) = nC m := congrArg Int32.toNatClampNeg (he 2 (by omega) (by omega))
    have eW : nW (dCourier m v) = nW m := congrArg Int32.toNatClampNeg (he 3 (by omega) (by omega))
    generalize dCourier m v = m1 at *
    rw [show sL_addCourier w (iN v) = _ from lW_s a1, ob, if_neg (show ¬ iN (nK m) = 4 from fun q => h ((iN_eq (b := 4) (by omega) (by decide)).mp q))]
    unfold sL_step_732
    rw [if_pos hI.ik, hI.ik, if_neg (iN_neg (by omega)), q_courier S1.1 S1.2.1 (by omega), ob, if_pos ec]
    exact e1044 S1 J1 (hC m1 eV eC eW)
theorem rng_cl : (∀ r, r < 51 → rng (-10) 40 (iN r - 10) = true) ∧ (∀ r, r < 71 → rng 20 90 ((20 : Int32) + iN r) = true) ∧ (∀ r, r < 30 → rng (-10) 40 (iN r) = true) ∧ (∀ r, r < 501 → rng 0 500 (iN r) = true) := by
  refine ⟨by decide +kernel, by decide +kernel, by decide +kernel, by decide +kernel⟩
theorem e_climate {v : Nat} {y : Int32} (hS : ST T w m) (hJ : Jv m) (hC : ∀ m', nV m' = nV m → nC m' = nC m → nW m' = nW m → Cn n m') (hv : v < nV m) :
    Fin1 T n ((sO_venue w (iN v) (0 : Int32)).bind (fun r55 => (sO_venue w (iN v) (1 : Int32)).bind (fun r57 => (sL_low w y (30 : Int32)).bind (fun r59 => (sL_low w (y >>> ((5 : Int32) &&& 31)) (71 : Int32)).bind (fun r61 => (sO_setClimate w (iN v) r59 ((20 : Int32) + r61)).bind (fun r63 => (if r63.1 = (((1000 : Int32) * r55) + r57) then (sO_venue r63.2 (iN v) (0 : Int32)).bind (fun r68 => (sL_low r63.2 y (30 : Int32)).bind (fun r70 => (if r68 = r70 then sL_step_1044 lo lnn r63.2 else none))) else none))))))) := by
  have hI := hS.2.1
  have h8 := hI.iv8
  obtain ⟨a, ha, ea⟩ := p_low (w := w) y (N := 30) (by decide) (by decide)
  obtain ⟨b, hb, eb⟩ := p_low (w := w) (y >>> ((5 : Int32) &&& 31)) (N := 71) (by decide) (by decide)
  obtain ⟨w1, a1, a2⟩ := u_setClimate hS hv (a := iN a) (b := (20 : Int32) + iN b) (by unfold clB; rw [rng_cl.2.2.1 a ha, rng_cl.2.1 b hb]; rfl)
  have S1 := a2.st
  have J1 := j_dClimate (a := iN a) (b := (20 : Int32) + iN b) hI hJ hv
  have he : ∀ x, (x < 9 + 13 * v ∨ 9 + 13 * v + 2 ≤ x) → dClimate m v (iN a) ((20 : Int32) + iN b) x = m x := fun x h => by unfold dClimate; simp (disch := omega) only [uN]
  have v0 : vn (dClimate m v (iN a) ((20 : Int32) + iN b)) v 0 = iN a := by unfold dClimate vn; rw [uN (by omega), uS]
  have eV : nV (dClimate m v (iN a) ((20 : Int32) + iN b)) = nV m := congrArg Int32.toNatClampNeg (he 1 (by omega))
  have eC : nC (dClimate m v (iN a) ((20 : Int32) + iN b)) = nC m := congrArg Int32.toNatClampNeg (he 2 (by omega))
  have eW : nW (dClimate m v (iN a) ((20 : Int32) + iN b)) = nW m := congrArg Int32.toNatClampNeg (he 3 (by omega))
  generalize dClimate m v (iN a) ((20 : Int32) + iN b) = m1 at *
  rw [q_v0 hS.1 hI hv, ob, q_v1 hS.1 hI hv, ob, show sL_low w y 30 = _ from ea, ob, show sL_low w (y >>> ((5 : Int32) &&& 31)) 71 = _ from eb, ob, show sO_setClimate w (iN v) (iN a) ((20 : Int32) + iN b) = _ from okS_s a1, ob, if_pos rfl, q_v0 S1.1 S1.2.1 (by omega), ob, show sL_low w1 y 30 = _ from ea, ob, if_pos v0]
  exact e1044 S1 J1 (hC m1 eV eC eW)
theorem e_lender {l j a : Nat} (hS : ST T w m) (hJ : Jv m) (hC : ∀ m', nV m' = nV m → nC m' = nC m → nW m' = nW m → Cn n m') (hl : l < 6) (hj : j = 3 ∨ j = 2) (ha : a ≤ 255) (h : leB (iN j) (iN a) = true) :
    Fin1 T n ((sO_setLender w (iN l) (iN j) (iN a)).bind (fun r => sL_step_905 lo lnn r.2 r.1)) := by
  have hI := hS.2.1
  have hj4 : j < 4 := by omega
  obtain ⟨w1, a1, a2⟩ := u_setLender hS hl hj4 h
  have S1 := a2.st
  have J1 := j_dLender hI hJ hl hj4 ha
  have he : ∀ x, x < 9 → dLender m l j (iN a) x = m x := fun x h => by unfold dLender; rw [uN (by omega)]
  have hg : ∃ g, g ≤ 255 ∧ ln m l j = iN g := by
    rcases hj with e | e
    · rw [e]; exact (hJ.2.2.2.2.2 l hl).1
    · rw [e]; exact (hJ.2.2.2.2.2 l hl).2
  obtain ⟨g, hg, eg⟩ := hg
  rw [show sO_setLender w (iN l) (iN j) (iN a) = _ from okS_s a1, ob, eg]
  unfold sL_step_905
  rw [if_neg (iN_neg (by omega)), if_pos (show iN g ≤ 255 from (iN_le (b := 255) (by omega) (by decide)).mpr hg)]
  exact e1044 S1 J1 (hC _ (congrArg Int32.toNatClampNeg (he 1 (by decide))) (congrArg Int32.toNatClampNeg (he 2 (by decide))) (congrArg Int32.toNatClampNeg (he 3 (by decide))))
end SE
