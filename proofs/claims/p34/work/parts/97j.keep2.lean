/-! THE INVARIANT is kept: what is made; sendings -/
section KM
variable {T z : Nat} {m m' : Nat → Int32}
theorem vof_ch (hI : Iv T z m) (hI' : Iv T z m') (hn : nC m ≤ nC m') (h2 : ∀ c, c < nC m → cr m' c 2 = cr m c 2) (h3 : ∀ c, c < nC m → cr m' c 3 = cr m c 3) : ∀ c, c < nC m → vof m' c = vof m c := by
  have h12 := hI.ic12
  refine ch_ind hI (P := fun c => vof m' c = vof m c) (fun c hc e => ?_) (fun c d hc hd e ih => ?_)
  · rw [vof_top (by omega) ((h2 c hc).trans e), vof_top (by omega) e]
    exact h3 c hc
  · rw [vof_in hI' (by omega) (by omega) ((h2 c hc).trans e), vof_in hI hc hd e, ih]
theorem j_dVenue (hI : Iv T z m) (hJ : Jv m) (h8 : nV m < 8) {a b c d : Int32} : Jv (dVenue m a b c d) := by
  have h12 := hI.ic12
  have h16 := hI.iw16
  have he : ∀ x, x ≠ 1 → (x < 9 + 13 * nV m ∨ 9 + 13 * nV m + 4 ≤ x) → dVenue m a b c d x = m x := fun x h1 h2 => by
    unfold dVenue; simp (disch := omega) only [uN]
  have hV : nV (dVenue m a b c d) = nV m + 1 := by
    show (upd _ 1 (iN (nV m + 1)) 1).toNatClampNeg = _
    rw [uS, iN_nat (by omega)]
  generalize hm : dVenue m a b c d = m' at he hV
  have hC : nC m' = nC m := congrArg Int32.toNatClampNeg (he 2 (by omega) (by omega))
  have hW : nW m' = nW m := congrArg Int32.toNatClampNeg (he 3 (by omega) (by omega))
  have ht : tm m' = tm m := congrArg Int32.toNatClampNeg (he 0 (by omega) (by omega))
  have hw : ∀ i j, wk m' i j = wk m i j := fun i j => he _ (by omega) (by omega)
  have hv : ∀ v, v < 8 → vn m' v 4 = vn m v 4 := fun v h => he _ (by omega) (by omega)
  obtain ⟨j1, j2, j3, j4, j5, j6⟩ := hJ
  refine ⟨fun i hi => ?_, fun c h => (j2 c (by omega)).cg (he _ (by omega) (by omega)) (he _ (by omega) (by omega)) ht, ?_, ?_, fun v h1 h2 => ?_, fun l h => ?_⟩
  · rw [hW] at hi
    obtain ⟨g, a1, a2, a3⟩ := j1 i hi
    refine ⟨g, a1, (hw i 2).trans a2, fun q => a3 (Eq.trans ?_ q)⟩
    exact (wat_cg hI hi (hw i 4) (hw i 5) (fun c h => vof_cg hI (fun d hd => he _ (by omega) (by omega)) (fun d hd => he _ (by omega) (by omega)) h)).symm
  · rw [he 5 (by omega) (by omega), hW, sm_congr (g := fun i => wk m i 6) _ (fun i hi => hw i 6)]; exact j3
  · rw [he 5 (by omega) (by omega), he 6 (by omega) (by omega), hV]
    show m 5 = sm (fun v => vn m' v 4) (nV m) + vn m' (nV m) 4 + m 6
    rw [sm_congr (g := fun v => vn m v 4) _ (fun v h => hv v (by omega)), hv _ h8, j5 (nV m) (Nat.le_refl _) h8, Int32.add_zero]
    exact j4
  · rw [hv v h2]; exact j5 v (by omega) h2
  · rw [show ln m' l 3 = ln m l 3 from he _ (by omega) (by omega), show ln m' l 2 = ln m l 2 from he _ (by omega) (by omega)]; exact j6 l h
/-- where crates and works are as they were -/
theorem Jv.low (hI : Iv T z m) (hJ : Jv m) (h05 : ∀ x, x < 9 → x ≠ 4 → x ≠ 8 → m' x = m x) (hh : ∀ x, 145 ≤ x → m' x = m x) (hv : ∀ v, v < 8 → vn m' v 4 = vn m v 4) (hl : ∀ l, l < 6 → (∃ a, a ≤ 255 ∧ ln m' l 3 = iN a) ∧ ∃ a, a ≤ 255 ∧ ln m' l 2 = iN a) : Jv m' := by
  have h8 := hI.iv8
  have hC : nC m' = nC m := congrArg Int32.toNatClampNeg (h05 2 (by omega) (by omega) (by omega))
  have hV : nV m' = nV m := congrArg Int32.toNatClampNeg (h05 1 (by omega) (by omega) (by omega))
  have hW : nW m' = nW m := congrArg Int32.toNatClampNeg (h05 3 (by omega) (by omega) (by omega))
  have ht : tm m' = tm m := congrArg Int32.toNatClampNeg (h05 0 (by omega) (by omega) (by omega))
  have hw : ∀ i j, wk m' i j = wk m i j := fun i j => hh _ (by omega)
  obtain ⟨j1, j2, j3, j4, j5, j6⟩ := hJ
  refine ⟨fun i hi => ?_, fun c h => (j2 c (by omega)).cg (hh _ (by omega)) (hh _ (by omega)) ht, ?_, ?_, fun v h1 h2 => ?_, hl⟩
  · rw [hW] at hi
    obtain ⟨g, a1, a2, a3⟩ := j1 i hi
    refine ⟨g, a1, (hw i 2).trans a2, fun q => a3 (Eq.trans ?_ q)⟩
    exact (wat_cg hI hi (hw i 4) (hw i 5) (fun c h => vof_cg hI (fun d hd => hh _ (by omega)) (fun d hd => hh _ (by omega)) h)).symm
  · rw [h05 5 (by omega) (by omega) (by omega), hW, sm_congr (g := fun i => wk m i 6) _ (fun i hi => hw i 6)]; exact j3
  · rw [h05 5 (by omega) (by omega) (by omega), h05 6 (by omega) (by omega) (by omega), hV, sm_congr (g := fun v => vn m v 4) _ (fun v h => hv v (by omega))]; exact j4
  · rw [hv v h2]; exact j5 v (by omega) h2
theorem j_dClimate (hI : Iv T z m) (hJ : Jv m) {v : Nat} {a b : Int32} (hv : v < nV m) : Jv (dClimate m v a b) := by
  have h8 := hI.iv8
  have he : ∀ x, (x < 9 + 13 * v ∨ 9 + 13 * v + 2 ≤ x) → dClimate m v a b x = m x := fun x h => by unfold dClimate; simp (disch := omega) only [uN]
  exact hJ.low hI (fun x _ _ _ => he _ (by omega)) (fun x _ => he _ (by omega)) (fun u hu => he _ (by omega)) (fun l hl => by
    rw [show ln (dClimate m v a b) l 3 = ln m l 3 from he _ (by omega), show ln (dClimate m v a b) l 2 = ln m l 2 from he _ (by omega)]; exact hJ.2.2.2.2.2 l hl)
theorem j_dWay (hI : Iv T z m) (hJ : Jv m) {a b : Nat} {h : Int32} (ha : a < nV m) (hb : b < nV m) : Jv (dWay m a b h) := by
  have h8 := hI.iv8
  have he : ∀ x, x ≠ 9 + 13 * a + (5 + b) → x ≠ 9 + 13 * b + (5 + a) → dWay m a b h x = m x := fun x h1 h2 => by unfold dWay; rw [uN h2, uN h1]
  exact hJ.low hI (fun x _ _ _ => he _ (by omega) (by omega)) (fun x _ => he _ (by omega) (by omega)) (fun u hu => he _ (by omega) (by omega)) (fun l hl => by
    rw [show ln (dWay m a b h) l 3 = ln m l 3 from he _ (by omega) (by omega), show ln (dWay m a b h) l 2 = ln m l 2 from he _ (by omega) (by omega)]; exact hJ.2.2.2.2.2 l hl)
theorem j_dLender (hI : Iv T z m) (hJ : Jv m) {l j a : Nat} (hl : l < 6) (hj : j < 4) (ha : a ≤ 255) : Jv (dLender m l j (iN a)) := by
  have he : ∀ x, x ≠ 113 + 4 * l + j → dLender m l j (iN a) x = m x := fun x h => by unfold dLender; rw [uN h]
  have hs : dLender m l j (iN a) (113 + 4 * l + j) = iN a := by unfold dLender; rw [uS]
  have key : ∀ k q, k < 6 → q < 4 → (∃ a, a ≤ 255 ∧ ln m k q = iN a) → ∃ b, b ≤ 255 ∧ ln (dLender m l j (iN a)) k q = iN b := fun k q hk hq h => by
    by_cases e : 113 + 4 * k + q = 113 + 4 * l + j
    · refine ⟨a, ha, ?_⟩
      unfold ln
      rw [e, hs]
    · obtain ⟨b, hb, e2⟩ := h
      exact ⟨b, hb, (he _ e).trans e2⟩
  exact hJ.low hI (fun x _ _ _ => he _ (by omega)) (fun x _ => he _ (by omega)) (fun u hu => he _ (by omega)) (fun k hk => ⟨key k 3 hk (by decide) (hJ.2.2.2.2.2 k hk).1, key k 2 hk (by decide) (hJ.2.2.2.2.2 k hk).2⟩)
theorem j_dCourier (hI : Iv T z m) (hJ : Jv m) {v : Nat} (h4 : nK m < 4) : Jv (dCourier m v) := by
  have he : ∀ x, x ≠ 4 → (x < 137 ∨ 145 ≤ x) → dCourier m v x = m x := fun x h1 h2 => by unfold dCourier; simp (disch := omega) only [uN]
  exact hJ.low hI (fun x _ _ _ => he _ (by omega) (by omega)) (fun x _ => he _ (by omega) (by omega)) (fun u hu => he _ (by omega) (by omega)) (fun l hl => by
    rw [show ln (dCourier m v) l 3 = ln m l 3 from he _ (by omega) (by omega), show ln (dCourier m v) l 2 = ln m l 2 from he _ (by omega) (by omega)]; exact hJ.2.2.2.2.2 l hl)
theorem j_dCrate (hI : Iv T z m) (hJ : Jv m) {v a : Nat} (hv : v < nV m) (ha1 : 1 ≤ a) (ha2 : a ≤ 4) (h12 : nC m < 12) : Jv (dCrate m v (iN a)) := by
  have h16 := hI.iw16
  have h8 := hI.iv8
  have hI' := i_dCrate hI hv ha1 ha2 h12
  have he := dCrate_s (m := m) (v := v) (a := iN a) h12
  obtain ⟨n1, n2, n3, n4, n5⟩ := dCrate_n (m := m) (v := v) (a := iN a) h12
  have hw : ∀ i j, wk (dCrate m v (iN a)) i j = wk m i j := fun i j => he _ (by omega) (by omega)
  have hc : ∀ d j, d < nC m → j < 9 → cr (dCrate m v (iN a)) d j = cr m d j := fun d j hd hj => dCrate_o h12 (by omega) hj
  obtain ⟨j1, j2, j3, j4, j5, j6⟩ := hJ
  refine ⟨fun i hi => ?_, fun c h => ?_, ?_, ?_, fun v h1 h2 => ?_, fun l h => ?_⟩
  · rw [n3] at hi
    obtain ⟨g, a1, a2, a3⟩ := j1 i hi
    refine ⟨g, a1, (hw i 2).trans a2, fun q => a3 (Eq.trans ?_ q)⟩
    exact (wat_cg hI hi (hw i 4) (hw i 5) (vof_ch hI hI' (by omega) (fun c h => hc c 2 h (by decide)) (fun c h => hc c 3 h (by decide)))).symm
  · by_cases e : c = nC m
    · intro q
      rw [e, (dCrate_c h12).2.1] at q
      exact absurd q (by decide)
    · exact (j2 c (by omega)).cg (hc c 1 (by omega) (by decide)) (hc c 8 (by omega) (by decide)) n5
  · rw [he 5 (by omega) (by omega), n3, sm_congr (g := fun i => wk m i 6) _ (fun i hi => hw i 6)]; exact j3
  · rw [he 5 (by omega) (by omega), he 6 (by omega) (by omega), n1, sm_congr (f := fun u => vn (dCrate m v (iN a)) u 4) (g := fun v => vn m v 4) (nV m) (fun u hu => he _ (by omega) (by omega))]; exact j4
  · rw [show vn (dCrate m _ (iN a)) v 4 = vn m v 4 from he _ (by omega) (by omega)]; exact j5 v (by omega) h2
  · rw [show ln (dCrate m v (iN a)) l 3 = ln m l 3 from he _ (by omega) (by omega), show ln (dCrate m v (iN a)) l 2 = ln m l 2 from he _ (by omega) (by omega)]; exact j6 l h
theorem j_dWork (hI : Iv T z m) (hJ : Jv m) {v g : Nat} {l a e : Int32} (hv : v < nV m) (hg : g ≤ 20) (h16 : nW m < 16) : Jv (dWork m v l a (iN g) e) := by
  have h12 := hI.ic12
  have h8 := hI.iv8
  have he := dWork_s (m := m) (v := v) (l := l) (a := a) (b := iN g) (e := e) h16
  obtain ⟨n1, n2, n3, n4, n5⟩ := dWork_n (m := m) (v := v) (l := l) (a := a) (b := iN g) (e := e) h16
  obtain ⟨c0, c1, c2, c3, c4, c5, c6, c7⟩ := dWork_c (m := m) (v := v) (l := l) (a := a) (b := iN g) (e := e) h16
  have hw : ∀ i j, i < nW m → j < 18 → wk (dWork m v l a (iN g) e) i j = wk m i j := fun i j hi hj => dWork_o h16 (by omega) hj
  obtain ⟨j1, j2, j3, j4, j5, j6⟩ := hJ
  refine ⟨fun i hi => ?_, fun c h => (j2 c (by omega)).cg (he _ (by omega) (by omega)) (he _ (by omega) (by omega)) n5, ?_, ?_, fun v h1 h2 => ?_, fun l h => ?_⟩
  · by_cases q : i = nW m
    · subst q
      exact ⟨g, hg, c2, fun q => by rw [wat_no c4, c5] at q; exact (iN_m1 (by omega) q).elim⟩
    · have hi : i < nW m := by omega
      obtain ⟨g, a1, a2, a3⟩ := j1 i hi
      refine ⟨g, a1, (hw i 2 hi (by decide)).trans a2, fun q => a3 (Eq.trans ?_ q)⟩
      exact (wat_cg hI hi (hw i 4 hi (by decide)) (hw i 5 hi (by decide)) (fun c h => vof_cg hI (fun d hd => he _ (by omega) (by omega)) (fun d hd => he _ (by omega) (by omega)) h)).symm
  · rw [he 5 (by omega) (by omega), n3]
    show m 5 = sm (fun i => wk (dWork m v l a (iN g) e) i 6) (nW m) + wk (dWork m v l a (iN g) e) (nW m) 6
    rw [c6, Int32.add_zero, sm_congr (g := fun i => wk m i 6) _ (fun i hi => hw i 6 hi (by decide))]; exact j3
  · rw [he 5 (by omega) (by omega), he 6 (by omega) (by omega), n1, sm_congr (f := fun u => vn (dWork m v l a (iN g) e) u 4) (g := fun v => vn m v 4) (nV m) (fun u hu => he _ (by omega) (by omega))]; exact j4
  · rw [show vn (dWork m _ l a (iN g) e) v 4 = vn m v 4 from he _ (by omega) (by omega)]; exact j5 v (by omega) h2
  · rw [show ln (dWork m v _ a (iN g) e) l 3 = ln m l 3 from he _ (by omega) (by omega), show ln (dWork m v _ a (iN g) e) l 2 = ln m l 2 from he _ (by omega) (by omega)]; exact j6 l h
-- sendings
theorem isin_out (hI : Iv T z m) {c : Nat} (hc : c < nC m) (ht : cr m c 2 = -1) : ∀ d, d < nC m → (isin m (iN d) (iN c) = true ↔ out m d = c) := by
  have h12 := hI.ic12
  refine ch_ind hI (P := fun d => (isin m (iN d) (iN c) = true ↔ out m d = c)) (fun d hd e => ?_) (fun d f hd hf e ih => ?_)
  · rw [isin_up hI hc hd, out_top (by omega) e]
    by_cases q : d = c
    · rw [if_pos q]; exact ⟨fun _ => q, fun _ => rfl⟩
    · rw [if_neg q, e, isin_m1]; exact ⟨fun w => (by cases w), fun w => (q w).elim⟩
  · rw [isin_up hI hc hd, out_in hI hd hf e, e]
    by_cases q : d = c
    · rw [q, ht] at e; exact (m1_iN (by omega) e).elim
    · rw [if_neg q]; exact ih
theorem dSend_s {c v : Nat} {x : Int32} (h4 : nK m ≤ 4) (hx : ptr (nK m) x) : ∀ k, (k < 137 ∨ 145 ≤ k) → dSend m c v x k = sendM m c v k := fun k hk => by
  unfold dSend
  rcases hx with e | ⟨d, hd, rfl⟩
  · rw [if_pos e]
  · rw [if_neg (iN_m1 (by omega)), iN_nat (by omega), uN (by omega), uN (by omega)]
theorem dSend_x {c v : Nat} {x : Int32} (h4 : nK m ≤ 4) (hx : ptr (nK m) x) : ∀ k, (k < 137 ∨ 145 ≤ k) → (k < 145 + 9 * c + 3 ∨ 145 + 9 * c + 6 ≤ k) → dSend m c v x k = m k := fun k hk hk2 => by
  rw [dSend_s h4 hx k hk]
  unfold sendM
  simp (disch := omega) only [uN]
theorem dSend_co {c v k : Nat} (hk : k < nK m) (h4 : nK m ≤ 4) : co (dSend m c v (iN k)) k = -1 := by
  unfold dSend co
  rw [if_neg (iN_m1 (by omega)), iN_nat (by omega), uN (by omega), uS]
/-- what a sending leaves -/
theorem send_f {c v : Nat} {x : Int32} (hI : Iv T z m) (hc : c < nC m) (hv : v < nV m) (hx : ptr (nK m) x) (h : aReason m c v x = 0) :
    cr (dSend m c v x) c 3 = -1 ∧ cr (dSend m c v x) c 4 = iN v ∧ cr (dSend m c v x) c 5 = cr (sendM m c v) c 5 ∧ (∀ d j, d < 12 → j < 9 → (d ≠ c ∨ j < 3 ∨ 5 < j) → cr (dSend m c v x) d j = cr m d j) ∧
    (∀ d, d < nC m → out (dSend m c v x) d = out m d) ∧ (∀ d, d < nC m → vof (dSend m c v x) d = if out m d = c then -1 else vof m d) ∧ hol (dSend m c v x) = hol m := by
  have h12 := hI.ic12
  have h4 := hI.ik4
  obtain ⟨s0, s1, s2, s3, s4, s5, s6, s7, s8⟩ := sendM_0 (m := m) (c := c) (v := v)
  have e : ∀ j, cr (dSend m c v x) c j = cr (sendM m c v) c j := fun j => dSend_s h4 hx _ (by omega)
  have o : ∀ d j, d < 12 → j < 9 → (d ≠ c ∨ j < 3 ∨ 5 < j) → cr (dSend m c v x) d j = cr m d j := fun d j hd hj hh => dSend_x h4 hx _ (by omega) (by omega)
  have hh : hol (dSend m c v x) = hol m := funext fun d => by
    unfold hol
    split
    · exact o d 2 ‹_› (by decide) (by omega)
    · rfl
  have ho : ∀ d, out (dSend m c v x) d = out m d := fun d => by unfold out; rw [hh]
  refine ⟨(e 3).trans s3, (e 4).trans s4, e 5, o, fun d _ => ho d, fun d hd => ?_, hh⟩
  unfold vof
  rw [ho d]
  by_cases q : out m d = c
  · rw [if_pos q, q]; exact (e 3).trans s3
  · rw [if_neg q]; exact o _ 3 (by have := hI.iout hd; omega) (by decide) (Or.inl q)
theorem wref0 {c v : Nat} (h : aWref m c v = 0) : ∀ i, i < nW m → isin m (wk m i 4) (iN c) = true → ¬ wk m i 2 = 0 := by
  have key := fld_inv (f := fun i a => if isin m (wk m i 4) (iN c) = true then (if wrf m i v = 0 then a else if a ≤ wrf m i v then a else wrf m i v) else a)
    (fun k (a : Int32) => (a = 8 ∧ ∀ i, i < k → isin m (wk m i 4) (iN c) = true → ¬ wk m i 2 = 0) ∨ a = 5 ∨ a = 6 ∨ a = 7) (nW m) 0 8 (Or.inl ⟨rfl, fun i hi => absurd hi (Nat.not_lt_zero i)⟩) (fun k a _ hk ha => ?_)
  · rw [Nat.zero_add] at key
    unfold aWref at h
    rcases key with ⟨-, q⟩ | q | q | q
    · exact q
    · simp only [q] at h; exact absurd h (by decide)
    · simp only [q] at h; exact absurd h (by decide)
    · simp only [q] at h; exact absurd h (by decide)
  · have hw : (wrf m k v = 0 ∧ ¬ wk m k 2 = 0) ∨ wrf m k v = 5 ∨ wrf m k v = 6 ∨ wrf m k v = 7 := by
      unfold wrf lgo lrf
      by_cases q : wk m k 2 = 0
      · rw [if_pos q, iT]; exact Or.inr (Or.inl rfl)
      · rw [if_neg q, iF]
        cases brd m k v
        · rw [iF]
          cases sut m k v
          · rw [iF]; exact Or.inr (Or.inr (Or.inr rfl))
          · rw [iT]; exact Or.inl ⟨rfl, q⟩
        · rw [iT]; exact Or.inr (Or.inr (Or.inl rfl))
    cases hb : isin m (wk m k 4) (iN c)
    · rw [iF]
      rcases ha with ⟨q, g⟩ | q
      · refine Or.inl ⟨q, fun i hi hin => ?_⟩
        by_cases e : i = k
        · subst e; rw [hb] at hin; cases hin
        · exact g i (by omega) hin
      · exact Or.inr q
    · rw [iT]
      rcases hw with ⟨w0, w1⟩ | hw
      · rw [if_pos w0]
        rcases ha with ⟨q, g⟩ | q
        · refine Or.inl ⟨q, fun i hi hin => ?_⟩
          by_cases e : i = k
          · subst e; exact w1
          · exact g i (by omega) hin
        · exact Or.inr q
      · have n0 : ¬ wrf m k v = 0 := by rcases hw with e | e | e <;> rw [e] <;> decide
        rw [if_neg n0]
        right
        rcases ha with ⟨q, g⟩ | q
        · rw [q, if_neg (by rcases hw with e | e | e <;> rw [e] <;> decide)]
          exact hw
        · split
          · exact q
          · exact hw
theorem reason_w {c v : Nat} {x : Int32} (h : aReason m c v x = 0) : aWref m c v = 0 := by
  unfold aReason at h
  split at h
  · exact absurd h (by decide)
  · split at h
    · split at h
      · exact absurd h (by decide)
      · split at h
        · exact absurd h (by decide)
        · split at h
          · exact absurd h (by decide)
          · split at h
            · assumption
            · assumption
    · exact absurd h (by decide)
theorem j_dSend (hI : Iv T z m) (hJ : Jv m) {c v : Nat} {x : Int32} (hc : c < nC m) (hv : v < nV m) (hx : ptr (nK m) x) (h : aReason m c v x = 0) : Jv (dSend m c v x) := by
  have h12 := hI.ic12
  have h16 := hI.iw16
  have h8 := hI.iv8
  have h4 := hI.ik4
  obtain ⟨f3, f4, f5, fo, fout, fv, fh⟩ := send_f hI hc hv hx h
  have hx' := dSend_x (m := m) (c := c) (v := v) h4 hx
  obtain ⟨-, -, h2, -, -⟩ := reason0 hI hc hv h
  generalize dSend m c v x = m' at f3 f4 f5 fo fout fv fh hx'
  have hC : nC m' = nC m := congrArg Int32.toNatClampNeg (hx' 2 (by omega) (by omega))
  have hV : nV m' = nV m := congrArg Int32.toNatClampNeg (hx' 1 (by omega) (by omega))
  have hW : nW m' = nW m := congrArg Int32.toNatClampNeg (hx' 3 (by omega) (by omega))
  have ht : tm m' = tm m := congrArg Int32.toNatClampNeg (hx' 0 (by omega) (by omega))
  have hw : ∀ i j, wk m' i j = wk m i j := fun i j => hx' _ (by omega) (by omega)
  obtain ⟨j1, j2, j3, j4, j5, j6⟩ := hJ
  refine ⟨fun i hi => ?_, fun d hd => ?_, ?_, ?_, fun v h1 h2 => ?_, fun l h => ?_⟩
  · rw [hW] at hi
    obtain ⟨g, a1, a2, a3⟩ := j1 i hi
    refine ⟨g, a1, (hw i 2).trans a2, fun q => ?_⟩
    rcases hI.iwp hi with e | ⟨d, hd, e⟩
    · rw [wat_no ((hw i 4).trans e), hw] at q
      exact a3 ((wat_no e).trans q)
    · rw [wat_in (by omega) ((hw i 4).trans e), fv d hd] at q
      by_cases e2 : out m d = c
      · have hin : isin m (wk m i 4) (iN c) = true := by rw [e]; exact (isin_out hI hc h2 d hd).mpr e2
        have n0 := wref0 (reason_w h) i hi hin
        rw [a2] at n0
        cases g with
        | zero => exact (n0 rfl).elim
        | succ g => omega
      · rw [if_neg e2] at q
        exact a3 ((wat_in (by omega) e).trans q)
  · exact (j2 d (by omega)).cg (fo d 1 (by omega) (by decide) (by omega)) (fo d 8 (by omega) (by decide) (by omega)) ht
  · rw [hx' 5 (by omega) (by omega), hW, sm_congr (g := fun i => wk m i 6) _ (fun i hi => hw i 6)]; exact j3
  · rw [hx' 5 (by omega) (by omega), hx' 6 (by omega) (by omega), hV, sm_congr (f := fun u => vn (m') u 4) (g := fun v => vn m v 4) (nV m) (fun u hu => hx' _ (by omega) (by omega))]; exact j4
  · rw [show vn m' v 4 = vn m v 4 from hx' _ (by omega) (by omega)]; exact j5 v (by omega) h2
  · rw [show ln m' l 3 = ln m l 3 from hx' _ (by omega) (by omega), show ln m' l 2 = ln m l 2 from hx' _ (by omega) (by omega)]; exact j6 l h
end KM
