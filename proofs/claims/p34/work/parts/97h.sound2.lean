/-! SOUND: the loops around, to its beginning -/
section SO
variable {T : Nat} {m : Nat → Int32} {w0 : Wl}
section SP
variable {k247 : Wl → Int32 → Int32 → Int32 → Int32 → Int32 → Int32 → Int32 → Option (Bool × Wl)} {c : Nat} {l1 l2 l3 l4 l5 l6 : Int32}
theorem s386 {k371 : Wl → Int32 → Int32 → Int32 → Int32 → Int32 → Int32 → Int32 → Int32 → Int32 → Int32 → Int32 → Int32 → Int32 → Option (Bool × Wl)} {l8 l9 l10 l11 l12 l13 : Int32} (hR : Rl w0 1 m) (hI : Iv T 12 m) (hc : c < nC m) (b : Bool) (H : ∀ w, sim w0 w → Gd w0 (k371 w l1 l2 l3 l4 l5 l6 (iN c) l8 l9 l10 (l11 + if b = true then 1 else 0) l12 (l13 + 1))) :
    ∀ (k n : Nat) (x : Int32) (w : Wl), ptr (nC m) x → dp (hol m) k x → k < n → isin m x (iN c) = b → sim w0 w → Gd w0 (sL_sound_386 k247 k371 n w l1 l2 l3 l4 l5 l6 (iN c) l8 l9 l10 l11 l12 l13 x) := by
  have h12 := hI.ic12
  intro k
  induction k with
  | zero =>
    intro n x w hx hd hn hb hs
    obtain ⟨n, rfl⟩ : ∃ q, n = q + 1 := ⟨n - 1, by omega⟩
    obtain rfl : x = -1 := hd
    rw [isin_m1] at hb
    subst hb
    rw [sL_sound_386.eq_2, if_pos (by decide)]
    unfold sL_sound_410
    rw [if_neg (m1_iN (by omega))]
    exact H w hs
  | succ k ih =>
    intro n x w hx hd hn hb hs
    obtain ⟨n, rfl⟩ : ∃ q, n = q + 1 := ⟨n - 1, by omega⟩
    have R := hs.R hR hI
    rcases hx with e | ⟨d, hdn, rfl⟩
    · exact (hd.1 e).elim
    have hd2 := hd.2
    rw [iN_nat (by omega), hol_c (by omega)] at hd2
    rw [isin_up hI hc hdn] at hb
    rw [sL_sound_386.eq_2, if_neg (iN_neg (by omega))]
    by_cases e : d = c
    · rw [if_pos e] at hb
      subst hb
      rw [if_pos (by rw [e])]
      unfold sL_sound_410
      rw [if_pos (by rw [e])]
      exact H w hs
    · rw [if_neg e] at hb
      rw [if_neg (fun q => e ((iN_eq (by omega) (by omega)).mp q)), q_c2 R hI hdn, ob]
      exact ih n _ w (hI.ihp hdn) hd2 (by omega) hb hs
theorem s371 (hR : Rl w0 1 m) (hI : Iv T 12 m) (hJ : Jv m) (hc : c < nC m) (H : ∀ w, sim w0 w → Gd w0 (k247 w (iN (nC m)) l2 (l3 + cr m c 1) l4 l5 l6 (iN c + 1))) :
    ∀ (j i n : Nat) (w : Wl), i + j = nC m → j < n → sim w0 w → Gd w0 (sL_sound_371 k247 n w (iN (nC m)) l2 l3 l4 l5 l6 (iN c) (cr m c 2) (aWin m (iN c)) (aVin m (iN c)) (sm (fun k => if isin m (cr m k 2) (iN c) = true then 1 else 0) i) (aAll m (iN c)) (iN i)) := by
  have h12 := hI.ic12
  intro j
  induction j with
  | zero =>
    intro i n w hi hn hs
    obtain ⟨n, rfl⟩ : ∃ q, n = q + 1 := ⟨n - 1, by omega⟩
    obtain rfl : i = nC m := by omega
    have R := hs.R hR hI
    rw [sL_sound_371.eq_2, if_pos (Int32.le_refl _), q_c1 R hI hc, ob, ← aCbl_sm]
    rcases cr_01 hI hc with g | g
    · rw [g, if_neg (by decide)]
      exact s449 hR hI hJ hc g.symm H w hs
    · rw [g, if_pos rfl]
      exact s449 hR hI hJ hc g.symm H w hs
  | succ j ih =>
    intro i n w hi hn hs
    obtain ⟨n, rfl⟩ : ∃ q, n = q + 1 := ⟨n - 1, by omega⟩
    have R := hs.R hR hI
    have hi' : i < nC m := by omega
    rw [sL_sound_371.eq_2, if_neg (iN_nle (by omega) (by omega) (by omega)), q_c2 R hI hi', ob]
    obtain ⟨k, hk1, hk2⟩ := hI.idx (hI.ihp hi')
    refine s386 hR hI hc (isin m (cr m i 2) (iN c)) (fun w hs => ?_) k FU _ w (hI.ihp hi') hk2 (by show k < 4096; omega) rfl hs
    rw [iN_s]
    exact ih (i + 1) n w (by omega) (by omega) hs
theorem s292 {k277 : Wl → Int32 → Int32 → Int32 → Int32 → Int32 → Int32 → Int32 → Int32 → Int32 → Int32 → Int32 → Int32 → Int32 → Option (Bool × Wl)} {l8 l9 l10 l11 l12 : Int32} {i : Nat} (hR : Rl w0 1 m) (hI : Iv T 12 m) (hc : c < nC m) (hi : i < nW m) (b : Bool) (H : ∀ w, sim w0 w → Gd w0 (k277 w l1 l2 l3 l4 l5 l6 (iN c) l8 (if b = true then l9 + 1 else l9) (if b = true then l10 + wk m i 1 else l10) l11 (if b = true then mx l12 (aReady m i) else l12) (iN i + 1))) :
    ∀ (k n : Nat) (x : Int32) (w : Wl), ptr (nC m) x → dp (hol m) k x → k < n → isin m x (iN c) = b → sim w0 w → Gd w0 (sL_sound_292 k247 k277 n w l1 l2 l3 l4 l5 l6 (iN c) l8 l9 l10 l11 l12 (iN i) x) := by
  have h12 := hI.ic12
  intro k
  induction k with
  | zero =>
    intro n x w hx hd hn hb hs
    obtain ⟨n, rfl⟩ : ∃ q, n = q + 1 := ⟨n - 1, by omega⟩
    obtain rfl : x = -1 := hd
    rw [isin_m1] at hb
    subst hb
    rw [sL_sound_292.eq_2, if_pos (by decide)]
    unfold sL_sound_316
    rw [if_neg (m1_iN (by omega))]
    exact H w hs
  | succ k ih =>
    intro n x w hx hd hn hb hs
    obtain ⟨n, rfl⟩ : ∃ q, n = q + 1 := ⟨n - 1, by omega⟩
    have R := hs.R hR hI
    rcases hx with e | ⟨d, hdn, rfl⟩
    · exact (hd.1 e).elim
    have hd2 := hd.2
    rw [iN_nat (by omega), hol_c (by omega)] at hd2
    rw [isin_up hI hc hdn] at hb
    rw [sL_sound_292.eq_2, if_neg (iN_neg (by omega))]
    by_cases e : d = c
    · rw [if_pos e] at hb
      subst hb
      rw [if_pos (by rw [e])]
      unfold sL_sound_316
      obtain ⟨w1, a1, a2⟩ := q_ready R hI hi
      have hs1 := hs.tr a2
      obtain ⟨w2, b1, b2⟩ := q_ready (hs1.R hR hI) hI hi
      rw [if_pos (by rw [e]), q_w1 R hI hi, ob, a1, ob]
      have H1 := H w1 hs1
      have H2 := H w2 (hs1.tr b2)
      rw [iT, iT, iT] at H1 H2
      unfold mx at H1 H2
      by_cases q : aReady m i ≤ l12
      · rw [if_pos q]
        rw [if_neg (Int32.not_lt.mpr q)] at H1
        exact H1
      · rw [if_neg q, b1, ob]
        rw [if_pos (Int32.not_le.mp q)] at H2
        exact H2
    · rw [if_neg e] at hb
      rw [if_neg (fun q => e ((iN_eq (by omega) (by omega)).mp q)), q_c2 R hI hdn, ob]
      exact ih n _ w (hI.ihp hdn) hd2 (by omega) hb hs
theorem s277 (hR : Rl w0 1 m) (hI : Iv T 12 m) (hJ : Jv m) (hc : c < nC m) (H : ∀ w, sim w0 w → Gd w0 (k247 w (iN (nC m)) (iN (nW m)) (l3 + cr m c 1) l4 l5 l6 (iN c + 1))) :
    ∀ (j i n : Nat) (w : Wl), i + j = nW m → j < n → sim w0 w → Gd w0 (sL_sound_277 k247 n w (iN (nC m)) (iN (nW m)) l3 l4 l5 l6 (iN c) (cr m c 2) (fld (fun i a => if isin m (wk m i 4) (iN c) = true then a + 1 else a) i 0 0) (fld (fun i a => if isin m (wk m i 4) (iN c) = true then a + wk m i 1 else a) i 0 0) 0 (fld (fun i a => if isin m (wk m i 4) (iN c) = true then mx a (aReady m i) else a) i 0 (-1)) (iN i)) := by
  have h12 := hI.ic12
  have h16 := hI.iw16
  intro j
  induction j with
  | zero =>
    intro i n w hi hn hs
    obtain ⟨n, rfl⟩ : ∃ q, n = q + 1 := ⟨n - 1, by omega⟩
    obtain rfl : i = nW m := by omega
    rw [sL_sound_277.eq_2, if_pos (Int32.le_refl _)]
    exact s371 hR hI hJ hc H (nC m) 0 FU w (Nat.zero_add _) (by show nC m < 4096; omega) hs
  | succ j ih =>
    intro i n w hi hn hs
    obtain ⟨n, rfl⟩ : ∃ q, n = q + 1 := ⟨n - 1, by omega⟩
    have R := hs.R hR hI
    have hi' : i < nW m := by omega
    rw [sL_sound_277.eq_2, if_neg (iN_nle (by omega) (by omega) (by omega)), q_w4 R hI hi', ob]
    obtain ⟨k, hk1, hk2⟩ := hI.idx (hI.iwp hi')
    refine s292 hR hI hc hi' (isin m (wk m i 4) (iN c)) (fun w hs => ?_) k FU _ w (hI.iwp hi') hk2 (by show k < 4096; omega) rfl hs
    have := ih (i + 1) n w (by omega) (by omega) hs
    rw [fld_s, fld_s, fld_s] at this
    rw [iN_s]
    exact this
end SP
theorem s247 (hR : Rl w0 1 m) (hI : Iv T 12 m) (hJ : Jv m) {l4 l5 l6 : Int32} (h4 : aWay m = l4) (h5 : m 5 = l5) (h6 : sm (fun i => wk m i 1) (nW m) = l6) :
    ∀ (j i n : Nat) (w : Wl), i + j = nC m → j < n → sim w0 w → Gd w0 (sL_sound_247 n w (iN (nC m)) (iN (nW m)) (sm (fun c => cr m c 1) i) l4 l5 l6 (iN i)) := by
  have h12 := hI.ic12
  have h16 := hI.iw16
  have h8 := hI.iv8
  intro j
  induction j with
  | zero =>
    intro i n w hi hn hs
    obtain ⟨n, rfl⟩ : ∃ q, n = q + 1 := ⟨n - 1, by omega⟩
    obtain rfl : i = nC m := by omega
    have R := hs.R hR hI
    rw [sL_sound_247.eq_2, if_pos (Int32.le_refl _)]
    refine s816 hR hI hJ ?_ h4 h5 h6 (nV m) 0 FU w (Nat.zero_add _) (by show nV m < 4096; omega) hs
    rw [aOpn_sm hI]
    refine sm_congr _ fun c hc => ?_
    rcases cr_01 hI hc with g | g
    · rw [g, if_neg (by decide)]
    · rw [g, if_pos rfl]
  | succ j ih =>
    intro i n w hi hn hs
    obtain ⟨n, rfl⟩ : ∃ q, n = q + 1 := ⟨n - 1, by omega⟩
    have R := hs.R hR hI
    have hi' : i < nC m := by omega
    rw [sL_sound_247.eq_2, if_neg (iN_nle (by omega) (by omega) (by omega)), q_c2 R hI hi', ob]
    refine s277 hR hI hJ hi' (fun w hs => ?_) (nW m) 0 FU w (Nat.zero_add _) (by show nW m < 4096; omega) hs
    rw [iN_s]
    exact ih (i + 1) n w (by omega) (by omega) hs
section SQ2
variable {k26 : Wl → Int32 → Int32 → Int32 → Int32 → Int32 → Int32 → Int32 → Option (Bool × Wl)} {i : Nat} {l1 l2 l3 l4 l5 l6 : Int32}
theorem s191 (hR : Rl w0 1 m) (hI : Iv T 12 m) (hi : i < nW m) (H : ∀ w, sim w0 w → Gd w0 (k26 w l1 l2 l3 l4 l5 l6 (iN i + 1))) {l11 : Int32} (h11 : l11 = bI (acl m (wk m i 4))) : ∀ w, sim w0 w → Gd w0 (sL_sound_191 k26 w l1 l2 l3 l4 l5 l6 (iN i) (wk m i 4) (wat m i) l11 (aReady m i)) := by
  have h8 := hI.iv8
  have h12 := hI.ic12
  intro w hs
  have R := hs.R hR hI
  have last : Gd w0 (sL_sound_201 k26 w l1 l2 l3 l4 l5 l6 (iN i) (wat m i) l11 (aReady m i)) := by
    have L : Gd w0 (sL_sound_226 k26 w l1 l2 l3 l4 l5 l6 (iN i) (wat m i)) := by
      unfold sL_sound_226
      rw [q_h1 R hI, ob]
      rcases wat_ptr hI hi with e | ⟨v, hv, e⟩
      · rw [e, if_pos (Int32.lt_of_lt_of_le (show (-1 : Int32) < 0 by decide) (iN_ge (by omega)))]
        exact H w hs
      · rw [e, if_pos ((iN_lt (by omega) (by omega)).mpr hv)]
        exact H w hs
    unfold sL_sound_201
    rw [q_h0 R hI, ob, if_neg (Int32.not_lt.mpr (ready_ge i))]
    cases e : acl m (wk m i 4)
    · rw [if_pos (by rw [h11, e]; rfl), if_pos (ready_op hI hi e)]
      exact L
    · rw [if_neg (by rw [h11, e]; decide)]
      exact L
  unfold sL_sound_191
  rcases hI.iwp hi with e | ⟨c, hc, e⟩
  · obtain ⟨v, hv, q⟩ := (hI.iwo i hi).2.2.2.2.1 e
    rw [e, if_neg (by decide), wat_no e, q, if_neg (iN_neg (by omega))]
    rw [wat_no e, q] at last
    exact last
  · rw [e, if_pos (iN_ge (by omega))]
    exact last
theorem s101 (hR : Rl w0 1 m) (hI : Iv T 12 m) (hJ : Jv m) (hi : i < nW m) (H : ∀ w, sim w0 w → Gd w0 (k26 w l1 l2 l3 l4 l5 l6 (iN i + 1))) :
    ∀ (k n a : Nat) (x l11 : Int32) (w : Wl), ptr (nC m) x → dp (hol m) k x → k < n → a + outw m x = outw m (wk m i 4) → ((l11 = 1 ∧ acl m (wk m i 4) = true) ∨ (l11 = 0 ∧ acl m x = acl m (wk m i 4))) → sim w0 w → Gd w0 (sL_sound_101 k26 n w l1 l2 l3 l4 l5 l6 (iN i) (wk m i 4) (wat m i) (iN a) l11 x) := by
  have h12 := hI.ic12
  have hw12 := outw_le hI (hI.iwp hi)
  intro k
  induction k with
  | zero =>
    intro n a x l11 w hx hd hn ha hl hs
    obtain ⟨n, rfl⟩ : ∃ q, n = q + 1 := ⟨n - 1, by omega⟩
    obtain rfl : x = -1 := hd
    have R := hs.R hR hI
    rw [outw_no, Nat.add_zero] at ha
    rw [acl_no] at hl
    obtain ⟨w1, a1, a2⟩ := q_ready R hI hi
    have hs1 := hs.tr a2
    have R1 := hs1.R hR hI
    obtain ⟨g, hg, hg2, -⟩ := hJ.1 i hi
    have h11 : l11 = bI (acl m (wk m i 4)) := by
      rcases hl with ⟨q1, q2⟩ | ⟨q1, q2⟩
      · rw [q1, q2]; rfl
      · rw [q1, ← q2]; rfl
    have L := s191 hR hI hi H h11 w1 hs1
    rw [sL_sound_101.eq_2, if_pos (by decide), a1, ob, q_w6 R1 hI hi, ob, if_pos (by rw [ha]), q_w2 R1 hI hi, ob, hg2, if_neg (iN_neg (by omega))]
    rcases hI.iwp hi with e | ⟨c, hc, e⟩
    · rw [e] at L ⊢
      rw [if_pos (by decide)]
      exact L
    · have e3 := wat_in (by omega) e
      rw [e] at L ⊢
      rw [if_neg (iN_neg (by omega)), q_c3 R1 hI hc, ob, if_pos e3]
      exact L
  | succ k ih =>
    intro n a x l11 w hx hd hn ha hl hs
    obtain ⟨n, rfl⟩ : ∃ q, n = q + 1 := ⟨n - 1, by omega⟩
    have R := hs.R hR hI
    rcases hx with e | ⟨d, hdn, rfl⟩
    · exact (hd.1 e).elim
    have hd2 := hd.2
    rw [iN_nat (by omega), hol_c (by omega)] at hd2
    rw [outw_in hI hdn] at ha
    rw [acl_in hI hdn] at hl
    rw [sL_sound_101.eq_2, if_neg (iN_neg (by omega)), iN_s]
    have step : ∀ (s0 : Int32), ((s0 = 1 ∧ acl m (wk m i 4) = true) ∨ (s0 = 0 ∧ acl m (cr m d 2) = acl m (wk m i 4))) → Gd w0 (sL_sound_129 k26 (fun w l1 l2 l3 l4 l5 l6 l7 l8 l9 l10 l11 l12 => sL_sound_101 k26 n w l1 l2 l3 l4 l5 l6 l7 l8 l9 l10 l11 l12) w l1 l2 l3 l4 l5 l6 (iN i) (wk m i 4) (wat m i) (iN (a + 1)) (iN d) s0) := by
      intro s0 h0
      unfold sL_sound_129
      rw [q_c2 R hI hdn, ob]
      exact ih n (a + 1) _ s0 w (hI.ihp hdn) hd2 (by omega) (by omega) h0 hs
    rcases hl with ⟨q1, q2⟩ | ⟨q1, q2⟩
    · rw [q1, if_neg (by decide)]
      exact step 1 (Or.inl ⟨rfl, q2⟩)
    · rw [q1, if_pos rfl, q_c1 R hI hdn, ob]
      rcases cr_01 hI hdn with g | g
      · rw [g, if_pos rfl]
        rw [g, if_pos rfl] at q2
        exact step 1 (Or.inl ⟨rfl, q2.symm⟩)
      · rw [g, if_neg (by decide)]
        rw [g, if_neg (by decide)] at q2
        exact step 0 (Or.inr ⟨rfl, q2⟩)
end SQ2
theorem s26 (hR : Rl w0 1 m) (hI : Iv T 12 m) (hJ : Jv m) :
    ∀ (j i n : Nat) (w : Wl), i + j = nW m → j < n → sim w0 w → Gd w0 (sL_sound_26 n w (iN (nC m)) (iN (nW m)) 0 (sm (fun i => if wat m i = -1 then 1 else 0) i) (sm (fun i => wk m i 6) i) (sm (fun i => wk m i 1) i) (iN i)) := by
  have h12 := hI.ic12
  have h16 := hI.iw16
  intro j
  induction j with
  | zero =>
    intro i n w hi hn hs
    obtain ⟨n, rfl⟩ : ∃ q, n = q + 1 := ⟨n - 1, by omega⟩
    obtain rfl : i = nW m := by omega
    rw [sL_sound_26.eq_2, if_pos (Int32.le_refl _)]
    exact s247 hR hI hJ aWay_sm hJ.2.2.1 rfl (nC m) 0 FU w (Nat.zero_add _) (by show nC m < 4096; omega) hs
  | succ j ih =>
    intro i n w hi hn hs
    obtain ⟨n, rfl⟩ : ∃ q, n = q + 1 := ⟨n - 1, by omega⟩
    have R := hs.R hR hI
    have hi' : i < nW m := by omega
    obtain ⟨k, hk1, hk2⟩ := hI.idx (hI.iwp hi')
    rw [sL_sound_26.eq_2, if_neg (iN_nle (by omega) (by omega) (by omega)), q_w4 R hI hi', ob, q_w5 R hI hi', ob]
    have step : ∀ (s1 : Int32), s1 = (if wat m i = -1 then 1 else 0) → Gd w0 (sL_sound_63 (fun w l1 l2 l3 l4 l5 l6 l7 => sL_sound_26 n w l1 l2 l3 l4 l5 l6 l7) w (iN (nC m)) (iN (nW m)) 0 (sm (fun i => wk m i 6) i) (sm (fun i => wk m i 1) i) (iN i) (wk m i 4) (wat m i) (sm (fun i => if wat m i = -1 then 1 else 0) i) s1) := by
      intro s1 h1
      unfold sL_sound_63
      rw [q_w7 R hI hi', ob, q_w1 R hI hi', ob, h1]
      refine s101 hR hI hJ hi' (fun w hs => ?_) k FU 0 _ 0 w (hI.iwp hi') hk2 (by show k < 4096; omega) (Nat.zero_add _) (Or.inr ⟨rfl, rfl⟩) hs
      rw [iN_s]
      exact ih (i + 1) n w (by omega) (by omega) hs
    by_cases e : wat m i = -1
    · have := step 1 (by rw [if_pos e])
      rw [if_pos e]
      exact this
    · have := step 0 (by rw [if_neg e])
      rw [if_neg e]
      exact this
/-- the tour is sound -/
theorem p_sound {w : Wl} (hS : ST T w m) (hJ : Jv m) : ∃ w', sL_sound w = some (true, w') ∧ ST T w' m := by
  have h16 := hS.2.1.iw16
  obtain ⟨w', h1, h2⟩ := s26 hS.1 hS.2.1 hJ (nW m) 0 FU w (Nat.zero_add _) (by show nW m < 4096; omega) (fun _ _ => rfl)
  refine ⟨w', ?_, hS.fr h2⟩
  unfold sL_sound
  rw [q_h2 hS.1 hS.2.1, ob, q_h3 hS.1 hS.2.1, ob]
  exact h1
end SO
