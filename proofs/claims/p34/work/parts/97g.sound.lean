/-! SOUND, from its end to its beginning -/
def sim (w0 w : Wl) : Prop := ∀ r, r ≠ 77 → w r = w0 r
def Gd (w0 : Wl) (o : Option (Bool × Wl)) : Prop := ∃ w', o = some (true, w') ∧ sim w0 w'
theorem sim.tr {w0 w w' : Wl} (h : sim w0 w) (h' : ∀ r, r ≠ 77 → w' r = w r) : sim w0 w' := fun r hr => (h' r hr).trans (h r hr)
section SN
variable {T : Nat} {m : Nat → Int32} {w0 : Wl}
theorem sim.R (hR : Rl w0 1 m) (hI : Iv T 12 m) {w : Wl} (h : sim w0 w) : Rl w 1 m := hR.sameI hI h
theorem iN_nle {a b : Nat} (ha : a < 2147483648) (hb : b < 2147483648) (h : b < a) : ¬ iN a ≤ iN b := fun q => by
  have := (iN_le ha hb).mp q
  omega
def kf (m : Nat → Int32) (k : Nat) : Int32 := if co m k = -1 then 1 else 0
theorem s885 (hR : Rl w0 1 m) (hI : Iv T 12 m) {l3 l4 l5 l6 l7 l8 l9 aK : Int32} (h3 : aOpn m = l3) (h4 : aWay m = l4) (h5 : m 5 = l5) (h9 : m 5 = l9 + m 6) (h78 : l7 + l8 = l6) (hk : aK + sm (kf m) (nK m) = iN (nK m)) :
    ∀ (j i n : Nat) (w : Wl), i + j = nK m → j < n → sim w0 w → Gd w0 (sL_sound_885 n w l3 l4 l5 l6 l7 l8 l9 (aK + sm (kf m) i) (iN i)) := by
  have hk4 := hI.ik4
  intro j
  induction j with
  | zero =>
    intro i n w hi hn hs
    obtain ⟨n, rfl⟩ : ∃ q, n = q + 1 := ⟨n - 1, by omega⟩
    obtain rfl : i = nK m := by omega
    have R := hs.R hR hI
    rw [sL_sound_885.eq_2, q_h4 R hI, ob, if_pos (Int32.le_refl _), q_h8 R hI, ob, if_pos h4, q_h9 R hI, ob, if_pos h3, q_h5 R hI, ob, if_pos h5, q_h6 R hI, ob, if_pos h9, if_pos h78, if_pos hk]
    exact ⟨w, rfl, hs⟩
  | succ j ih =>
    intro i n w hi hn hs
    obtain ⟨n, rfl⟩ : ∃ q, n = q + 1 := ⟨n - 1, by omega⟩
    have R := hs.R hR hI
    rw [sL_sound_885.eq_2, q_h4 R hI, ob, if_neg (iN_nle (by omega) (by omega) (by omega)), q_courier R hI (by omega), ob, iN_s]
    have e : sm (kf m) (i + 1) = sm (kf m) i + kf m i := rfl
    by_cases h : co m i = -1
    · rw [if_pos h, Int32.add_assoc, show sm (kf m) i + 1 = sm (kf m) (i + 1) by rw [e]; unfold kf; rw [if_pos h]]
      exact ih (i + 1) n w (by omega) (by omega) hs
    · rw [if_neg h, Int32.add_assoc, show sm (kf m) i + 0 = sm (kf m) (i + 1) by rw [e]; unfold kf; rw [if_neg h]]
      exact ih (i + 1) n w (by omega) (by omega) hs
theorem s816 (hR : Rl w0 1 m) (hI : Iv T 12 m) (hJ : Jv m) {l3 l4 l5 l6 : Int32} (h3 : aOpn m = l3) (h4 : aWay m = l4) (h5 : m 5 = l5) (h6 : sm (fun i => wk m i 1) (nW m) = l6) :
    ∀ (j i n : Nat) (w : Wl), i + j = nV m → j < n → sim w0 w → Gd w0 (sL_sound_816 n w l3 l4 l5 l6 (sm (fun v => aVat m (iN v)) i) (sm (fun v => aVto m (iN v)) i) (sm (fun v => vn m v 4) i) (sm (fun v => aKat m (iN v)) i) (iN i)) := by
  have hv8 := hI.iv8
  intro j
  induction j with
  | zero =>
    intro i n w hi hn hs
    obtain ⟨n, rfl⟩ : ∃ q, n = q + 1 := ⟨n - 1, by omega⟩
    obtain rfl : i = nV m := by omega
    have R := hs.R hR hI
    rw [sL_sound_816.eq_2, q_h1 R hI, ob, if_pos (Int32.le_refl _)]
    have := s885 hR hI h3 h4 h5 (l9 := sm (fun v => vn m v 4) (nV m)) hJ.2.2.2.1 (l7 := sm (fun v => aVat m (iN v)) (nV m)) (l8 := sm (fun v => aVto m (iN v)) (nV m)) ((val_all hI).trans h6) (cou_all hI) (nK m) 0 FU w (Nat.zero_add _) (by have := hI.ik4; show nK m < 4096; omega) hs
    rw [show sm (kf m) 0 = 0 from rfl, Int32.add_zero] at this
    exact this
  | succ j ih =>
    intro i n w hi hn hs
    obtain ⟨n, rfl⟩ : ∃ q, n = q + 1 := ⟨n - 1, by omega⟩
    have R := hs.R hR hI
    have hi' : i < nV m := by omega
    rw [sL_sound_816.eq_2, q_h1 R hI, ob, if_neg (iN_nle (by omega) (by omega) (by omega)), q_v4 R hI hi', ob, q_v5 R hI hi', ob, q_v8 R hI hi', ob, q_v7 R hI hi', ob, iN_s]
    exact ih (i + 1) n w (by omega) (by omega) hs
section SC
variable {k247 : Wl → Int32 → Int32 → Int32 → Int32 → Int32 → Int32 → Int32 → Option (Bool × Wl)} {c : Nat} {l1 l2 l3 l4 l5 l6 : Int32}
theorem s713 (hR : Rl w0 1 m) (hI : Iv T 12 m) (hc : c < nC m) (H : ∀ w, sim w0 w → Gd w0 (k247 w l1 l2 l3 l4 l5 l6 (iN c + 1))) {l13 l15 s0 : Int32} (h13 : l13 = cr m c 1) (h15 : l15 = s0) : ∀ w, sim w0 w → Gd w0 (sL_sound_713 k247 w l1 l2 l3 l4 l5 l6 (iN c) (cr m c 2) l13 l15 s0) := by
  have h12 := hI.ic12
  intro w hs
  have R := hs.R hR hI
  unfold sL_sound_713
  rw [if_pos h15]
  rcases hI.ihp hc with e | ⟨d, hd, e⟩
  · rw [e, if_pos (by decide)]
    exact H w hs
  · rw [e, if_neg (iN_neg (by omega)), q_c3 R hI hd, ob, q_c3 R hI hc, ob, if_pos (vof_in hI hc hd e).symm, q_c4 R hI hd, ob, q_c4 R hI hc, ob, out_in hI hc hd e, if_pos rfl, q_c5 R hI hd, ob, q_c5 R hI hc, ob, out_in hI hc hd e, if_pos rfl]
    rcases cr_01 hI hc with q | q
    · rw [h13, q, if_pos rfl]
      exact H w hs
    · rw [h13, q, if_neg (by decide), q_c1 R hI hd, ob, hol_open hI hc hd e q, if_neg (by decide)]
      exact H w hs
theorem s499 (hR : Rl w0 1 m) (hI : Iv T 12 m) (hc : c < nC m) {l13 l14 l15 s0 s1 : Int32} (h : l13 = 0 ∨ ¬ l15 = 0) (H : ∀ w, sim w0 w → Gd w0 (sL_sound_561 k247 w l1 l2 (s0 + s1) l4 l5 l6 (iN c) (cr m c 2) l13 l14 l15)) : ∀ w, sim w0 w → Gd w0 (sL_sound_499 k247 w l1 l2 l4 l5 l6 (iN c) (cr m c 2) (aWin m (iN c)) (aVin m (iN c)) (aCbl m (iN c)) (aAll m (iN c)) l13 l14 l15 s0 s1) := by
  intro w hs
  have R := hs.R hR hI
  obtain ⟨w1, a1, a2⟩ := q_all R hI hc
  unfold sL_sound_499
  rw [q_c10 R hI hc, ob, if_pos rfl, q_c12 R hI hc, ob, if_pos rfl, q_c11 R hI hc, ob, if_pos rfl, a1, ob, if_pos rfl]
  by_cases h0 : l13 = 0
  · rw [if_pos h0]; exact H w1 (hs.tr a2)
  · rw [if_neg h0, if_neg (h.resolve_left h0)]; exact H w1 (hs.tr a2)
theorem s449 (hR : Rl w0 1 m) (hI : Iv T 12 m) (hJ : Jv m) (hc : c < nC m) {s0 : Int32} (hs0 : s0 = cr m c 1) (H : ∀ w, sim w0 w → Gd w0 (k247 w l1 l2 (l3 + cr m c 1) l4 l5 l6 (iN c + 1))) : ∀ w, sim w0 w → Gd w0 (sL_sound_449 k247 w l1 l2 l3 l4 l5 l6 (iN c) (cr m c 2) (aWin m (iN c)) (aVin m (iN c)) (aCbl m (iN c)) (aAll m (iN c)) s0) := by
  have h12 := hI.ic12
  have h8 := hI.iv8
  have hT := hI.itT
  have hT9 := hI.iT9
  intro w hs
  have R := hs.R hR hI
  have b0 : bI false = 0 := rfl
  have b1 : bI true = 1 := rfl
  unfold sL_sound_449
  rw [q_c3 R hI hc, ob]
  by_cases hg : vof m c = -1
  · obtain ⟨g1, g2, ⟨v, hv, g4⟩, a, ga1, ga2, g5⟩ := cr_go hI hc hg
    rw [g1] at hs0 H
    obtain ⟨s, hs1, hs8⟩ := hJ.2.1 c hc g1
    have gb : opb m c = false := by rcases hI.iob hc with q | q; exact q.2; rw [g1] at q; exact absurd q.1 (by decide)
    subst hs0
    rw [if_pos hg]
    unfold sL_sound_467
    rw [q_c13 R hI hc, ob, g2, b0, if_neg (by decide)]
    unfold sL_sound_486
    rw [if_pos rfl]
    refine s499 hR hI hc (Or.inl rfl) (fun w hs => ?_) w hs
    have R := hs.R hR hI
    unfold sL_sound_561
    rw [if_neg (by decide), if_pos rfl]
    unfold sL_sound_571
    rw [q_c4 R hI hc, ob, g4, if_neg (iN_neg (by omega))]
    unfold sL_sound_588
    rw [if_pos rfl, q_c5 R hI hc, ob, q_h0 R hI, ob, g5, hI.it, if_neg (iN_nle (by omega) (by omega) (by omega))]
    unfold sL_sound_613
    rw [if_pos rfl, q_c8 R hI hc, ob, gb, iF, hs8, if_neg (iN_m1 (by omega))]
    unfold sL_sound_635
    rw [if_pos rfl, q_c9 R hI hc, ob, gb, iF, if_pos hg, if_pos rfl]
    unfold sL_sound_655
    rw [if_pos rfl, if_neg (by decide)]
    unfold sL_sound_670
    rw [if_pos rfl, if_neg (by decide)]
    exact s713 hR hI hc H g1.symm rfl w hs
  · obtain ⟨v, hv, gv, g4, g5⟩ := cr_at hI hc hg
    rw [if_neg hg]
    unfold sL_sound_467
    rcases cr_01 hI hc with g1 | g1
    · rw [g1] at hs0 H
      subst hs0
      obtain ⟨s, hs1, hs8⟩ := hJ.2.1 c hc g1
      have gb : opb m c = false := by rcases hI.iob hc with q | q; exact q.2; rw [g1] at q; exact absurd q.1 (by decide)
      obtain ⟨b, hb, gn⟩ := hI.ind hc hv gb
      rw [q_c13 R hI hc, ob]
      have tail : ∀ (l15 : Int32), l15 = bI (reach m c) → ∀ w, sim w0 w → Gd w0 (sL_sound_561 k247 w l1 l2 (l3 + 0) l4 l5 l6 (iN c) (cr m c 2) 0 0 l15) := by
        intro l15 h15 w hs
        have R := hs.R hR hI
        unfold sL_sound_561
        rw [if_pos rfl]
        unfold sL_sound_571
        rw [q_c4 R hI hc, ob, g4, if_pos (by decide)]
        unfold sL_sound_588
        rw [if_pos rfl, q_c5 R hI hc, ob, q_h0 R hI, ob, g5, hI.it, if_pos (Int32.le_trans (show (-1 : Int32) ≤ 0 by decide) (iN_ge (by omega)))]
        unfold sL_sound_613
        rw [if_pos rfl, q_c8 R hI hc, ob, gb, iF, hs8, if_neg (iN_m1 (by omega))]
        unfold sL_sound_635
        rw [if_pos rfl, q_c9 R hI hc, ob, gb, iF, if_neg hg, gv, iN_nat (by omega), gn, if_neg (iN_m1 (by omega))]
        unfold sL_sound_655
        rw [if_pos rfl, if_pos rfl]
        unfold sL_sound_670
        rw [if_pos rfl, if_pos rfl]
        rcases hI.ihp hc with e | ⟨d, hd, e⟩
        · have hr : reach m c = true := by rw [reach_top (by omega) e, ← vof_top (by omega) e, if_neg hg]
          have := s713 hR hI hc H (l13 := 0) (l15 := l15) (s0 := 1) g1.symm (by rw [h15, hr]; rfl) w hs
          rw [e] at this ⊢
          rw [if_pos (by decide)]
          exact this
        · have hr := reach_in hI hc hd e
          rcases cr_01 hI hd with q | q
          · rw [q, if_pos rfl] at hr
            have := s713 hR hI hc H (l13 := 0) (l15 := l15) (s0 := 0) g1.symm (by rw [h15, hr]; rfl) w hs
            rw [e] at this ⊢
            rw [if_neg (iN_neg (by omega)), q_c1 R hI hd, ob, q, if_neg (by decide)]
            exact this
          · rw [q, if_neg (by decide)] at hr
            cases hrd : reach m d
            · rw [hrd] at hr
              have := s713 hR hI hc H (l13 := 0) (l15 := l15) (s0 := 0) g1.symm (by rw [h15, hr]; rfl) w hs
              rw [e] at this ⊢
              rw [if_neg (iN_neg (by omega)), q_c1 R hI hd, ob, q, if_pos rfl, q_c13 R hI hd, ob, hrd, b0, if_neg (by decide)]
              exact this
            · rw [hrd] at hr
              have := s713 hR hI hc H (l13 := 0) (l15 := l15) (s0 := 1) g1.symm (by rw [h15, hr]; rfl) w hs
              rw [e] at this ⊢
              rw [if_neg (iN_neg (by omega)), q_c1 R hI hd, ob, q, if_pos rfl, q_c13 R hI hd, ob, hrd, b1, if_pos rfl]
              exact this
      cases hr : reach m c
      · rw [b0, if_neg (by decide)]
        unfold sL_sound_486
        rw [if_pos rfl]
        exact s499 hR hI hc (Or.inl rfl) (tail 0 (by rw [hr]; rfl)) w hs
      · rw [b1, if_pos rfl]
        unfold sL_sound_486
        rw [if_pos rfl]
        exact s499 hR hI hc (Or.inl rfl) (tail 1 (by rw [hr]; rfl)) w hs
    · rw [g1] at hs0 H
      subst hs0
      have hr := open_reach hI c hc g1
      have gb : opb m c = true := by rcases hI.iob hc with q | q; rw [g1] at q; exact absurd q.1 (by decide); exact q.2
      rw [q_c13 R hI hc, ob, hr, b1, if_pos rfl]
      unfold sL_sound_486
      rw [if_neg (by decide)]
      refine s499 hR hI hc (Or.inr (by decide)) (fun w hs => ?_) w hs
      have R := hs.R hR hI
      unfold sL_sound_561
      rw [if_pos rfl]
      unfold sL_sound_571
      rw [q_c4 R hI hc, ob, g4, if_pos (by decide)]
      unfold sL_sound_588
      rw [if_pos rfl, q_c5 R hI hc, ob, q_h0 R hI, ob, g5, hI.it, if_pos (Int32.le_trans (show (-1 : Int32) ≤ 0 by decide) (iN_ge (by omega)))]
      unfold sL_sound_613
      rw [if_pos rfl, q_c8 R hI hc, ob, gb, iT, if_pos rfl]
      unfold sL_sound_635
      rw [if_pos rfl, q_c9 R hI hc, ob, gb, iT, if_pos rfl]
      unfold sL_sound_655
      rw [if_neg (by decide)]
      unfold sL_sound_670
      rw [if_pos rfl, if_pos rfl]
      have := s713 hR hI hc H (l13 := 1) (l15 := 1) (s0 := 1) g1.symm rfl w hs
      rcases hI.ihp hc with e | ⟨d, hd, e⟩
      · rw [e] at this ⊢
        rw [if_pos (by decide)]
        exact this
      · have q := hol_open hI hc hd e g1
        have hr' := reach_in hI hc hd e
        rw [hr, q, if_neg (by decide)] at hr'
        rw [e] at this ⊢
        rw [if_neg (iN_neg (by omega)), q_c1 R hI hd, ob, q, if_pos rfl, q_c13 R hI hd, ob, ← hr', b1, if_pos rfl]
        exact this
end SC
end SN
