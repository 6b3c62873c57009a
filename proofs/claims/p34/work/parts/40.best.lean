/-! WHERE THE WORKS OF A CRATE WOULD BE READY SOONEST, both sides -/
theorem opn_opb {m m' : Nat → Int32} {c : Nat} (h : cr m' c 1 = cr m c 1) : opb m' c = opb m c := by unfold opb; rw [h]
section BV
variable {T z : Nat} {m : Nat → Int32} {w : Wl}
theorem snd_cr (d j : Nat) {c v : Nat} (hj : j < 9) (h3 : j ≠ 3) (h4 : j ≠ 4) (h5 : j ≠ 5) : cr (sendM m c v) d j = cr m d j := by
  by_cases e : d = c
  · subst e
    obtain ⟨s0, s1, s2, -, -, -, s6, s7, s8⟩ := sendM_0 (m := m) (c := d) (v := v)
    rcases (by omega : j = 0 ∨ j = 1 ∨ j = 2 ∨ j = 6 ∨ j = 7 ∨ j = 8) with rfl | rfl | rfl | rfl | rfl | rfl <;> assumption
  · exact sendM_eqo.fr e hj
theorem snd_stC (hI : Iv T z m) {c v d : Nat} (hc : c < nC m) (hv : v < nV m) (hd : d < nC m) (s : Int32 × Bool) : stC (sendM m c v) v d s = stC m v d s := by
  have h12 := hI.ic12
  have h8 := hI.iv8
  unfold stC nd
  rw [opn_opb (snd_cr d 1 (by decide) (by decide) (by decide) (by decide)), snd_cr d 8 (by decide) (by decide) (by decide) (by decide), snd_cr d 0 (by decide) (by decide) (by decide) (by decide), snd_cr d 6 (by decide) (by decide) (by decide) (by decide), snd_cr d 7 (by decide) (by decide) (by decide) (by decide), sendM_eqo.fv (by omega) (by omega) (by decide), sendM_eqo.fv (by omega) (by omega) (by decide)]
/-- the class's forecast of a work in a crate that is sent -/
theorem snd_ready (hI : Iv T z m) {c v i d : Nat} {x : Int32} (hc : c < nC m) (hv : v < nV m) (h : aReason m c v x = 0) (hi : i < nW m) (hd : d < nC m) (e : wk m i 4 = iN d) (hin : isin m (iN d) (iN c) = true) : aReady (sendM m c v) i = (rG (hol m) (stC m v) (m 0 + vn m (cr m c 3).toNatClampNeg (5 + v), true) 12 (iN d)).1 ∧ ∃ A t, m 0 + vn m (cr m c 3).toNatClampNeg (5 + v) = iN A ∧ A ≤ 1000000200 ∧ A ≤ t ∧ t ≤ A + 4800 ∧ aReady (sendM m c v) i = iN t := by
  have h12 := hI.ic12
  have h8 := hI.iv8
  have h9 := hI.iT9
  have hT := hI.itT
  have hI' := hI.isnd hc hv h
  obtain ⟨o2, o1, h2, ⟨u, a, hu, hne, h3, ha1, ha2, ea⟩, -⟩ := reason0 hI hc hv h
  obtain ⟨n1, n2, n3, n4, n5⟩ := (sendM_eqo (m := m) (c := c) (v := v)).fn (by omega)
  obtain ⟨s0, s1, s2, s3, s4, s5, s6, s7, s8⟩ := sendM_0 (m := m) (c := c) (v := v)
  have eA : m 0 + vn m (cr m c 3).toNatClampNeg (5 + v) = iN (tm m + a) := by rw [h3, iN_nat (by omega), ea, hI.it, iN_add]
  have hout : out (sendM m c v) d = c := by
    unfold out
    rw [sendM_hol]
    exact hI.iio hc hd h2 hin
  obtain ⟨-, rc2⟩ := ready_C hI' (i := i) (c := d) (by rw [n3]; exact hi) (by rw [n2]; exact hd) (by rw [sendM_eqo.fw (by omega)]; exact e)
  obtain ⟨r1, t, t1, t2, t3⟩ := rc2 (by rw [hout]; exact s3) v (tm m + a) (by rw [n1]; exact hv) (by rw [hout]; exact s4) (by rw [hout, s5]; exact eA) (by rw [n5]; omega) (by omega)
  rw [eA]
  refine ⟨?_, tm m + a, t, rfl, by omega, t1, t2, t3⟩
  rw [r1]
  congr 1
  exact rG_congr (by omega) hI.ich (fun c' _ => by rw [sendM_hol]) (fun c' hc' s => snd_stC hI hc hv hc' s) 12 (iN d) (Or.inr ⟨d, hd, rfl⟩)
theorem isin_m1 {x : Int32} : isin m (-1) x = false := by
  unfold isin
  show (if (-1 : Int32) = -1 then false else _) = false
  rw [if_pos rfl]
/-- the class starts from the arrival -/
theorem by_eq (hI : Iv T z m) {c v : Nat} {x : Int32} (hc : c < nC m) (hv : v < nV m) (h : aReason m c v x = 0) : fld (fun i a => if isin m (wk m i 4) (iN c) = true then mx a (aReady (sendM m c v) i) else a) (nW m) 0 (m 0 + vn m (cr m c 3).toNatClampNeg (5 + v)) = aBy m c v := by
  have h16 := hI.iw16
  have h9 := hI.iT9
  have hT := hI.itT
  have h8 := hI.iv8
  obtain ⟨-, -, -, ⟨u, a, hu, hne, h3, ha1, ha2, ea⟩, -⟩ := reason0 hI hc hv h
  have eA : m 0 + vn m (cr m c 3).toNatClampNeg (5 + v) = iN (tm m + a) := by rw [h3, iN_nat (by omega), ea, hI.it, iN_add]
  have hA : tm m + a ≤ 1000000200 := by omega
  generalize tm m + a = A at eA hA
  obtain ⟨n1, n2, n3, n4, n5⟩ := (sendM_eqo (m := m) (c := c) (v := v)).fn (by omega)
  have hwk : ∀ i, wk (sendM m c v) i 4 = wk m i 4 := fun i => sendM_eqo.fw (by have := hI.ic12; omega)
  have his : ∀ x, isin (sendM m c v) x (iN c) = isin m x (iN c) := fun x => by unfold isin; rw [sendM_hol]
  have key : ∀ k, k ≤ nW m → ∃ s, s ≤ k ∧ fld (fun i (a : Int32) => if isin m (wk m i 4) (iN c) = true then a + 1 else a) k 0 0 = iN s ∧
      ((s = 0 ∧ fld (fun i a => if isin m (wk m i 4) (iN c) = true then mx a (aReady (sendM m c v) i) else a) k 0 (iN A) = iN A ∧ fld (fun i a => if isin m (wk m i 4) (iN c) = true then mx a (aReady (sendM m c v) i) else a) k 0 (-1) = -1) ∨
       (1 ≤ s ∧ ∃ t, A ≤ t ∧ t ≤ 1000010000 ∧ fld (fun i a => if isin m (wk m i 4) (iN c) = true then mx a (aReady (sendM m c v) i) else a) k 0 (iN A) = iN t ∧ fld (fun i a => if isin m (wk m i 4) (iN c) = true then mx a (aReady (sendM m c v) i) else a) k 0 (-1) = iN t)) := by
    intro k
    induction k with
    | zero => intro _; exact ⟨0, Nat.le_refl _, rfl, Or.inl ⟨rfl, rfl, rfl⟩⟩
    | succ k ih =>
      intro hk
      obtain ⟨s, hs, e1, e2⟩ := ih (by omega)
      rw [fld_last, fld_last, fld_last, Nat.zero_add, e1]
      cases hin : isin m (wk m k 4) (iN c)
      · simp only [hin, iF]
        refine ⟨s, by omega, ?_, e2⟩
        first | rfl | exact if_neg (by decide)
      · rcases hI.iwp (by omega : k < nW m) with e | ⟨d, hd, e⟩
        · rw [e, isin_m1] at hin; cases hin
        · obtain ⟨-, A', t, a1, a2, t1, t2, t3⟩ := snd_ready hI hc hv h (by omega : k < nW m) hd e (by rw [← e]; exact hin)
          have : A' = A := (iN_eq (by omega) (by omega)).mp (a1.symm.trans eA)
          subst this
          simp only [hin, iT, if_true, t3]
          refine ⟨s + 1, by omega, iN_s s, Or.inr ⟨by omega, ?_⟩⟩
          rcases e2 with ⟨-, e3, e4⟩ | ⟨-, t', u1, u2, e3, e4⟩
          · rw [e3, e4]
            refine ⟨t, t1, by omega, ?_, ?_⟩
            · rw [mx_iN (by omega) (by omega), Nat.max_eq_right t1]
            · unfold mx
              rw [if_pos]
              exact Int32.lt_of_lt_of_le (by decide) (iN_ge (by omega))
          · rw [e3, e4, mx_iN (by omega) (by omega)]
            exact ⟨max t' t, by omega, by omega, rfl, rfl⟩
  obtain ⟨s, hs, e1, e2⟩ := key (nW m) (Nat.le_refl _)
  unfold aBy aWin aAll
  rw [n3, (sendM_0 (m := m) (c := c) (v := v)).2.2.2.2.2.1, eA]
  simp only [hwk, his]
  rw [e1]
  rcases e2 with ⟨rfl, e3, -⟩ | ⟨h1, t, u1, u2, e3, e4⟩
  · rw [e3, if_pos (show iN 0 = 0 from rfl)]
  · rw [e3, e4, if_neg (fun q => by have := (iN_eq (a := s) (b := 0) (by omega) (by decide)).mp q; omega)]
theorem e5_timeIfSent (hR : Rl w 1 m) (hI : Iv T z m) {c v : Nat} {x : Int32} (hc : c < nC m) (hv : v < nV m) (h : aReason m c v x = 0) : ∃ w', sX5_timeIfSent w (iN c) (iN v) = some (aBy m c v, w') ∧ ∀ r, r ≠ 77 → w' r = w r := by
  have h16 := hI.iw16
  have h12 := hI.ic12
  have h8 := hI.iv8
  have h9 := hI.iT9
  have hT := hI.itT
  obtain ⟨o2, o1, h2, ⟨u, a, hu, hne, h3, ha1, ha2, ea⟩, -⟩ := reason0 hI hc hv h
  unfold sX5_timeIfSent
  rw [idx_iN (by omega) (by decide), ob, (hR.c hc).2.1, if_pos h2, h3, e6_hoursBetween hR hI hu hv, ob, hR.s.1, ← by_eq hI hc hv h]
  have eq0 : m 0 + vn m (cr m c 3).toNatClampNeg (5 + v) = m 0 + vn m u (5 + v) := by rw [h3, iN_nat (by omega)]
  rw [eq0]
  have hne1 : ¬ m 0 + vn m u (5 + v) = -1 := by rw [ea, hI.it, iN_add]; exact iN_m1 (by omega)
  have A0 : ∀ (n : Nat) (a : Int32) (s : Int32 × Wl), (s.1 = a ∧ ∀ r, r ≠ 77 → s.2 r = w r) → sX5_timeIfSent_35 (n + 1) s.2 (iN c) (iN v) (m 0 + vn m u (5 + v)) s.1 (iN (nW m)) = some s := by
    intro n a s hs
    have hR' := hR.sameI hI hs.2
    rw [sX5_timeIfSent_35.eq_2, hR'.r7 hI, if_pos ((iN_le (by omega) (by omega)).mpr (Nat.le_refl _))]
  have A1 : ∀ (n : Nat) (a : Int32) (s : Int32 × Wl) (i : Nat), i < nW m → (s.1 = a ∧ ∀ r, r ≠ 77 → s.2 r = w r) → ∃ s' : Int32 × Wl, (s'.1 = (if isin m (wk m i 4) (iN c) = true then mx a (aReady (sendM m c v) i) else a) ∧ ∀ r, r ≠ 77 → s'.2 r = w r) ∧ sX5_timeIfSent_35 (n + 1) s.2 (iN c) (iN v) (m 0 + vn m u (5 + v)) s.1 (iN i) = sX5_timeIfSent_35 n s'.2 (iN c) (iN v) (m 0 + vn m u (5 + v)) s'.1 (iN (i + 1)) := by
    intro n a s i hi hs
    obtain ⟨hs1, hs2⟩ := hs
    have hR' := hR.sameI hI hs2
    rw [sX5_timeIfSent_35.eq_2, hR'.r7 hI, if_neg (show ¬ iN (nW m) ≤ iN i from fun q => by have := (iN_le (by omega) (by omega)).mp q; omega), idx_iN (by omega) (by decide), ob, (hR'.wo hi).2.2.2.2.1, e6_isInOrBelow hR' hI (hI.iwp hi), ob, iN_s]
    cases hin : isin m (wk m i 4) (iN c)
    · simp only [iF]
      exact ⟨s, ⟨hs1, hs2⟩, rfl⟩
    · simp only [iT, if_true]
      rcases hI.iwp hi with e | ⟨d, hd, e⟩
      · rw [e, isin_m1] at hin; cases hin
      · obtain ⟨r1, -⟩ := snd_ready hI hc hv h hi hd e (by rw [← e]; exact hin)
        obtain ⟨w2, e1, e2⟩ := e5_timeThrough hR' hI (a := m 0 + vn m u (5 + v)) hd hv
        rw [if_neg hne1, ← eq0, ← r1] at e1
        rw [e, ← eq0, e1, ob]
        exact ⟨(mx s.1 (aReady (sendM m c v) i), w2), ⟨by show mx s.1 _ = _; rw [hs1], fun r hr => (e2 r hr).trans (hs2 r hr)⟩, rfl⟩
  obtain ⟨s', ⟨q1, q2⟩, q3⟩ := loopA (L := fun n (s : Int32 × Wl) l => sX5_timeIfSent_35 n s.2 (iN c) (iN v) (m 0 + vn m u (5 + v)) s.1 l) (N := nW m) (fin := fun s => some s) (f := fun i a => if isin m (wk m i 4) (iN c) = true then mx a (aReady (sendM m c v) i) else a) (fun _ a s => s.1 = a ∧ ∀ r, r ≠ 77 → s.2 r = w r) A0 A1 (nW m) 0 (m 0 + vn m u (5 + v)) (m 0 + vn m u (5 + v), w) FU (by omega) (by show _ < 4096; omega) ⟨rfl, fun _ _ => rfl⟩
  refine ⟨s'.2, ?_, q2⟩
  rw [← q1]
  exact q3
theorem e5_soonestVenue (hR : Rl w 1 m) (hI : Iv T z m) {c : Nat} {x : Int32} (hc : c < nC m) (hx : ptr (nK m) x) : ∃ w', sX5_soonestVenue w (iN c) x = some ((aBest m c x).1, w') ∧ ∀ r, r ≠ 77 → w' r = w r := by
  have h8 := hI.iv8
  unfold sX5_soonestVenue aBest
  have A0 : ∀ (n : Nat) (a : Int32 × Int32) (s : (Int32 × Int32) × Wl), (s.1 = a ∧ ∀ r, r ≠ 77 → s.2 r = w r) → sX5_soonestVenue_8 (n + 1) s.2 (iN c) x s.1.1 s.1.2 (iN (nV m)) = some (s.1.1, s.2) := by
    intro n a s hs
    have hR' := hR.sameI hI hs.2
    rw [sX5_soonestVenue_8.eq_2, hR'.r5 hI, if_pos ((iN_le (by omega) (by omega)).mpr (Nat.le_refl _))]
  have A1 : ∀ (n : Nat) (a : Int32 × Int32) (s : (Int32 × Int32) × Wl) (i : Nat), i < nV m → (s.1 = a ∧ ∀ r, r ≠ 77 → s.2 r = w r) → ∃ s' : (Int32 × Int32) × Wl, (s'.1 = (if aReason m c i x = 0 then (if a.1 = -1 then (iN i, aBy m c i) else if a.2 ≤ aBy m c i then a else (iN i, aBy m c i)) else a) ∧ ∀ r, r ≠ 77 → s'.2 r = w r) ∧ sX5_soonestVenue_8 (n + 1) s.2 (iN c) x s.1.1 s.1.2 (iN i) = sX5_soonestVenue_8 n s'.2 (iN c) x s'.1.1 s'.1.2 (iN (i + 1)) := by
    intro n a s i hi hs
    obtain ⟨hs1, hs2⟩ := hs
    subst hs1
    have hR' := hR.sameI hI hs2
    have k55 : ∀ (w2 : Wl) (q : Int32), sX5_soonestVenue_55 (fun w l1 l2 l3 l4 l5 => sX5_soonestVenue_8 n w l1 l2 l3 l4 l5) w2 (iN c) x (iN i) q = sX5_soonestVenue_8 n w2 (iN c) x (iN i) q (iN (i + 1)) := fun w2 q => by
      unfold sX5_soonestVenue_55
      rw [iN_s]
    rw [sX5_soonestVenue_8.eq_2, hR'.r5 hI, if_neg (show ¬ iN (nV m) ≤ iN i from fun q => by have := (iN_le (by omega) (by omega)).mp q; omega), e1_reasonAgainst hR' hI hc hi hx, ob, iN_s]
    by_cases hr : aReason m c i x = 0
    · obtain ⟨w2, e1, e2⟩ := e5_timeIfSent hR' hI hc hi hr
      have e2' : ∀ r, r ≠ 77 → w2 r = w r := fun r hr => (e2 r hr).trans (hs2 r hr)
      rw [if_pos hr, if_pos hr, e1, ob, k55]
      by_cases h1 : s.1.1 = -1
      · rw [if_pos h1, if_pos h1]
        exact ⟨((iN i, aBy m c i), w2), ⟨rfl, e2'⟩, rfl⟩
      · rw [if_neg h1, if_neg h1]
        by_cases h3 : s.1.2 ≤ aBy m c i
        · rw [if_pos h3, if_pos h3]
          exact ⟨(s.1, w2), ⟨rfl, e2'⟩, rfl⟩
        · rw [if_neg h3, if_neg h3]
          exact ⟨((iN i, aBy m c i), w2), ⟨rfl, e2'⟩, rfl⟩
    · rw [if_neg hr, if_neg hr]
      exact ⟨s, ⟨rfl, hs2⟩, rfl⟩
  obtain ⟨s', ⟨q1, q2⟩, q3⟩ := loopA (L := fun n (s : (Int32 × Int32) × Wl) l => sX5_soonestVenue_8 n s.2 (iN c) x s.1.1 s.1.2 l) (N := nV m) (fin := fun s => some (s.1.1, s.2)) (f := fun v (s : Int32 × Int32) => if aReason m c v x = 0 then (if s.1 = -1 then (iN v, aBy m c v) else if s.2 ≤ aBy m c v then s else (iN v, aBy m c v)) else s) (fun _ a s => s.1 = a ∧ ∀ r, r ≠ 77 → s.2 r = w r) A0 A1 (nV m) 0 (-1, 0) ((-1, 0), w) FU (by omega) (by show _ < 4096; omega) ⟨rfl, fun _ _ => rfl⟩
  refine ⟨s'.2, ?_, q2⟩
  rw [← q1]
  exact q3
end BV
