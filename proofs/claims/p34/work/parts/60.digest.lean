/-! THE DIGEST -/
section DG
variable {w : Wl} {T z : Nat} {m : Nat → Int32}
def mixI (h : Int64) (x : Int32) : Int64 := (31 : Int64) * h + x.toInt64
def dgA (m : Nat → Int32) (h : Int64) : Int64 := fld (fun j a => mixI a (aWhole m (iN j))) 10 0 h
def dgV1 (m : Nat → Int32) (v : Nat) (h : Int64) : Int64 := fld (fun j a => mixI a (aVenue m v (iN j))) 9 0 h
def dgV (m : Nat → Int32) (h : Int64) : Int64 := fld (dgV1 m) (nV m) 0 h
def dgC1 (m : Nat → Int32) (c : Nat) (h : Int64) : Int64 := mixI (fld (fun j a => mixI a (aCrate m c (iN j))) 14 0 h) (aAll m (iN c))
def dgC (m : Nat → Int32) (h : Int64) : Int64 := fld (dgC1 m) (nC m) 0 h
def dgW1 (m : Nat → Int32) (i : Nat) (h : Int64) : Int64 := mixI (fld (fun j a => mixI a (aNoted m i (iN j))) 10 0 (fld (fun j a => mixI a (aWork m i (iN j))) 8 0 h)) (aReady m i)
def dgW (m : Nat → Int32) (h : Int64) : Int64 := fld (dgW1 m) (nW m) 0 h
def dgK (m : Nat → Int32) (h : Int64) : Int64 := fld (fun k a => mixI a (co m k)) (nK m) 0 h
def dg (m : Nat → Int32) (u l : Int32) : Int64 := dgK m (dgW m (dgC m (dgV m (dgA m (mixI (mixI 43003 u) l)))))
-- the class
theorem e12_mixed (h : Int64) (x : Int32) : sX12_mixed w h x.toInt64 = some (mixI h x) := rfl
theorem e12_withVenues (hR : Rl w 1 m) (hI : Iv T z m) (h : Int64) : sX12_withVenues w h = some (dgV m h) := by
  have h8 := hI.iv8
  unfold sX12_withVenues dgV
  have B0 : ∀ n a, sX12_withVenues_5 (n + 1) w a (iN (nV m)) = some a := fun n a => by
    rw [sX12_withVenues_5.eq_2, hR.r5 hI, if_pos ((iN_le (by omega) (by omega)).mpr (Nat.le_refl _))]
  have B1 : ∀ n a i, i < nV m → sX12_withVenues_5 (n + 1) w a (iN i) = sX12_withVenues_5 n w (dgV1 m i a) (iN (i + 1)) := fun n a i hi => by
    rw [sX12_withVenues_5.eq_2, hR.r5 hI, if_neg (fun q => by have := (iN_le (by omega) (by omega)).mp q; omega)]
    refine (loopR (L := fun k (a : Int64) l => sX12_withVenues_20 (fun w l3 l5 => sX12_withVenues_5 n w l3 l5) k w a (iN i) l) (N := 9) (fin := fun a => sX12_withVenues_5 n w a (iN i + 1)) (f := fun j a => mixI a (aVenue m i (iN j))) (fun k a => ?_) (fun k a j hj => ?_) (by show _ < 4096; omega) a).trans ?_
    · show sX12_withVenues_20 _ (k + 1) w a (iN i) (iN 9) = _
      rw [sX12_withVenues_20.eq_2, if_pos (by decide)]
    · show sX12_withVenues_20 _ (k + 1) w a (iN i) (iN j) = sX12_withVenues_20 _ k w (mixI a (aVenue m i (iN j))) (iN i) (iN (j + 1))
      rw [sX12_withVenues_20.eq_2, if_neg (show ¬ (9 : Int32) ≤ iN j from fun q => by have := (iN_le (a := 9) (by decide) (by omega)).mp q; omega), e8_ofVenue hR hI hi, ob, e12_mixed, ob, iN_s]
    · show sX12_withVenues_5 n w (dgV1 m i a) (iN i + 1) = _
      rw [iN_s]
  exact loopR (L := fun n a l => sX12_withVenues_5 n w a l) (N := nV m) (fin := some) (f := dgV1 m) B0 B1 (by show _ < 4096; omega) h
theorem e12_withCrates (hR : Rl w 1 m) (hI : Iv T z m) (h : Int64) : ∃ w', sX12_withCrates w h = some (dgC m h, w') ∧ ∀ r, r ≠ 77 → w' r = w r := by
  have h12 := hI.ic12
  have h16 := hI.iw16
  unfold sX12_withCrates dgC
  have R' : ∀ s : Wl, (∀ r, r ≠ 77 → s r = w r) → Rl s 1 m := fun s hs => hR.same (fun r g1 g2 => hs r (by omega)) h12 h16
  have B0 : ∀ n a (s : Int64 × Wl), (s.1 = a ∧ ∀ r, r ≠ 77 → s.2 r = w r) → sX12_withCrates_5 (n + 1) s.2 s.1 (iN (nC m)) = some s := fun n a s ⟨q1, q2⟩ => by
    rw [sX12_withCrates_5.eq_2, (R' s.2 q2).r6 hI, if_pos ((iN_le (by omega) (by omega)).mpr (Nat.le_refl _))]
  have B1 : ∀ n a (s : Int64 × Wl) i, i < nC m → (s.1 = a ∧ ∀ r, r ≠ 77 → s.2 r = w r) → ∃ s' : Int64 × Wl, (s'.1 = dgC1 m i a ∧ ∀ r, r ≠ 77 → s'.2 r = w r) ∧ sX12_withCrates_5 (n + 1) s.2 s.1 (iN i) = sX12_withCrates_5 n s'.2 s'.1 (iN (i + 1)) := fun n a s i hi ⟨q1, q2⟩ => by
    have R2 := R' s.2 q2
    rw [sX12_withCrates_5.eq_2, R2.r6 hI, if_neg (fun q => by have := (iN_le (by omega) (by omega)).mp q; omega)]
    obtain ⟨w2, e1, e2⟩ := e5_timeOfCrate R2 hI (iN i)
    refine ⟨(dgC1 m i a, w2), ⟨rfl, fun r hr => (e2 r hr).trans (q2 r hr)⟩, ?_⟩
    subst q1
    refine (loopR (L := fun k (a : Int64) l => sX12_withCrates_20 (fun w l3 l5 => sX12_withCrates_5 n w l3 l5) k s.2 a (iN i) l) (N := 14) (fin := fun a => sX12_withCrates_5 n w2 (mixI a (aAll m (iN i))) (iN i + 1)) (f := fun j a => mixI a (aCrate m i (iN j))) (fun k a => ?_) (fun k a j hj => ?_) (by show _ < 4096; omega) s.1).trans ?_
    · show sX12_withCrates_20 _ (k + 1) s.2 a (iN i) (iN 14) = _
      rw [sX12_withCrates_20.eq_2, if_pos (by decide), e1, ob, e12_mixed, ob]
    · show sX12_withCrates_20 _ (k + 1) s.2 a (iN i) (iN j) = sX12_withCrates_20 _ k s.2 (mixI a (aCrate m i (iN j))) (iN i) (iN (j + 1))
      rw [sX12_withCrates_20.eq_2, if_neg (show ¬ (14 : Int32) ≤ iN j from fun q => by have := (iN_le (a := 14) (by decide) (by omega)).mp q; omega), e8_ofCrate R2 hI hi, ob, e12_mixed, ob, iN_s]
    · show sX12_withCrates_5 n w2 (dgC1 m i s.1) (iN i + 1) = _
      rw [iN_s]
  obtain ⟨s', ⟨q1, q2⟩, q3⟩ := loopB (L := fun n (s : Int64 × Wl) l => sX12_withCrates_5 n s.2 s.1 l) (N := nC m) (fin := fun _ s => some s) (f := dgC1 m) (fun _ a s => s.1 = a ∧ ∀ r, r ≠ 77 → s.2 r = w r) B0 B1 (nC m) 0 h (h, w) FU (by omega) (by show _ < 4096; omega) ⟨rfl, fun _ _ => rfl⟩
  refine ⟨s'.2, ?_, q2⟩
  rw [← q1]
  exact q3
theorem e12_withWorks (hR : Rl w 1 m) (hI : Iv T z m) (h : Int64) : ∃ w', sX12_withWorks w h = some (dgW m h, w') ∧ ∀ r, r ≠ 77 → w' r = w r := by
  have h12 := hI.ic12
  have h16 := hI.iw16
  unfold sX12_withWorks dgW
  have R' : ∀ s : Wl, (∀ r, r ≠ 77 → s r = w r) → Rl s 1 m := fun s hs => hR.same (fun r g1 g2 => hs r (by omega)) h12 h16
  have B0 : ∀ n a (s : Int64 × Wl), (s.1 = a ∧ ∀ r, r ≠ 77 → s.2 r = w r) → sX12_withWorks_5 (n + 1) s.2 s.1 (iN (nW m)) = some s := fun n a s ⟨q1, q2⟩ => by
    rw [sX12_withWorks_5.eq_2, (R' s.2 q2).r7 hI, if_pos ((iN_le (by omega) (by omega)).mpr (Nat.le_refl _))]
  have B1 : ∀ n a (s : Int64 × Wl) i, i < nW m → (s.1 = a ∧ ∀ r, r ≠ 77 → s.2 r = w r) → ∃ s' : Int64 × Wl, (s'.1 = dgW1 m i a ∧ ∀ r, r ≠ 77 → s'.2 r = w r) ∧ sX12_withWorks_5 (n + 1) s.2 s.1 (iN i) = sX12_withWorks_5 n s'.2 s'.1 (iN (i + 1)) := fun n a s i hi ⟨q1, q2⟩ => by
    have R2 := R' s.2 q2
    rw [sX12_withWorks_5.eq_2, R2.r7 hI, if_neg (fun q => by have := (iN_le (by omega) (by omega)).mp q; omega)]
    obtain ⟨w2, e1, e2⟩ := e5_timeOfWork R2 hI hi
    refine ⟨(dgW1 m i a, w2), ⟨rfl, fun r hr => (e2 r hr).trans (q2 r hr)⟩, ?_⟩
    subst q1
    have C : ∀ a : Int64, sX12_withWorks_53 (fun w l3 l5 => sX12_withWorks_5 n w l3 l5) FU s.2 a (iN i) (0 : Int32) = sX12_withWorks_5 n w2 (mixI (fld (fun j a => mixI a (aNoted m i (iN j))) 10 0 a) (aReady m i)) (iN i + 1) := fun a => by
      refine loopR (L := fun k (a : Int64) l => sX12_withWorks_53 (fun w l3 l5 => sX12_withWorks_5 n w l3 l5) k s.2 a (iN i) l) (N := 10) (fin := fun a => sX12_withWorks_5 n w2 (mixI a (aReady m i)) (iN i + 1)) (f := fun j a => mixI a (aNoted m i (iN j))) (fun k a => ?_) (fun k a j hj => ?_) (by show _ < 4096; omega) a
      · show sX12_withWorks_53 _ (k + 1) s.2 a (iN i) (iN 10) = _
        rw [sX12_withWorks_53.eq_2, if_pos (by decide), e1, ob, e12_mixed, ob]
      · show sX12_withWorks_53 _ (k + 1) s.2 a (iN i) (iN j) = sX12_withWorks_53 _ k s.2 (mixI a (aNoted m i (iN j))) (iN i) (iN (j + 1))
        rw [sX12_withWorks_53.eq_2, if_neg (show ¬ (10 : Int32) ≤ iN j from fun q => by have := (iN_le (a := 10) (by decide) (by omega)).mp q; omega), idx_iN (by omega) (by decide), ob, e11_placeNoted R2 hI hi (iN_neg (by omega)), ob, e12_mixed, ob, iN_s]
    refine (loopR (L := fun k (a : Int64) l => sX12_withWorks_20 (fun w l3 l5 => sX12_withWorks_5 n w l3 l5) k s.2 a (iN i) l) (N := 8) (fin := fun a => sX12_withWorks_5 n w2 (mixI (fld (fun j a => mixI a (aNoted m i (iN j))) 10 0 a) (aReady m i)) (iN i + 1)) (f := fun j a => mixI a (aWork m i (iN j))) (fun k a => ?_) (fun k a j hj => ?_) (by show _ < 4096; omega) s.1).trans ?_
    · show sX12_withWorks_20 _ (k + 1) s.2 a (iN i) (iN 8) = _
      rw [sX12_withWorks_20.eq_2, if_pos (by decide)]
      exact C a
    · show sX12_withWorks_20 _ (k + 1) s.2 a (iN i) (iN j) = sX12_withWorks_20 _ k s.2 (mixI a (aWork m i (iN j))) (iN i) (iN (j + 1))
      rw [sX12_withWorks_20.eq_2, if_neg (show ¬ (8 : Int32) ≤ iN j from fun q => by have := (iN_le (a := 8) (by decide) (by omega)).mp q; omega), e8_ofWork R2 hI hi, ob, e12_mixed, ob, iN_s]
    · show sX12_withWorks_5 n w2 (dgW1 m i s.1) (iN i + 1) = _
      rw [iN_s]
  obtain ⟨s', ⟨q1, q2⟩, q3⟩ := loopB (L := fun n (s : Int64 × Wl) l => sX12_withWorks_5 n s.2 s.1 l) (N := nW m) (fin := fun _ s => some s) (f := dgW1 m) (fun _ a s => s.1 = a ∧ ∀ r, r ≠ 77 → s.2 r = w r) B0 B1 (nW m) 0 h (h, w) FU (by omega) (by show _ < 4096; omega) ⟨rfl, fun _ _ => rfl⟩
  refine ⟨s'.2, ?_, q2⟩
  rw [← q1]
  exact q3
/-- the class's digest -/
theorem e12_digest (hR : Rl w 1 m) (hI : Iv T z m) : ∃ w', sX12_digest w = some (dg m (w 78 1) (w 368 1), w') ∧ ∀ r, r ≠ 77 → w' r = w r := by
  have h12 := hI.ic12
  have h16 := hI.iw16
  have h4 := hI.ik4
  have R' : ∀ s : Wl, (∀ r, r ≠ 77 → s r = w r) → Rl s 1 m := fun s hs => hR.same (fun r g1 g2 => hs r (by omega)) h12 h16
  unfold sX12_digest dg
  rw [e12_mixed, ob, e12_mixed, ob]
  generalize mixI (mixI 43003 (w 78 1)) (w 368 1) = h
  obtain ⟨w1, a1, a2⟩ := e12_withCrates hR hI (dgV m (dgA m h))
  obtain ⟨w2, b1, b2⟩ := e12_withWorks (R' w1 a2) hI (dgC m (dgV m (dgA m h)))
  have c2 : ∀ r, r ≠ 77 → w2 r = w r := fun r hr => (b2 r hr).trans (a2 r hr)
  refine ⟨w2, ?_, c2⟩
  have R2 := R' w2 c2
  have D : ∀ h : Int64, sX12_digest_76 FU w2 h (0 : Int32) = some (dgK m h, w2) := fun h => by
    refine loopR (L := fun n (a : Int64) l => sX12_digest_76 n w2 a l) (N := nK m) (fin := fun a => some (a, w2)) (f := fun k a => mixI a (co m k)) (fun n a => ?_) (fun n a i hi => ?_) (by show _ < 4096; omega) h
    · show sX12_digest_76 (n + 1) w2 a (iN (nK m)) = _
      rw [sX12_digest_76.eq_2, R2.r8 hI, if_pos ((iN_le (by omega) (by omega)).mpr (Nat.le_refl _))]
    · show sX12_digest_76 (n + 1) w2 a (iN i) = sX12_digest_76 n w2 (mixI a (co m i)) (iN (i + 1))
      rw [sX12_digest_76.eq_2, R2.r8 hI, if_neg (fun q => by have := (iN_le (by omega) (by omega)).mp q; omega), idx_iN (by omega) (by decide), ob, R2.k (by omega), e12_mixed, ob, iN_s]
  refine loopR (L := fun n (a : Int64) l => sX12_digest_30 n w a l) (N := 10) (fin := fun a => (sX12_withVenues w a).bind (fun r2 => (sX12_withCrates w r2).bind (fun r4 => (sX12_withWorks r4.2 r4.1).bind (fun r8 => sX12_digest_76 FU r8.2 r8.1 (0 : Int32))))) (f := fun j a => mixI a (aWhole m (iN j))) (fun n a => ?_) (fun n a i hi => ?_) (by show _ < 4096; omega) h |>.trans ?_
  · show sX12_digest_30 (n + 1) w a (iN 10) = _
    rw [sX12_digest_30.eq_2, if_pos (by decide)]
  · show sX12_digest_30 (n + 1) w a (iN i) = sX12_digest_30 n w (mixI a (aWhole m (iN i))) (iN (i + 1))
    rw [sX12_digest_30.eq_2, if_neg (show ¬ (10 : Int32) ≤ iN i from fun q => by have := (iN_le (a := 10) (by decide) (by omega)).mp q; omega), e8_ofWhole hR hI, ob, e12_mixed, ob, iN_s]
  · show (sX12_withVenues w (dgA m h)).bind _ = _
    rw [e12_withVenues hR hI, ob, a1, ob, b1, ob]
    exact D _
end DG
