/-! THE CALLS, in terms of the abstract state m -/
section AQ
variable {T z : Nat} {m : Nat → Int32} {w : Wl}
theorem okS_s {β : Type} {x : Option (Sum Int32 β)} {v : β} (h : x = some (.inr v)) : okS x = some v := by rw [h]; rfl
theorem f3_ttt : f3 true true true = 0 := rfl
-- questions
theorem q_crate (hR : Rl w 1 m) (hI : Iv T z m) {c : Nat} (hc : c < nC m) {l : Int32} (hl : rng 0 13 l = true) : sO_crate w (iN c) l = some (aCrate m c l) := by
  have h12 := hI.ic12
  refine okS_s ?_
  unfold sX12_crate
  rw [e6_hasCrate hR hI, ob, ok_lt (by omega) hc, show (14 : Int32) = iN (13 + 1) from rfl, e1_ofValue (by decide), ob, show iN 13 = 13 from rfl, hl, f3_ttt, tiw_0, e8_ofCrate hR hI hc, ob]
theorem q_work (hR : Rl w 1 m) (hI : Iv T z m) {i : Nat} (hi : i < nW m) {l : Int32} (hl : rng 0 7 l = true) : sO_work w (iN i) l = some (aWork m i l) := by
  have h16 := hI.iw16
  refine okS_s ?_
  unfold sX12_work
  rw [e6_hasWork hR hI, ob, ok_lt (by omega) hi, show (8 : Int32) = iN (7 + 1) from rfl, e1_ofValue (by decide), ob, show iN 7 = 7 from rfl, hl, f3_ttt, tiw_0, e8_ofWork hR hI hi, ob]
theorem q_venue (hR : Rl w 1 m) (hI : Iv T z m) {v : Nat} (hv : v < nV m) {l : Int32} (hl : rng 0 8 l = true) : sO_venue w (iN v) l = some (aVenue m v l) := by
  have h8 := hI.iv8
  refine okS_s ?_
  unfold sX12_venue
  rw [e6_hasVenue hR hI, ob, ok_lt (by omega) hv, show (9 : Int32) = iN (8 + 1) from rfl, e1_ofValue (by decide), ob, show iN 8 = 8 from rfl, hl, f3_ttt, tiw_0, e8_ofVenue hR hI hv, ob]
theorem q_whole (hR : Rl w 1 m) (hI : Iv T z m) {l : Int32} (hl : rng 0 9 l = true) : sO_whole w l = some (aWhole m l) := by
  refine okS_s ?_
  unfold sX12_whole
  rw [show (1 : Int32) = bI true from rfl, show (10 : Int32) = iN (9 + 1) from rfl, e1_ofValue (by decide), ob, show iN 9 = 9 from rfl, hl, f3_ttt, tiw_0, e8_ofWhole hR hI, ob]
theorem q_noted (hR : Rl w 1 m) (hI : Iv T 12 m) {i : Nat} (hi : i < nW m) {l : Int32} (hl : ¬ l < 0) : sO_noted w (iN i) l = some (aNoted m i l) := by
  have h16 := hI.iw16
  refine okS_s ?_
  unfold sX12_noted
  rw [e1_ofNoted hR hI, ob, ok_lt (by omega) hi, if_neg hl, f3_ttt, tiw_0, idx_iN (by omega) (by decide), ob, e11_placeNoted hR hI hi hl, ob]
theorem q_courier (hR : Rl w 1 m) (hI : Iv T z m) {k : Nat} (hk : k < nK m) : sO_courier w (iN k) = some (co m k) := by
  have h4 := hI.ik4
  refine okS_s ?_
  unfold sX12_courier
  rw [e6_hasCourier hR hI, ob, ok_lt (by omega) hk, e1_ofNumber, ob, f3_ttt, tiw_0, idx_iN (by omega) (by decide), ob, hR.k (by omega)]
theorem q_ready (hR : Rl w 1 m) (hI : Iv T z m) {i : Nat} (hi : i < nW m) : ∃ w', sO_readyAt w (iN i) = some (aReady m i, w') ∧ ∀ r, r ≠ 77 → w' r = w r := by
  have h16 := hI.iw16
  obtain ⟨w', h1, h2⟩ := e5_timeOfWork hR hI hi
  refine ⟨w', okS_s ?_, h2⟩
  unfold sX12_readyAt
  rw [e6_hasWork hR hI, ob, ok_lt (by omega) hi, e1_ofNumber, ob, f3_ttt, tiw_0, h1, ob]
theorem q_all (hR : Rl w 1 m) (hI : Iv T z m) {c : Nat} (hc : c < nC m) : ∃ w', sO_allReadyAt w (iN c) = some (aAll m (iN c), w') ∧ ∀ r, r ≠ 77 → w' r = w r := by
  have h12 := hI.ic12
  obtain ⟨w', h1, h2⟩ := e5_timeOfCrate hR hI (iN c)
  refine ⟨w', okS_s ?_, h2⟩
  unfold sX12_allReadyAt
  rw [e6_hasCrate hR hI, ob, ok_lt (by omega) hc, e1_ofNumber, ob, f3_ttt, tiw_0, h1, ob]
theorem okx_p {n : Nat} (hn : n < 2147483648) {x : Int32} (h : ptr n x) : okx n x = true := by
  unfold okx
  rcases h with h | ⟨d, hd, rfl⟩
  · rw [if_pos h]
  · rw [if_neg (iN_m1 (by omega)), ok_lt hn hd]
theorem q_best (hR : Rl w 1 m) (hI : Iv T z m) {c : Nat} {x : Int32} (hc : c < nC m) (hx : ptr (nK m) x) : ∃ w', sO_bestVenue w (iN c) x = some ((aBest m c x).1, w') ∧ ∀ r, r ≠ 77 → w' r = w r := by
  have h12 := hI.ic12
  have h4 := hI.ik4
  obtain ⟨w', h1, h2⟩ := e5_soonestVenue hR hI hc hx
  refine ⟨w', okS_s ?_, h2⟩
  have e : (if x = -1 then true else ok (nK m) x) = true := okx_p (by omega) hx
  unfold sX12_bestVenue
  rw [e6_hasCrate hR hI, ob, ok_lt (by omega) hc, if_pos rfl, e6_isCourierOrNone hR hI, ob, e, if_pos rfl, show (1 : Int32) = bI true from rfl, e1_ofNumber, ob, f3_ttt, tiw_0, h1, ob]
theorem q_ref (hR : Rl w 1 m) (hI : Iv T z m) {c v : Nat} {x : Int32} (hc : c < nC m) (hv : v < nV m) (hx : ptr (nK m) x) : sO_refusal w (iN c) (iN v) x = some (aReason m c v x) := by
  have h12 := hI.ic12
  have h4 := hI.ik4
  have h8 := hI.iv8
  refine okS_s ?_
  unfold sX12_refusal
  rw [e1_ofLeg hR hI, ob, ok_lt (by omega) hc, ok_lt (by omega) hv, okx_p (by omega) hx, if_pos (by decide), tiw_0, e1_reasonAgainst hR hI hc hv hx, ob]
-- by their names
theorem q_c0 (hR : Rl w 1 m) (hI : Iv T z m) {c : Nat} (hc : c < nC m) : sO_crate w (iN c) 0 = some (cr m c 0) := q_crate hR hI hc rfl
theorem q_c1 (hR : Rl w 1 m) (hI : Iv T z m) {c : Nat} (hc : c < nC m) : sO_crate w (iN c) 1 = some (cr m c 1) := q_crate hR hI hc rfl
theorem q_c2 (hR : Rl w 1 m) (hI : Iv T z m) {c : Nat} (hc : c < nC m) : sO_crate w (iN c) 2 = some (cr m c 2) := q_crate hR hI hc rfl
theorem q_c3 (hR : Rl w 1 m) (hI : Iv T z m) {c : Nat} (hc : c < nC m) : sO_crate w (iN c) 3 = some (vof m c) := q_crate hR hI hc rfl
theorem q_c4 (hR : Rl w 1 m) (hI : Iv T z m) {c : Nat} (hc : c < nC m) : sO_crate w (iN c) 4 = some (cr m (out m c) 4) := q_crate hR hI hc rfl
theorem q_c5 (hR : Rl w 1 m) (hI : Iv T z m) {c : Nat} (hc : c < nC m) : sO_crate w (iN c) 5 = some (cr m (out m c) 5) := q_crate hR hI hc rfl
theorem q_c6 (hR : Rl w 1 m) (hI : Iv T z m) {c : Nat} (hc : c < nC m) : sO_crate w (iN c) 6 = some (if opb m c = true then vn m (vof m c).toNatClampNeg 0 else cr m c 6) := q_crate hR hI hc rfl
theorem q_c8 (hR : Rl w 1 m) (hI : Iv T z m) {c : Nat} (hc : c < nC m) : sO_crate w (iN c) 8 = some (if opb m c = true then -1 else cr m c 8) := q_crate hR hI hc rfl
theorem q_c9 (hR : Rl w 1 m) (hI : Iv T z m) {c : Nat} (hc : c < nC m) : sO_crate w (iN c) 9 = some (if opb m c = true then -1 else if vof m c = -1 then -1 else nd m c (vof m c).toNatClampNeg) := q_crate hR hI hc rfl
theorem q_c10 (hR : Rl w 1 m) (hI : Iv T z m) {c : Nat} (hc : c < nC m) : sO_crate w (iN c) 10 = some (aWin m (iN c)) := q_crate hR hI hc rfl
theorem q_c11 (hR : Rl w 1 m) (hI : Iv T z m) {c : Nat} (hc : c < nC m) : sO_crate w (iN c) 11 = some (aCbl m (iN c)) := q_crate hR hI hc rfl
theorem q_c12 (hR : Rl w 1 m) (hI : Iv T z m) {c : Nat} (hc : c < nC m) : sO_crate w (iN c) 12 = some (aVin m (iN c)) := q_crate hR hI hc rfl
theorem q_c13 (hR : Rl w 1 m) (hI : Iv T z m) {c : Nat} (hc : c < nC m) : sO_crate w (iN c) 13 = some (bI (reach m c)) := q_crate hR hI hc rfl
theorem q_w1 (hR : Rl w 1 m) (hI : Iv T z m) {i : Nat} (hi : i < nW m) : sO_work w (iN i) 1 = some (wk m i 1) := q_work hR hI hi rfl
theorem q_w2 (hR : Rl w 1 m) (hI : Iv T z m) {i : Nat} (hi : i < nW m) : sO_work w (iN i) 2 = some (wk m i 2) := q_work hR hI hi rfl
theorem q_w4 (hR : Rl w 1 m) (hI : Iv T z m) {i : Nat} (hi : i < nW m) : sO_work w (iN i) 4 = some (wk m i 4) := q_work hR hI hi rfl
theorem q_w5 (hR : Rl w 1 m) (hI : Iv T z m) {i : Nat} (hi : i < nW m) : sO_work w (iN i) 5 = some (wat m i) := q_work hR hI hi rfl
theorem q_w6 (hR : Rl w 1 m) (hI : Iv T z m) {i : Nat} (hi : i < nW m) : sO_work w (iN i) 6 = some (iN (outw m (wk m i 4))) := q_work hR hI hi rfl
theorem q_w7 (hR : Rl w 1 m) (hI : Iv T z m) {i : Nat} (hi : i < nW m) : sO_work w (iN i) 7 = some (wk m i 6) := q_work hR hI hi rfl
theorem q_v0 (hR : Rl w 1 m) (hI : Iv T z m) {v : Nat} (hv : v < nV m) : sO_venue w (iN v) 0 = some (vn m v 0) := q_venue hR hI hv rfl
theorem q_v1 (hR : Rl w 1 m) (hI : Iv T z m) {v : Nat} (hv : v < nV m) : sO_venue w (iN v) 1 = some (vn m v 1) := q_venue hR hI hv rfl
theorem q_v4 (hR : Rl w 1 m) (hI : Iv T z m) {v : Nat} (hv : v < nV m) : sO_venue w (iN v) 4 = some (aVat m (iN v)) := q_venue hR hI hv rfl
theorem q_v5 (hR : Rl w 1 m) (hI : Iv T z m) {v : Nat} (hv : v < nV m) : sO_venue w (iN v) 5 = some (aVto m (iN v)) := q_venue hR hI hv rfl
theorem q_v7 (hR : Rl w 1 m) (hI : Iv T z m) {v : Nat} (hv : v < nV m) : sO_venue w (iN v) 7 = some (aKat m (iN v)) := q_venue hR hI hv rfl
theorem q_v8 (hR : Rl w 1 m) (hI : Iv T z m) {v : Nat} (hv : v < nV m) : sO_venue w (iN v) 8 = some (vn m v 4) := q_venue hR hI hv rfl
theorem q_h0 (hR : Rl w 1 m) (hI : Iv T z m) : sO_whole w 0 = some (m 0) := q_whole hR hI rfl
theorem q_h1 (hR : Rl w 1 m) (hI : Iv T z m) : sO_whole w 1 = some (iN (nV m)) := hI.iv ▸ q_whole hR hI rfl
theorem q_h2 (hR : Rl w 1 m) (hI : Iv T z m) : sO_whole w 2 = some (iN (nC m)) := hI.ic ▸ q_whole hR hI rfl
theorem q_h3 (hR : Rl w 1 m) (hI : Iv T z m) : sO_whole w 3 = some (iN (nW m)) := hI.iw ▸ q_whole hR hI rfl
theorem q_h4 (hR : Rl w 1 m) (hI : Iv T z m) : sO_whole w 4 = some (iN (nK m)) := hI.ik ▸ q_whole hR hI rfl
theorem q_h5 (hR : Rl w 1 m) (hI : Iv T z m) : sO_whole w 5 = some (m 5) := q_whole hR hI rfl
theorem q_h6 (hR : Rl w 1 m) (hI : Iv T z m) : sO_whole w 6 = some (m 6) := q_whole hR hI rfl
theorem q_h7 (hR : Rl w 1 m) (hI : Iv T z m) : sO_whole w 7 = some (m 7) := q_whole hR hI rfl
theorem q_h8 (hR : Rl w 1 m) (hI : Iv T z m) : sO_whole w 8 = some (aWay m) := q_whole hR hI rfl
theorem q_h9 (hR : Rl w 1 m) (hI : Iv T z m) : sO_whole w 9 = some (aOpn m) := q_whole hR hI rfl
end AQ
