/-! SENDING -/
def dSend (m : Nat → Int32) (c v : Nat) (x : Int32) : Nat → Int32 := if x = -1 then sendM m c v else upd (upd (sendM m c v) (137 + 2 * x.toNatClampNeg) (-1)) (137 + 2 * x.toNatClampNeg + 1) (iN c)
section SE
variable {T z : Nat} {m m' : Nat → Int32} {w w' : Wl}
theorem i_dSend (hI : Iv T z m) {c v : Nat} {x : Int32} (hc : c < nC m) (hv : v < nV m) (hx : ptr (nK m) x) (h : aReason m c v x = 0) : Iv T z (dSend m c v x) := by
  have h12 := hI.ic12
  have h4 := hI.ik4
  have hI' := hI.isnd hc hv h
  obtain ⟨q1, q2, q3, q4, q5⟩ := (sendM_eqo (m := m) (c := c) (v := v)).fn (by omega)
  unfold dSend
  rcases hx with e | ⟨k, hk, rfl⟩
  · rw [if_pos e]; exact hI'
  · rw [if_neg (iN_m1 (by omega)), iN_nat (by omega)]
    have hs : ∀ a, a < 137 ∨ 145 ≤ a → upd (upd (sendM m c v) (137 + 2 * k) (-1)) (137 + 2 * k + 1) (iN c) a = sendM m c v a := fun a ha => by simp (disch := omega) only [uN]
    obtain ⟨n1, n2, n3, n4, n5⟩ := ns_of (m := sendM m c v) (m' := upd (upd (sendM m c v) (137 + 2 * k) (-1)) (137 + 2 * k + 1) (iN c)) (fun x _ _ => hs x (by omega))
    refine hI'.mk0 (fun x _ _ => hs x (by omega)) (jV1 hI' n1 (fun x _ _ => hs x (by omega))) (jV2 hI' (fun x _ _ => hs x (by omega))) (jV3 hI' (fun x _ _ => hs x (by omega))) (jC hI' (by omega) n2 n5 (fun x _ _ => hs x (by omega))) (jD hI' n2 (fun x _ _ => hs x (by omega))) (jW hI' (by omega) (by omega) n3 (fun x _ _ => hs x (by omega))) (fun k' hk' => ?_)
    have hat : ∀ d, d < 12 → atv (upd (upd (sendM m c v) (137 + 2 * k) (-1)) (137 + 2 * k + 1) (iN c)) d = cr (sendM m c v) d 3 := fun d hd => by rw [atv_c hd]; exact hs _ (by omega)
    by_cases e : k' = k
    · subst e
      unfold co tg
      simp (disch := omega) only [uS, uN]
      refine ⟨Or.inl rfl, Or.inr ⟨c, by omega, rfl, ?_⟩, fun q => (q rfl).elim⟩
      rw [hat c (by omega)]; exact sendM_0.2.2.2.1
    · have e1 : co (upd (upd (sendM m c v) (137 + 2 * k) (-1)) (137 + 2 * k + 1) (iN c)) k' = co (sendM m c v) k' := by unfold co; simp (disch := omega) only [uN]
      have e2 : tg (upd (upd (sendM m c v) (137 + 2 * k) (-1)) (137 + 2 * k + 1) (iN c)) k' = tg (sendM m c v) k' := by unfold tg; simp (disch := omega) only [uN]
      rw [e1, e2]
      refine (hI'.iko k' (by omega)).congr (by omega) (by omega) (fun d hd _ p => ?_)
      rw [atv_c (by omega)] at p
      rw [hat d (by omega)]; exact p
theorem c_sendCrate (hR : Rl w 1 m) (hI : Iv T z m) {c v : Nat} {x : Int32} (hc : c < nC m) (hv : v < nV m) (hx : ptr (nK m) x) (h : aReason m c v x = 0) : ∃ w', sX4_sendCrate w (iN c) (iN v) x = some (cr (sendM m c v) c 5, w') ∧ Rl w' 1 (dSend m c v x) ∧ outb w w' := by
  have h12 := hI.ic12
  have h8 := hI.iv8
  have h4 := hI.ik4
  have h16 := hI.iw16
  obtain ⟨o2, o1, h2, ⟨u, a, hu, hne, h3, ha1, ha2, ea⟩, hco⟩ := reason0 hI hc hv h
  obtain ⟨s0, s1, s2, s3, s4, s5, s6, s7, s8⟩ := sendM_0 (m := m) (c := c) (v := v)
  obtain ⟨q1, q2, q3, q4, q5⟩ := (sendM_eqo (m := m) (c := c) (v := v)).fn (by omega)
  have h3' : ¬ cr m c 3 = -1 := by rw [h3]; exact iN_m1 (by omega)
  unfold sX4_sendCrate
  rw [idx_iN (by omega) (by decide), ob, (hR.c hc).2.1, if_pos h2, h3, e6_hoursBetween hR hI hu hv, ob, hR.s.1]
  rw [h3, iN_nat (by omega)] at s5
  rw [← s5]
  -- the crate's row
  generalize hw1 : wst (wst (wst (wst w (29 + c) 5 (cr (sendM m c v) c 5)) (29 + c) 3 (-1)) (29 + c) 4 (iN v)) (29 + c) 6 x = w1
  have hrow : ∀ r, r ≠ 29 + c → w1 r = w r := fun r h1 => by rw [← hw1]; simp (disch := omega) only [wN]
  have hcrow : w1 (29 + c) = upd (upd (upd (upd (w (29 + c)) 5 (cr (sendM m c v) c 5)) 3 (-1)) 4 (iN v)) 6 x := by
    rw [← hw1]
    simp only [wS]
  have hk8 : w1 1 8 = iN (nK m) := by rw [hrow 1 (by omega)]; exact hR.r8 hI
  have hcour : ∀ y, sX6_hasCourier w1 y = some (ok (nK m) y) := fun y => by
    unfold sX6_hasCourier ok
    rw [hk8]
    by_cases g1 : y < 0
    · rw [if_pos g1, if_pos g1]
    · rw [if_neg g1, if_neg g1]
      by_cases g2 : iN (nK m) ≤ y
      · rw [if_pos g2, if_pos g2]
      · rw [if_neg g2, if_neg g2]
  have h5 : w1 (29 + c) 5 = cr (sendM m c v) c 5 := by rw [hcrow]; simp (disch := omega) only [uS, uN]
  rw [hcour, ob, ok_ptr (by omega) hx]
  -- what both ends show
  have fin : ∀ w2 : Wl, (∀ r, r ≠ 5 → w2 r = w1 r) → (∀ k, k < 4 → w2 5 k = co (dSend m c v x) k) → Rl w2 1 (dSend m c v x) := fun w2 g1 g2 => by
    have hs : ∀ a, a < 137 ∨ 145 ≤ a → dSend m c v x a = sendM m c v a := fun a ha => by
      unfold dSend
      rcases hx with e | ⟨k, hk, e⟩
      · rw [if_pos e]
      · rw [e, if_neg (iN_m1 (by omega)), iN_nat (by omega)]
        simp (disch := omega) only [uN]
    have hcr : ∀ d j, d < 12 → j < 9 → cr (dSend m c v x) d j = cr (sendM m c v) d j := fun d j hd hj => hs _ (by omega)
    have hs2 : ∀ a, (a < 137 ∨ 253 ≤ a) → dSend m c v x a = m a := fun a ha => by rw [hs a (by omega)]; exact sendM_eqo a (by omega)
    obtain ⟨n1, n2, n3, n4, n5⟩ := ns_of (m := m) (m' := dSend m c v x) (fun y _ _ => hs2 y (by omega))
    have tgs : ∀ k, k < nK m → ∀ d, d < nC m → (tg (dSend m c v x) k = iN d ↔ (d = c ∧ x = iN k) ∨ (¬ x = iN k ∧ tg m k = iN d)) := fun k hk d hd => by
      unfold dSend
      rcases hx with e | ⟨k', hk', e⟩
      · rw [if_pos e, sendM_eqo.ft (by omega) (by omega), e]
        exact ⟨fun p => Or.inr ⟨m1_iN (by omega), p⟩, fun p => p.elim (fun p => (m1_iN (by omega) p.2).elim) (fun p => p.2)⟩
      · rw [e, if_neg (iN_m1 (by omega)), iN_nat (by omega)]
        by_cases ek : k = k'
        · subst ek
          have : tg (upd (upd (sendM m c v) (137 + 2 * k) (-1)) (137 + 2 * k + 1) (iN c)) k = iN c := by unfold tg; rw [uS]
          rw [this]
          exact ⟨fun p => Or.inl ⟨((iN_eq (by omega) (by omega)).mp p).symm, rfl⟩, fun p => p.elim (fun p => by rw [p.1]) (fun p => (p.1 rfl).elim)⟩
        · have : tg (upd (upd (sendM m c v) (137 + 2 * k') (-1)) (137 + 2 * k' + 1) (iN c)) k = tg m k := by
            unfold tg
            simp (disch := omega) only [uN]
            exact sendM_eqo _ (by omega)
          rw [this]
          exact ⟨fun p => Or.inr ⟨fun q => ek ((iN_eq (by omega) (by omega)).mp q).symm, p⟩, fun p => p.elim (fun p => (ek ((iN_eq (by omega) (by omega)).mp p.2).symm).elim) (fun p => p.2)⟩
    refine ⟨?_, sV hR (fun r _ _ => (g1 r (by omega)).trans (hrow r (by omega))) (fun y _ _ => hs2 y (by omega)), fun d hd => ?_, fun d hd => ?_, sP hR (fun r _ _ => (g1 r (by omega)).trans (hrow r (by omega))) (fun y _ _ => hs2 y (by omega)), sW hR (fun r _ _ => (g1 r (by omega)).trans (hrow r (by omega))) (fun y _ _ => hs2 y (by omega)) n3 h16, sZ hR (fun r _ _ => (g1 r (by omega)).trans (hrow r (by omega))) n3, sL hR (fun r _ _ => (g1 r (by omega)).trans (hrow r (by omega))) (fun y _ _ => hs2 y (by omega)), g2⟩
    · exact sS hR ((g1 1 (by omega)).trans (hrow 1 (by omega))) (fun y _ _ => hs2 y (by omega))
    · rw [g1 _ (by omega)]
      by_cases e : d = c
      · subst e
        obtain ⟨b1, b2, b3, b4, b5⟩ := hR.a hd
        rw [show 1 + 28 + d = 29 + d by omega, hcrow]
        unfold RlA
        rw [hcr d 0 hd (by decide), hcr d 1 hd (by decide), hcr d 6 hd (by decide), hcr d 7 hd (by decide), s0, s1, s6, s7]
        simp (disch := omega) only [uS, uN]
        exact ⟨b1, b2, b3, b4, b5⟩
      · rw [hrow _ (by omega)]
        exact (hR.2.2.1 d hd).of rfl (fun j hj => (hcr d j hd hj).trans (sendM_eqo.fr e hj))
    · rw [n2] at hd
      rw [n4, g1 _ (by omega)]
      by_cases e : d = c
      · subst e
        obtain ⟨b1, b2, b3, b4, b5, b6, b7⟩ := hR.c hd
        rw [show 1 + 28 + d = 29 + d by omega, hcrow]
        unfold RlC
        rw [hcr d 1 (by omega) (by decide), hcr d 2 (by omega) (by decide), hcr d 3 (by omega) (by decide), hcr d 4 (by omega) (by decide), hcr d 5 (by omega) (by decide), hcr d 8 (by omega) (by decide), s1, s2, s3, s4, s8, if_pos h2]
        simp (disch := omega) only [uS, uN]
        refine ⟨b1, trivial, trivial, trivial, b5, hx, fun k hk => ?_⟩
        rw [tgs k hk d hd]
        exact ⟨fun p => Or.inl ⟨rfl, p⟩, fun p => p.elim (fun p => p.2) (fun p => (no_tag hI hd h3' k hk p.2).elim)⟩
      · rw [hrow _ (by omega)]
        obtain ⟨b1, b2, b3, b4, b5, b6, b7⟩ := hR.2.2.2.1 d hd
        have f : ∀ j, j < 9 → cr (dSend m c v x) d j = cr m d j := fun j hj => (hcr d j (by omega) hj).trans (sendM_eqo.fr e hj)
        unfold RlC
        rw [f 1 (by decide), f 2 (by decide), f 3 (by decide), f 4 (by decide), f 5 (by decide), f 8 (by decide)]
        refine ⟨b1, b2, b3, b4, b5, b6, fun k hk => ?_⟩
        rw [tgs k hk d hd, b7 k hk]
        refine ⟨fun p => Or.inr ⟨fun q => ?_, p⟩, fun p => p.elim (fun p => (e p.1).elim) (fun p => p.2)⟩
        have hne : ¬ x = -1 := by rw [q]; exact iN_m1 (by omega)
        have hck := hco hne
        rw [q, iN_nat (by omega)] at hck
        have := (hI.iko k hk).2.2 (by rw [hck]; exact h3')
        exact m1_iN (by omega) (this.symm.trans p)
  have hk5 : ∀ k, k < 4 → w1 5 k = co m k := fun k hk => by rw [hrow 5 (by omega)]; exact hR.k hk
  rcases hx with e | ⟨k, hk, e⟩
  · rw [if_pos e]
    simp only [iF]
    rw [h5]
    refine ⟨w1, rfl, fin w1 (fun _ _ => rfl) (fun k hk => ?_), fun r hr => hrow r (by omega)⟩
    rw [hk5 k hk]
    unfold dSend
    rw [if_pos e, sendM_eqo.fc (by omega) hk]
  · rw [e, if_neg (iN_m1 (by omega))]
    simp only [iT, if_true]
    rw [idx_iN (by omega) (by decide), ob, wN (by omega), h5]
    rw [e] at fin
    refine ⟨_, rfl, fin _ (fun r hr => wN hr) (fun k' hk' => ?_), fun r hr => (wN (by omega)).trans (hrow r (by omega))⟩
    rw [wS]
    unfold dSend
    rw [if_neg (iN_m1 (by omega)), iN_nat (by omega)]
    by_cases ek : k' = k
    · subst ek
      unfold co
      simp (disch := omega) only [uS, uN]
    · rw [uN ek, hk5 k' hk']
      unfold co
      simp (disch := omega) only [uN]
      exact (sendM_eqo _ (by omega)).symm
end SE
