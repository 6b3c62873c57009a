/-! ARRIVING -/
def fA (c k : Nat) (a : Nat → Int32) : Nat → Int32 := if tg a k = iN c then upd (upd a (137 + 2 * k) (cr a c 4)) (137 + 2 * k + 1) (-1) else a
def fB (c i : Nat) (a : Nat → Int32) : Nat → Int32 := upd a (253 + 18 * i + 2) (wk a i 2 - (if isin a (wk a i 4) (iN c) = true then 1 else 0))
def dA1 (m : Nat → Int32) (c : Nat) : Nat → Int32 := fld (fA c) (nK m) 0 m
def dA2 (a : Nat → Int32) (c : Nat) : Nat → Int32 := upd (upd (upd (upd a (145 + 9 * c + 3) (cr a c 4)) (145 + 9 * c + 4) (-1)) (145 + 9 * c + 5) (-1)) (145 + 9 * c + 8) (a 0)
def dA7 (a : Nat → Int32) : Nat → Int32 := upd a 7 (a 7 + 1)
def dArr (m : Nat → Int32) (c : Nat) : Nat → Int32 := dA7 (fld (fB c) (nW m) 0 (dA2 (dA1 m c) c))
theorem upd_comm {f : Nat → Int32} {k k' : Nat} {v v' : Int32} (h : k ≠ k') : upd (upd f k v) k' v' = upd (upd f k' v') k v := by
  funext a
  by_cases e : a = k'
  · subst e; rw [uS, uN (fun q => h q.symm), uS]
  · rw [uN e]
    by_cases e2 : a = k
    · subst e2; rw [uS, uS]
    · rw [uN e2, uN e2, uN e]
theorem upd_id {f : Nat → Int32} {k : Nat} {v : Int32} (h : f k = v) : upd f k v = f := by
  funext a
  by_cases e : a = k
  · subst e; rw [uS, h]
  · rw [uN e]
section AR
variable {T z : Nat} {m m' a : Nat → Int32} {w w' : Wl}
theorem fA_s {c k : Nat} (hk : k < 4) : ∀ x, x < 137 ∨ 145 ≤ x → fA c k a x = a x := fun x hx => by
  unfold fA
  by_cases h : tg a k = iN c
  · rw [if_pos h]; simp (disch := omega) only [uN]
  · rw [if_neg h]
theorem dA2_eqo {c : Nat} : eqo (145 + 9 * c) (154 + 9 * c) a (dA2 a c) := (((eqo.rf.upd1 (by omega) (by omega)).upd1 (by omega) (by omega)).upd1 (by omega) (by omega)).upd1 (by omega) (by omega)
theorem dA2_c {c : Nat} : cr (dA2 a c) c 0 = cr a c 0 ∧ cr (dA2 a c) c 1 = cr a c 1 ∧ cr (dA2 a c) c 2 = cr a c 2 ∧ cr (dA2 a c) c 3 = cr a c 4 ∧ cr (dA2 a c) c 4 = -1 ∧ cr (dA2 a c) c 5 = -1 ∧ cr (dA2 a c) c 6 = cr a c 6 ∧ cr (dA2 a c) c 7 = cr a c 7 ∧ cr (dA2 a c) c 8 = a 0 := by
  unfold dA2 cr
  simp (disch := omega) only [uS, uN]
  exact ⟨trivial, trivial, trivial, trivial, trivial, trivial, trivial, trivial, trivial⟩
theorem dA2_hol {c : Nat} : hol (dA2 a c) = hol a := by
  funext d
  unfold hol
  by_cases h : d < 12
  · rw [if_pos h, if_pos h]
    by_cases e : d = c
    · subst e; exact dA2_c.2.2.1
    · exact dA2_eqo.fr e (by decide)
  · rw [if_neg h, if_neg h]
theorem fB_hol {c i : Nat} : hol (fB c i a) = hol a := hol_upd (fun d hd => by omega)
theorem fB_not {c i : Nat} (h : isin a (wk a i 4) (iN c) = false) : fB c i a = a := by
  unfold fB
  rw [h]
  simp only [iF]
  rw [Int32.sub_zero]
  exact upd_id rfl
theorem fB_in {c i : Nat} (h : isin a (wk a i 4) (iN c) = true) : fB c i a = upd a (253 + 18 * i + 2) (wk a i 2 - 1) := by
  unfold fB
  rw [h]
  simp only [iT, if_true]
/-- the crate's changes and the works' are apart -/
theorem dA2_fB {c i : Nat} (hc : c < 12) : dA2 (fB c i a) c = fB c i (dA2 a c) := by
  have e1 : cr (fB c i a) c 4 = cr a c 4 := by unfold fB cr; rw [uN (by omega)]
  have e2 : fB c i a 0 = a 0 := by unfold fB; rw [uN (by omega)]
  have e3 : ∀ j, wk (dA2 a c) i j = wk a i j := fun j => dA2_eqo.fw (by omega)
  have e4 : isin (dA2 a c) (wk a i 4) (iN c) = isin a (wk a i 4) (iN c) := by unfold isin; rw [dA2_hol]
  have e5 : fB c i (dA2 a c) = upd (dA2 a c) (253 + 18 * i + 2) (wk a i 2 - (if isin a (wk a i 4) (iN c) = true then 1 else 0)) := by
    show upd _ _ _ = _
    rw [e3, e3, e4]
  rw [e5]
  unfold dA2
  rw [e1, e2]
  unfold fB
  rw [upd_comm (by omega : 253 + 18 * i + 2 ≠ 145 + 9 * c + 3), upd_comm (by omega : 253 + 18 * i + 2 ≠ 145 + 9 * c + 4), upd_comm (by omega : 253 + 18 * i + 2 ≠ 145 + 9 * c + 5), upd_comm (by omega : 253 + 18 * i + 2 ≠ 145 + 9 * c + 8)]
theorem dA2_fld {c : Nat} (hc : c < 12) (k : Nat) : dA2 (fld (fB c) k 0 a) c = fld (fB c) k 0 (dA2 a c) := fld_map (fun a => dA2 a c) k 0 a (fun j _ _ b => dA2_fB hc)
-- what always holds
theorem i_fA (hI : Iv T z a) {c k : Nat} (hk : k < nK a) (hc : c < nC a) (ha : cr a c 3 = -1) : Iv T z (fA c k a) := by
  have h4 := hI.ik4
  have h12 := hI.ic12
  by_cases h : tg a k = iN c
  · have hs := fA_s (a := a) (c := c) (k := k) (by omega)
    obtain ⟨n1, n2, n3, n4, n5⟩ := ns_of (m := a) (m' := fA c k a) (fun x _ _ => hs x (by omega))
    refine hI.mk0 (fun x _ _ => hs x (by omega)) (jV1 hI n1 (fun x _ _ => hs x (by omega))) (jV2 hI (fun x _ _ => hs x (by omega))) (jV3 hI (fun x _ _ => hs x (by omega))) (jC hI (by omega) n2 n5 (fun x _ _ => hs x (by omega))) (jD hI n2 (fun x _ _ => hs x (by omega))) (jW hI (by omega) (by omega) n3 (fun x _ _ => hs x (by omega))) (fun k' hk' => ?_)
    have hat : atv (fA c k a) = atv a := by
      funext d
      unfold atv
      by_cases hd : d < 12
      · rw [if_pos hd, if_pos hd]; exact hs _ (by omega)
      · rw [if_neg hd, if_neg hd]
    rw [n1, n2, hat]
    unfold fA
    rw [if_pos h]
    by_cases e : k' = k
    · subst e
      obtain ⟨v, hv, ev⟩ : ∃ v, v < nV a ∧ cr a c 4 = iN v := by
        rcases (hI.ico c hc).2.2.2.1 with q | q
        · exact q.2.2.2.1
        · obtain ⟨⟨v, hv, e⟩, -, -⟩ := q
          exact (iN_m1 (by have := hI.iv8; omega) (e.symm.trans ha)).elim
      unfold co tg
      simp (disch := omega) only [uS, uN]
      exact ⟨Or.inr ⟨v, hv, ev⟩, Or.inl rfl, fun _ => rfl⟩
    · unfold co tg
      simp (disch := omega) only [uN]
      exact hI.iko k' (by omega)
  · unfold fA; rw [if_neg h]; exact hI
/-- the couriers behind their loop -/
theorem dA1_c (hI : Iv T z m) {c : Nat} (hc : c < nC m) (ha : cr m c 3 = -1) : Iv T z (dA1 m c) ∧ (∀ x, x < 137 ∨ 145 ≤ x → dA1 m c x = m x) ∧ (∀ k, k < nK m → co (dA1 m c) k = (if tg m k = iN c then cr m c 4 else co m k) ∧ tg (dA1 m c) k = (if tg m k = iN c then -1 else tg m k)) ∧ (∀ k, nK m ≤ k → k < 4 → co (dA1 m c) k = co m k) := by
  have h4 := hI.ik4
  have h12 := hI.ic12
  have key := fld_inv (f := fA c) (fun j a => Iv T z a ∧ (∀ x, x < 137 ∨ 145 ≤ x → a x = m x) ∧ (∀ k, k < j → co a k = (if tg m k = iN c then cr m c 4 else co m k) ∧ tg a k = (if tg m k = iN c then -1 else tg m k)) ∧ (∀ k, j ≤ k → k < 4 → co a k = co m k ∧ tg a k = tg m k)) (nK m) 0 m ⟨hI, fun _ _ => rfl, fun k hk => by omega, fun _ _ _ => ⟨rfl, rfl⟩⟩ (fun j b _ hj hb => ?_)
  · rw [Nat.zero_add] at key
    exact ⟨key.1, key.2.1, key.2.2.1, fun k h1 h2 => (key.2.2.2 k h1 h2).1⟩
  · obtain ⟨b1, b2, b3, b4⟩ := hb
    obtain ⟨n1, n2, n3, n4, n5⟩ := ns_of (m := m) (m' := b) (fun x _ _ => b2 x (by omega))
    have ecr : ∀ i, i < 9 → cr b c i = cr m c i := fun i hi => b2 _ (by omega)
    have hs := fA_s (a := b) (c := c) (k := j) (by omega)
    refine ⟨i_fA b1 (by omega) (by omega) ((ecr 3 (by decide)).trans ha), fun x hx => (hs x hx).trans (b2 x hx), fun k hk => ?_, fun k h1 h2 => ?_⟩
    · by_cases e : k = j
      · subst e
        obtain ⟨p1, p2⟩ := b4 k (Nat.le_refl _) (by omega)
        unfold fA
        rw [p2]
        by_cases h : tg m k = iN c
        · rw [if_pos h, if_pos h, if_pos h, ← ecr 4 (by decide)]
          unfold co tg
          simp (disch := omega) only [uS, uN]
          exact ⟨trivial, trivial⟩
        · rw [if_neg h, if_neg h, if_neg h]
          exact ⟨p1, p2⟩
      · obtain ⟨p1, p2⟩ := b3 k (by omega)
        rw [← p1, ← p2]
        unfold fA
        by_cases h : tg b j = iN c
        · rw [if_pos h]
          unfold co tg
          simp (disch := omega) only [uN]
          exact ⟨trivial, trivial⟩
        · rw [if_neg h]; exact ⟨rfl, rfl⟩
    · obtain ⟨p1, p2⟩ := b4 k (by omega) h2
      rw [← p1, ← p2]
      unfold fA
      by_cases h : tg b j = iN c
      · rw [if_pos h]
        unfold co tg
        simp (disch := omega) only [uN]
        exact ⟨trivial, trivial⟩
      · rw [if_neg h]; exact ⟨rfl, rfl⟩
theorem i_dA2 (hI : Iv T z a) {c : Nat} (hc : c < nC a) (hz : c ≤ z) (ha : cr a c 3 = -1) (ht : ∀ k, k < nK a → ¬ tg a k = iN c) : Iv T (c + 1) (dA2 a c) := by
  have h8 := hI.iv8
  obtain ⟨c0, c1, c2, c3, c4, c5, c6, c7, c8⟩ := dA2_c (a := a) (c := c)
  refine hI.crateH hc dA2_eqo (fun d e q => by omega) ?_ (fun d hd _ _ q => by rw [c1]; exact q) (fun k hk e _ => (ht k hk e).elim) c2
  obtain ⟨a1, a2, a3, a4, a5⟩ := hI.ico c hc
  unfold COk
  rw [c0, c1, c2, c3, c4, c5, c6, c7]
  rcases a4 with ⟨q3, q2, q1, q4, -⟩ | ⟨⟨v, hv, e⟩, -, -⟩
  · exact ⟨a1, a2, Or.inl q2, Or.inr ⟨q4, rfl, rfl⟩, a5⟩
  · exact (iN_m1 (by omega) (e.symm.trans ha)).elim
theorem i_fB (hI : Iv T z a) {c i : Nat} (hi : i < nW a) : Iv T z (fB c i a) := by
  refine hI.work hi (eqo.rf.upd1 (by omega) (by omega)) ?_
  obtain ⟨b1, b2, b3, b4, b5, b6⟩ := hI.iwo i hi
  have f : ∀ j, j ≠ 2 → wk (fB c i a) i j = wk a i j := fun j hj => by unfold fB; generalize wk a i 2 - (if isin a (wk a i 4) (iN c) = true then (1 : Int32) else 0) = q; unfold wk; rw [uN (by omega)]
  unfold WOk
  rw [f 0 (by decide), f 1 (by decide), f 3 (by decide), f 4 (by decide), f 5 (by decide), f 7 (by decide)]
  exact ⟨b1, b2, b3, b4, b5, b6⟩
theorem fB_n {c i : Nat} : nV (fB c i a) = nV a ∧ nC (fB c i a) = nC a ∧ nW (fB c i a) = nW a ∧ nK (fB c i a) = nK a ∧ tm (fB c i a) = tm a := upd_n (by omega)
theorem i_dA7 (hI : Iv T z a) : Iv T z (dA7 a) := by
  have hs : ∀ x, x ≠ 7 → dA7 a x = a x := fun x h => by unfold dA7; rw [uN h]
  obtain ⟨n1, n2, n3, n4, n5⟩ := ns_of (m := a) (m' := dA7 a) (fun x _ _ => hs x (by omega))
  exact hI.mk0 (fun x _ _ => hs x (by omega)) (jV1 hI n1 (fun x _ _ => hs x (by omega))) (jV2 hI (fun x _ _ => hs x (by omega))) (jV3 hI (fun x _ _ => hs x (by omega))) (jC hI (by omega) n2 n5 (fun x _ _ => hs x (by omega))) (jD hI n2 (fun x _ _ => hs x (by omega))) (jW hI (by omega) (by omega) n3 (fun x _ _ => hs x (by omega))) (jK hI (by omega) (by omega) n4 (fun x _ _ => hs x (by omega)))
theorem r_dA7 (hR : Rl w 1 a) (hI : Iv T z a) : Rl (wst w 1 4 (w 1 4 + 1)) 1 (dA7 a) := by
  have hs : ∀ x, x ≠ 7 → dA7 a x = a x := fun x h => by unfold dA7; rw [uN h]
  obtain ⟨n1, n2, n3, n4, n5⟩ := ns_of (m := a) (m' := dA7 a) (fun x _ _ => hs x (by omega))
  have hrow : ∀ r, r ≠ 1 → wst w 1 4 (w 1 4 + 1) r = w r := fun r h1 => wN h1
  refine ⟨?_, sV hR (fun r _ _ => hrow r (by omega)) (fun x _ _ => hs x (by omega)), sA hR (fun r _ _ => hrow r (by omega)) (fun x _ _ => hs x (by omega)), sC hR (fun r _ _ => hrow r (by omega)) (fun x _ _ => hs x (by omega)) n2 hI.ic12 n4 hI.ik4, sP hR (fun r _ _ => hrow r (by omega)) (fun x _ _ => hs x (by omega)), sW hR (fun r _ _ => hrow r (by omega)) (fun x _ _ => hs x (by omega)) n3 hI.iw16, sZ hR (fun r _ _ => hrow r (by omega)) n3, sL hR (fun r _ _ => hrow r (by omega)) (fun x _ _ => hs x (by omega)), sK hR (hrow _ (by omega)) (fun x _ _ => hs x (by omega))⟩
  obtain ⟨a1, a2, a3, a4, a5, a6, a7, a8, a9⟩ := hR.1
  rw [wS]
  unfold RlS dA7
  simp (disch := omega) only [uS, uN]
  exact ⟨a1, a2, a3, a4, by rw [a5], a6, a7, a8, a9⟩
-- the class
theorem c_arrive (hR : Rl w 1 m) {c : Nat} (hI : Iv T c m) (hc : c < nC m) (ha : cr m c 3 = -1) : ∃ w', sX4_arrive w (iN c) = some w' ∧ Rl w' 1 (dArr m c) ∧ outb w w' ∧ Iv T (c + 1) (dArr m c) := by
  have h12 := hI.ic12
  have h8 := hI.iv8
  have h4 := hI.ik4
  have h16 := hI.iw16
  obtain ⟨i1, i2, i3, i3'⟩ := dA1_c hI hc ha
  obtain ⟨n1, n2, n3, n4, n5⟩ := ns_of (m := m) (m' := dA1 m c) (fun x _ _ => i2 x (by omega))
  have ecr : ∀ d j, d < 12 → j < 9 → cr (dA1 m c) d j = cr m d j := fun d j hd hj => i2 _ (by omega)
  have htag : ∀ k, k < nK m → ¬ tg (dA1 m c) k = iN c := fun k hk q => by
    rw [(i3 k hk).2] at q
    by_cases h : tg m k = iN c
    · rw [if_pos h] at q; exact m1_iN (by omega) q
    · rw [if_neg h] at q; exact h q
  have hI2 : Iv T (c + 1) (dA2 (dA1 m c) c) := i_dA2 i1 (by omega) (Nat.le_refl _) ((ecr c 3 (by omega) (by decide)).trans ha) (fun k hk => htag k (by omega))
  obtain ⟨p1, p2, p3, p4, p5⟩ := (dA2_eqo (a := dA1 m c) (c := c)).fn (by omega)
  obtain ⟨c0, c1, c2, c3, c4, c5, c6, c7, c8⟩ := dA2_c (a := dA1 m c) (c := c)
  obtain ⟨b1, b2, b3, b4, b5, b6, b7⟩ := hR.c hc
  have h2 : cr m c 2 = -1 := by
    rcases (hI.ico c hc).2.2.2.1 with q | q
    · exact q.2.1
    · obtain ⟨⟨v, hv, e⟩, -, -⟩ := q
      exact (iN_m1 (by omega) (e.symm.trans ha)).elim
  -- the first step, its world
  have step1 : ∀ w0 : Wl, (∀ r, r ≠ 5 → w0 r = w r) → (∀ k, k < 4 → w0 5 k = co (dA1 m c) k) → ∃ w1, sX3_standAt w0 (29 + c) (w0 (29 + c) 4) = some w1 ∧ Rl (wst w1 (29 + c) 9 (w1 1 0)) 1 (dA2 (dA1 m c) c) ∧ outb w (wst w1 (29 + c) 9 (w1 1 0)) := fun w0 g1 g2 => by
    refine ⟨_, rfl, ?_, fun r hr => by simp (disch := omega) only [wN]; exact g1 r (by omega)⟩
    generalize hw1 : wst (wst (wst (wst (wst (wst w0 (29 + c) 2 (-1)) (29 + c) 3 (w0 (29 + c) 4)) (29 + c) 4 (-1)) (29 + c) 5 (-1)) (29 + c) 6 (-1)) (29 + c) 9 _ = w1
    have hrow : ∀ r, r ≠ 29 + c → w1 r = w0 r := fun r h1 => by rw [← hw1]; simp (disch := omega) only [wN]
    have hrow' : ∀ r, r ≠ 29 + c → r ≠ 5 → w1 r = w r := fun r h1 h5 => (hrow r h1).trans (g1 r h5)
    have hcrow : w1 (29 + c) = upd (upd (upd (upd (upd (upd (w (29 + c)) 2 (-1)) 3 (cr m c 4)) 4 (-1)) 5 (-1)) 6 (-1)) 9 (m 0) := by
      rw [← hw1]
      simp (disch := omega) only [wS, wN]
      rw [g1 (29 + c) (by omega), g1 1 (by omega), b3, hR.s.1]
    have hs2 : ∀ x, (x < 137 ∨ 253 ≤ x) → dA2 (dA1 m c) c x = m x := fun x hx => (dA2_eqo x (by omega)).trans (i2 x (by omega))
    obtain ⟨m1', m2', m3', m4', m5'⟩ := ns_of (m := m) (m' := dA2 (dA1 m c) c) (fun x _ _ => hs2 x (by omega))
    have et : ∀ k, k < nK m → tg (dA2 (dA1 m c) c) k = tg (dA1 m c) k := fun k hk => dA2_eqo.ft (by omega) (by omega)
    refine ⟨sS hR (hrow' 1 (by omega) (by omega)) (fun y _ _ => hs2 y (by omega)), sV hR (fun r _ _ => hrow' r (by omega) (by omega)) (fun y _ _ => hs2 y (by omega)), fun d hd => ?_, fun d hd => ?_, sP hR (fun r _ _ => hrow' r (by omega) (by omega)) (fun y _ _ => hs2 y (by omega)), sW hR (fun r _ _ => hrow' r (by omega) (by omega)) (fun y _ _ => hs2 y (by omega)) m3' h16, sZ hR (fun r _ _ => hrow' r (by omega) (by omega)) m3', sL hR (fun r _ _ => hrow' r (by omega) (by omega)) (fun y _ _ => hs2 y (by omega)), fun k hk => ?_⟩
    · by_cases e : d = c
      · subst e
        obtain ⟨x1, x2, x3, x4, x5⟩ := hR.a hd
        rw [show 1 + 28 + d = 29 + d by omega, hcrow]
        unfold RlA
        rw [c0, c1, c6, c7, ecr d 0 hd (by decide), ecr d 1 hd (by decide), ecr d 6 hd (by decide), ecr d 7 hd (by decide)]
        simp (disch := omega) only [uS, uN]
        exact ⟨x1, x2, x3, x4, x5⟩
      · exact (hR.2.2.1 d hd).of (hrow' _ (by omega) (by omega)) (fun j hj => (dA2_eqo.fr e hj).trans (ecr d j hd hj))
    · rw [m2'] at hd
      rw [m4']
      by_cases e : d = c
      · subst e
        rw [show 1 + 28 + d = 29 + d by omega, hcrow]
        unfold RlC
        rw [c1, c2, c3, c4, c5, c8, ecr d 1 (by omega) (by decide), ecr d 2 (by omega) (by decide), ecr d 4 (by omega) (by decide), h2, if_pos rfl, i2 0 (by omega)]
        simp (disch := omega) only [uS, uN]
        refine ⟨trivial, trivial, trivial, trivial, fun _ => trivial, Or.inl trivial, fun k hk => ?_⟩
        rw [et k hk]
        exact ⟨fun q => (m1_iN (by omega) q).elim, fun q => (htag k hk q).elim⟩
      · refine (hR.2.2.2.1 d hd).of (hrow' _ (by omega) (by omega)) (fun j hj => (dA2_eqo.fr e hj).trans (ecr d j (by omega) hj)) (fun k hk => ?_)
        rw [et k hk, (i3 k hk).2]
        by_cases h : tg m k = iN c
        · rw [if_pos h, h]
          exact ⟨fun q => (m1_iN (by omega) q).elim, fun q => (e ((iN_eq (by omega) (by omega)).mp q).symm).elim⟩
        · rw [if_neg h]
    · rw [show 1 + 4 = 5 from rfl, hrow 5 (by omega), g2 k hk, dA2_eqo.fc (by omega) hk]
  -- the works
  have step2 : ∀ w1 : Wl, Rl w1 1 (dA2 (dA1 m c) c) → outb w w1 → ∃ w', sX4_arrive_61 FU w1 (iN c) (0 : Int32) = some w' ∧ Rl w' 1 (dArr m c) ∧ outb w w' ∧ Iv T (c + 1) (dArr m c) := fun w1 g1 g2 => by
    have A0 : ∀ (n : Nat) (a : Nat → Int32) (s : Wl), (Rl s 1 a ∧ Iv T (c + 1) a ∧ nW a = nW m ∧ nC a = nC m ∧ outb w s) → sX4_arrive_61 (n + 1) s (iN c) (iN (nW m)) = some (wst s 1 4 (s 1 4 + 1)) := by
      intro n a s ⟨r1, r2, r3, r4, r5⟩
      rw [sX4_arrive_61.eq_2, r1.r7 r2, r3, if_pos ((iN_le (by omega) (by omega)).mpr (Nat.le_refl _))]
    have A1 : ∀ (n : Nat) (a : Nat → Int32) (s : Wl) (i : Nat), i < nW m → (Rl s 1 a ∧ Iv T (c + 1) a ∧ nW a = nW m ∧ nC a = nC m ∧ outb w s) → ∃ s' : Wl, (Rl s' 1 (fB c i a) ∧ Iv T (c + 1) (fB c i a) ∧ nW (fB c i a) = nW m ∧ nC (fB c i a) = nC m ∧ outb w s') ∧ sX4_arrive_61 (n + 1) s (iN c) (iN i) = sX4_arrive_61 n s' (iN c) (iN (i + 1)) := by
      intro n a s i hi ⟨r1, r2, r3, r4, r5⟩
      have hi' : i < nW a := by omega
      rw [sX4_arrive_61.eq_2, r1.r7 r2, r3, if_neg (show ¬ iN (nW m) ≤ iN i from fun q => by have := (iN_le (by omega) (by omega)).mp q; omega), idx_iN (by omega) (by decide), ob, (r1.wo hi').2.2.2.2.1, e6_isInOrBelow r1 r2 (r2.iwp hi'), ob, iN_s, (r1.wo hi').2.2.1]
      cases hin : isin a (wk a i 4) (iN c)
      · simp only [iF]
        rw [fB_not hin]
        exact ⟨s, ⟨r1, r2, r3, r4, r5⟩, rfl⟩
      · simp only [iT, if_true]
        refine ⟨_, ⟨?_, i_fB r2 hi', fB_n.2.2.1.trans r3, fB_n.2.1.trans r4, fun r hr => (wN (by omega)).trans (r5 r hr)⟩, rfl⟩
        rw [fB_in hin]
        have f : ∀ j, j ≠ 2 → wk (upd a (253 + 18 * i + 2) (wk a i 2 - 1)) i j = wk a i j := fun j hj => by generalize wk a i 2 - 1 = q; unfold wk; rw [uN (by omega)]
        have f2 : wk (upd a (253 + 18 * i + 2) (wk a i 2 - 1)) i 2 = wk a i 2 - 1 := by generalize wk a i 2 - 1 = q; unfold wk; rw [uS]
        refine r1.work r2 hi' (fun r q1 q2 => wN q1) (eqo.rf.upd1 (by omega) (by omega)) ?_ (fun j hj => ?_) ?_
        · rw [wS, uN (by decide)]; exact r1.w3 (by omega)
        · rw [wN (by omega), f _ (by omega)]
          have := r1.pl (i := i) (by omega) hj
          rwa [show 41 + 2 * i + 1 = 42 + 2 * i by omega] at this
        · obtain ⟨x1, x2, x3, x4, x5, x6, x7, x8⟩ := r1.wo hi'
          unfold RlW
          rw [f2, f 0 (by decide), f 1 (by decide), f 3 (by decide), f 4 (by decide), f 5 (by decide), f 6 (by decide), f 7 (by decide), wS]
          simp (disch := omega) only [uS, uN]
          exact ⟨x1, x2, trivial, x4, x5, x6, x7, x8⟩
    obtain ⟨s', ⟨q1, q2, q3, q4, q5⟩, q6⟩ := loopB (L := fun n s l => sX4_arrive_61 n s (iN c) l) (N := nW m) (fin := fun _ s => some (wst s 1 4 (s 1 4 + 1))) (f := fB c) (fun i a s => Rl s 1 a ∧ Iv T (c + 1) a ∧ nW a = nW m ∧ nC a = nC m ∧ outb w s) A0 A1 (nW m) 0 (dA2 (dA1 m c) c) w1 FU (by omega) (by show _ < 4096; omega) ⟨g1, hI2, by omega, by omega, g2⟩
    exact ⟨_, q6, r_dA7 q1 q2, fun r hr => (wN (by omega)).trans (q5 r hr), i_dA7 q2⟩
  unfold sX4_arrive sX4_arrive_40
  rw [idx_iN (by omega) (by decide), ob, e6_hasCourier hR hI, ob]
  rcases b6 with e | ⟨k, hk, e⟩
  · rw [e, ok_m1]
    simp only [iF]
    obtain ⟨w1, f1, f2, f3⟩ := step1 w (fun _ _ => rfl) (fun k hk => by
      rw [hR.k hk]
      by_cases hk' : k < nK m
      · rw [(i3 k hk').1, if_neg]
        intro q
        have := (b7 k hk').mpr q
        rw [e] at this
        exact m1_iN (by omega) this
      · exact (i3' k (by omega) hk).symm)
    rw [f1, ob]
    exact step2 _ f2 f3
  · rw [e, ok_lt (by omega) hk]
    simp only [iT, if_true]
    rw [idx_iN (by omega) (by decide), ob, b3]
    obtain ⟨w1, f1, f2, f3⟩ := step1 (wst w 5 k (cr m c 4)) (fun r hr => wN hr) (fun k' hk' => by
      rw [wS]
      by_cases ek : k' = k
      · subst ek
        rw [uS, (i3 k' hk).1, if_pos ((b7 k' hk).mp e)]
      · rw [uN ek, hR.k hk']
        by_cases hk'' : k' < nK m
        · rw [(i3 k' hk'').1, if_neg]
          intro q
          have := (b7 k' hk'').mpr q
          rw [e] at this
          exact ek ((iN_eq (by omega) (by omega)).mp this).symm
        · exact (i3' k' (by omega) hk').symm)
    rw [f1, ob]
    exact step2 _ f2 f3
end AR
