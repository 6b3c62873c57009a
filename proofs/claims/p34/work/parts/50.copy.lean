/-! THE HOURS, pure; COPIES OF STATES -/
section CP
variable {T z : Nat} {m m' a : Nat → Int32} {w w' : Wl}
theorem i_dArr {i : Nat} (r2 : Iv T i a) (hi' : i < nC a) (q3 : cr a i 3 = -1) : Iv T (i + 1) (dArr a i) := by
  obtain ⟨i1, i2, i3, i3'⟩ := dA1_c r2 hi' q3
  obtain ⟨n1, n2, n3, n4, n5⟩ := ns_of (m := a) (m' := dA1 a i) (fun x _ _ => i2 x (by omega))
  have h4 := r2.ik4
  have h12 := r2.ic12
  have hI2 : Iv T (i + 1) (dA2 (dA1 a i) i) := i_dA2 i1 (by omega) (Nat.le_refl _) ((i2 _ (by omega)).trans q3) (fun k hk q => by
    rw [(i3 k (by omega)).2] at q
    by_cases h : tg a k = iN i
    · rw [if_pos h] at q; exact m1_iN (by omega) q
    · rw [if_neg h] at q; exact h q)
  obtain ⟨p1, p2, p3, p4, p5⟩ := (dA2_eqo (a := dA1 a i) (c := i)).fn (by omega)
  have key := fld_inv (f := fB i) (fun _ b => Iv T (i + 1) b ∧ nW b = nW a) (nW a) 0 (dA2 (dA1 a i) i) ⟨hI2, by omega⟩ (fun j b _ hj hb => ⟨i_fB hb.1 (by omega), fB_n.2.2.1.trans hb.2⟩)
  exact i_dA7 key.1
theorem i_dHour (hI : Iv T 12 m) (hT : T + 1 ≤ 1000000000) : Iv (T + 1) 12 (dHour m) := by
  have h12 := hI.ic12
  have n2 : nC (upd m 0 (m 0 + 1)) = nC m := by unfold nC; rw [uN (by decide)]
  have n3 : nW (upd m 0 (m 0 + 1)) = nW m := by unfold nW; rw [uN (by decide)]
  have key := fld_inv (f := dH1) (fun i a => Iv (T + 1) i a ∧ nC a = nC m ∧ nW a = nW m) (nC m) 0 (upd m 0 (m 0 + 1)) ⟨i_time hI hT, n2, n3⟩ (fun i b _ hi hb => by
    obtain ⟨r2, r3, r4⟩ := hb
    have hi' : i < nC b := by omega
    unfold dH1
    by_cases q3 : cr b i 3 = -1
    · simp only [if_pos q3]
      by_cases q2 : cr b i 2 = -1
      · simp only [if_pos q2]
        by_cases h : cr b i 5 = b 0
        · simp only [if_pos h]
          obtain ⟨g1, g2, g3, g4, g5, g6⟩ := dArr_n r2 hi' q3
          exact ⟨i_dArr r2 hi' q3, by omega, by omega⟩
        · simp only [if_neg h]
          exact ⟨r2.iz1 (fun _ => h), r3, r4⟩
      · simp only [if_neg q2]
        refine ⟨r2.iz1 (fun q => ?_), r3, r4⟩
        rcases (r2.ico i hi').2.2.2.1 with p | p
        · exact (q2 p.2.1).elim
        · obtain ⟨⟨v, hv, e⟩, -, -⟩ := p
          exact (iN_m1 (by have := r2.iv8; omega) (e.symm.trans q)).elim
    · simp only [if_neg q3]
      exact ⟨r2.iz1 (fun q => (q3 q).elim), r3, r4⟩)
  rw [Nat.zero_add] at key
  obtain ⟨q2, q3, q4⟩ := key
  have q2 : Iv (T + 1) (nC m) (dH2 m) := q2
  have q3 : nC (dH2 m) = nC m := q3
  have q4 : nW (dH2 m) = nW m := q4
  have q2' : Iv (T + 1) 12 (dH2 m) := q2.izz (fun c hc h1 h2 h3 => by omega)
  unfold dHour
  by_cases h : dH2 m 0 - dH2 m 0 / 24 * 24 = 0
  · rw [if_pos h]
    exact (fld_inv (f := fun i a => dPay a i) (fun _ a => Iv (T + 1) 12 a ∧ nW a = nW m) (nW m) 0 (dH2 m) ⟨q2', q4⟩ (fun i b _ hi hb => by
      obtain ⟨j1, j2, j3, j4, j5, j6⟩ := i_dPay hb.1 (by omega : i < nW b)
      exact ⟨j1, by omega⟩)).1
  · rw [if_neg h]; exact q2'
-- what is alike within a page
theorem Iv.cg (hI : Iv T z m) (h : eqr 0 541 m m') : Iv T z m' := by
  have hs : ∀ lo hi, hi ≤ 541 → eqr lo hi m m' := fun lo hi h1 a h2 h3 => h a (by omega) (by omega)
  obtain ⟨n1, n2, n3, n4, n5⟩ := ns_of (hs 0 5 (by omega))
  exact hI.mk0 (hs 0 5 (by omega)) (jV1 hI n1 (hs _ _ (by omega))) (jV2 hI (hs _ _ (by omega))) (jV3 hI (hs _ _ (by omega))) (jC hI (by omega) n2 n5 (hs _ _ (by omega))) (jD hI n2 (hs _ _ (by omega))) (jW hI (by omega) (by omega) n3 (hs _ _ (by omega))) (jK hI (by omega) (by omega) n4 (hs _ _ (by omega)))
theorem Rl.cg {q : Nat} (hR : Rl w q m) (h : eqr 0 541 m m') (h12 : nC m ≤ 12) (h16 : nW m ≤ 16) (h4 : nK m ≤ 4) : Rl w q m' := by
  have hs : ∀ lo hi, hi ≤ 541 → eqr lo hi m m' := fun lo hi h1 a h2 h3 => h a (by omega) (by omega)
  obtain ⟨n1, n2, n3, n4, n5⟩ := ns_of (hs 0 5 (by omega))
  exact ⟨sS hR rfl (hs _ _ (by omega)), sV hR (fun _ _ _ => rfl) (hs _ _ (by omega)), sA hR (fun _ _ _ => rfl) (hs _ _ (by omega)), sC hR (fun _ _ _ => rfl) (hs _ _ (by omega)) n2 h12 n4 h4, sP hR (fun _ _ _ => rfl) (hs _ _ (by omega)), sW hR (fun _ _ _ => rfl) (hs _ _ (by omega)) n3 h16, sZ hR (fun _ _ _ => rfl) n3, sL hR (fun _ _ _ => rfl) (hs _ _ (by omega)), sK hR rfl (hs _ _ (by omega))⟩
theorem Iv.mT {T' : Nat} (hI : Iv T z m) (h : T ≤ T') (h9 : T' ≤ 1000000000) : Iv T' z m := by
  obtain ⟨⟨b1, b1', b1''⟩, b2⟩ := hI
  exact ⟨⟨b1, by omega, h9⟩, b2⟩
/-- a block holds what another one held -/
def blk2 (w w' : Wl) (q1 q0 : Nat) : Prop :=
  (∀ j, j < 9 → w' q0 j = w q1 j) ∧ (∀ v, v < 8 → (∀ j, j < 5 → w' (q0 + 12 + 2 * v) j = w (q1 + 12 + 2 * v) j) ∧ ∀ j, j < 8 → w' (q0 + 12 + 2 * v + 1) j = w (q1 + 12 + 2 * v + 1) j) ∧
  (∀ c, c < 12 → ∀ j, j < 10 → w' (q0 + 28 + c) j = w (q1 + 28 + c) j) ∧ (∀ i, i < 16 → (∀ j, j < 8 → w' (q0 + 40 + 2 * i) j = w (q1 + 40 + 2 * i) j) ∧ ∀ j, j < 10 → w' (q0 + 40 + 2 * i + 1) j = w (q1 + 40 + 2 * i + 1) j) ∧
  (∀ l, l < 6 → ∀ j, j < 4 → w' (q0 + 6 + l) j = w (q1 + 6 + l) j) ∧ ∀ k, k < 4 → w' (q0 + 4) k = w (q1 + 4) k
theorem Rl.blk {q1 q0 : Nat} (hR : Rl w q1 m) (h12 : nC m ≤ 12) (h16 : nW m ≤ 16) (h : blk2 w w' q1 q0) : Rl w' q0 m := by
  obtain ⟨b1, b2, b3, b4, b5, b6⟩ := h
  obtain ⟨r1, r2, r3, r4, r5, r6, r7, r8, r9⟩ := hR
  refine ⟨?_, fun v hv => ⟨fun j hj => ?_, fun j hj => ?_⟩, fun c hc => ?_, fun c hc => ?_, fun i hi => ⟨?_, fun j hj => ?_⟩, fun i hi => ?_, fun i h1 hi => ?_, fun l hl j hj => ?_, fun k hk => ?_⟩
  · unfold RlS at r1 ⊢
    rw [b1 0 (by decide), b1 1 (by decide), b1 2 (by decide), b1 3 (by decide), b1 4 (by decide), b1 5 (by decide), b1 6 (by decide), b1 7 (by decide), b1 8 (by decide)]
    exact r1
  · rw [(b2 v hv).1 j hj]; exact (r2 v hv).1 j hj
  · rw [(b2 v hv).2 j hj]; exact (r2 v hv).2 j hj
  · have := r3 c hc
    unfold RlA at this ⊢
    rw [b3 c hc 0 (by decide), b3 c hc 1 (by decide), b3 c hc 7 (by decide), b3 c hc 8 (by decide)]
    exact this
  · have := r4 c hc
    unfold RlC at this ⊢
    rw [b3 c (by omega) 2 (by decide), b3 c (by omega) 3 (by decide), b3 c (by omega) 4 (by decide), b3 c (by omega) 5 (by decide), b3 c (by omega) 6 (by decide), b3 c (by omega) 9 (by decide)]
    exact this
  · rw [(b4 i hi).1 3 (by decide)]; exact (r5 i hi).1
  · rw [(b4 i hi).2 j hj]; exact (r5 i hi).2 j hj
  · have := r6 i hi
    unfold RlW at this ⊢
    have b := (b4 i (by omega)).1
    rw [b 0 (by decide), b 1 (by decide), b 2 (by decide), b 3 (by decide), b 4 (by decide), b 5 (by decide), b 6 (by decide), b 7 (by decide)]
    exact this
  · rw [(b4 i hi).1 6 (by decide), (b4 i hi).1 7 (by decide)]; exact r7 i h1 hi
  · rw [b5 l hl j hj]; exact r8 l hl j hj
  · rw [b6 k hk]; exact r9 k hk
theorem cp3 {o0 o1 : Nat} (h : o1 ≠ o0) (hb : w o1 1 = 0 ∨ w o1 1 = 1) : ∃ w', sX3_copyFrom w o0 o1 = some w' ∧ (∀ j, j < 10 → w' o0 j = w o1 j) ∧ ∀ r, r ≠ o0 → w' r = w r := by
  unfold sX3_copyFrom
  simp only [wN h]
  rw [if_pos hb]
  refine ⟨_, rfl, fun j hj => ?_, fun r hr => by simp only [wN hr]⟩
  simp only [wS]
  rcases (by omega : j = 0 ∨ j = 1 ∨ j = 2 ∨ j = 3 ∨ j = 4 ∨ j = 5 ∨ j = 6 ∨ j = 7 ∨ j = 8 ∨ j = 9) with rfl | rfl | rfl | rfl | rfl | rfl | rfl | rfl | rfl | rfl <;> simp (disch := omega) only [uS, uN]
theorem cp9 {o0 o1 : Nat} (h : o1 ≠ o0) (h1 : o1 ≠ o0 + 1) (h2 : o1 + 1 ≠ o0) (h3 : o1 + 1 ≠ o0 + 1) : ∃ w', sX9_copyFrom w o0 o1 = some w' ∧ (∀ j, j < 5 → w' o0 j = w o1 j) ∧ (∀ j, j < 8 → w' (o0 + 1) j = w (o1 + 1) j) ∧ ∀ r, r ≠ o0 → r ≠ o0 + 1 → w' r = w r := by
  unfold sX9_copyFrom
  simp only [wN h, wN h2]
  refine ⟨_, rfl, fun j hj => ?_, fun j hj => ?_, fun r g1 g2 => by rw [rN g2]; simp only [wN g1]⟩
  · rw [rN (by omega)]
    simp only [wS]
    rcases (by omega : j = 0 ∨ j = 1 ∨ j = 2 ∨ j = 3 ∨ j = 4) with rfl | rfl | rfl | rfl | rfl <;> simp (disch := omega) only [uS, uN]
  · rw [rS]
    unfold va_cpy
    rw [if_pos (by omega), show 0 + (j - 0) = j by omega]
theorem cp11 {o0 o1 : Nat} (h : o1 ≠ o0) (h1 : o1 ≠ o0 + 1) (h2 : o1 + 1 ≠ o0) (h3 : o1 + 1 ≠ o0 + 1) (hb : w o1 3 = 0 ∨ w o1 3 = 1) : ∃ w', sX11_copyFrom w o0 o1 = some w' ∧ (∀ j, j < 8 → w' o0 j = w o1 j) ∧ (∀ j, j < 10 → w' (o0 + 1) j = w (o1 + 1) j) ∧ ∀ r, r ≠ o0 → r ≠ o0 + 1 → w' r = w r := by
  unfold sX11_copyFrom
  simp only [wN h, wN h2]
  rw [if_pos hb]
  refine ⟨_, rfl, fun j hj => ?_, fun j hj => ?_, fun r g1 g2 => by rw [rN g2]; simp only [wN g1]⟩
  · rw [rN (by omega)]
    simp only [wS]
    rcases (by omega : j = 0 ∨ j = 1 ∨ j = 2 ∨ j = 3 ∨ j = 4 ∨ j = 5 ∨ j = 6 ∨ j = 7) with rfl | rfl | rfl | rfl | rfl | rfl | rfl | rfl <;> simp (disch := omega) only [uS, uN]
  · rw [rS]
    unfold va_cpy
    rw [if_pos (by omega), show 0 + (j - 0) = j by omega]
end CP
