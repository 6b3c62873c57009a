/-! SAVED STATES, both sides -/
def pg (w : Wl) (j : Nat) : Nat → Int32 := fun k => w 373 (541 * j + k)
/-- the class's stack: n states, state j in the place p j, which stands to P j -/
def UC (w : Wl) (n : Nat) (p : Nat → Nat) (P : Nat → Nat → Int32) : Prop := n ≤ 4 ∧ w 78 1 = iN n ∧ (∀ j, j < 4 → p j < 4 ∧ w 79 j = iN (p j)) ∧ (∀ i j, i < 4 → j < 4 → p i = p j → i = j) ∧ ∀ j, j < n → Rl w (80 + 72 * p j) (P j)
def UM (w : Wl) (n : Nat) (P : Nat → Nat → Int32) : Prop := n ≤ 4 ∧ w 371 2 = iN n ∧ ∀ j, j < n → eqr 0 541 (P j) (pg w j)
def pushP (n : Nat) (P : Nat → Nat → Int32) (m : Nat → Int32) : Nat → Nat → Int32 := if n = 4 then (fun j => if j = 3 then m else P (j + 1)) else (fun j => if j = n then m else P j)
def pushN (n : Nat) : Nat := if n = 4 then 4 else n + 1
section UN
variable {T z : Nat} {m m' a : Nat → Int32} {w w' : Wl}
theorem Rl.gd {q : Nat} (hR : Rl w q m) : (∀ c, c < 12 → w (q + 28 + c) 1 = 0 ∨ w (q + 28 + c) 1 = 1) ∧ ∀ i, i < 16 → w (q + 40 + 2 * i) 3 = 0 ∨ w (q + 40 + 2 * i) 3 = 1 := by
  refine ⟨fun c hc => ?_, fun i hi => (hR.2.2.2.2.1 i hi).1⟩
  obtain ⟨-, b2, b3, -⟩ := hR.2.2.1 c hc
  rw [b2]; exact b3
theorem c_keep_12 {n : Nat} {p : Nat → Nat} {P : Nat → Nat → Int32} (hU : UC w n p P) (hn : n < 4) (hR : Rl w 1 m) (h12 : nC m ≤ 12) (h16 : nW m ≤ 16) (hP : ∀ j, j < n → nC (P j) ≤ 12 ∧ nW (P j) ≤ 16) : ∃ w', sX7_keep_12 w 1 = some w' ∧ UC w' (n + 1) p (fun j => if j = n then m else P j) ∧ ∀ r, r < 78 ∨ 368 ≤ r → w' r = w r := by
  obtain ⟨u1, u2, u3, u4, u5⟩ := hU
  obtain ⟨pn, en⟩ := u3 n hn
  obtain ⟨g1, g2⟩ := hR.gd
  obtain ⟨w1, f1, f2, f3⟩ := c_copyFrom (w := w) (q0 := 80 + 72 * p n) (q1 := 1) (by omega) g1 g2
  unfold sX7_keep_12
  rw [u2, idx_iN hn (by decide), ob, en, idx_iN pn (by decide), ob, f1, ob]
  have hrow : ∀ r, r ≠ 78 → (r < 80 + 72 * p n ∨ 80 + 72 * p n + 72 ≤ r) → wst w1 78 1 (w1 78 1 + 1) r = w r := fun r h1 h2 => by rw [wN h1]; exact f3 r h2
  refine ⟨_, rfl, ⟨by omega, ?_, fun j hj => ⟨(u3 j hj).1, ?_⟩, u4, fun j hj => ?_⟩, fun r hr => hrow r (by omega) (by omega)⟩
  · rw [wS, uS, f3 78 (by omega), u2, iN_s]
  · rw [hrow 79 (by omega) (by omega)]; exact (u3 j hj).2
  · by_cases e : j = n
    · subst e
      simp only [if_true]
      exact (hR.blk h12 h16 f2).same (fun r h1 h2 => wN (by omega)) h12 h16
    · simp only [if_neg e]
      have hne : p j ≠ p n := fun q => e (u4 j n (by omega) hn q)
      have pj := (u3 j (by omega)).1
      obtain ⟨p12, p16⟩ := hP j (by omega)
      exact (u5 j (by omega)).same (fun r h1 h2 => hrow r (by omega) (by omega)) p12 p16
theorem c_keep {n : Nat} {p : Nat → Nat} {P : Nat → Nat → Int32} (hU : UC w n p P) (hR : Rl w 1 m) (h12 : nC m ≤ 12) (h16 : nW m ≤ 16) (hP : ∀ j, j < n → nC (P j) ≤ 12 ∧ nW (P j) ≤ 16) : ∃ w' p', sX7_keep w 1 = some w' ∧ UC w' (pushN n) p' (pushP n P m) ∧ ∀ r, r < 78 ∨ 368 ≤ r → w' r = w r := by
  have hU' := hU
  obtain ⟨u1, u2, u3, u4, u5⟩ := hU
  unfold sX7_keep pushN pushP
  rw [u2]
  by_cases h : n = 4
  · subst h
    obtain ⟨p0, e0⟩ := u3 0 (by decide)
    obtain ⟨p1, e1⟩ := u3 1 (by decide)
    obtain ⟨p2, e2⟩ := u3 2 (by decide)
    obtain ⟨p3, e3⟩ := u3 3 (by decide)
    rw [if_pos (show iN 4 = 4 from rfl), if_pos rfl, if_pos rfl]
    unfold sX7_dropOldest
    simp only [wS, wN (show (78 : Nat) ≠ 79 by decide)]
    rw [e0, e1, idx_iN p0 (by decide), ob, idx_iN p1 (by decide), ob, uN (by decide), e2, idx_iN p2 (by decide), ob, uN (by decide), uN (by decide), e3, idx_iN p3 (by decide), ob, ob, u2]
    generalize hw1 : wst (wst (wst (wst (wst w 79 0 (iN (p 1))) 79 1 (iN (p 2))) 79 2 (iN (p 3))) 79 3 (iN (p 0))) 78 1 (iN 4 - 1) = w1
    have hrow : ∀ r, r ≠ 78 → r ≠ 79 → w1 r = w r := fun r h1 h2 => by rw [← hw1]; simp only [wN h1, wN h2]
    have h79 : w1 79 = upd (upd (upd (upd (w 79) 0 (iN (p 1))) 1 (iN (p 2))) 2 (iN (p 3))) 3 (iN (p 0)) := by
      rw [← hw1, wN (by decide)]
      simp only [wS]
    have hU1 : UC w1 3 (fun j => if j = 3 then p 0 else p (j + 1)) (fun j => P (j + 1)) := by
      refine ⟨by decide, ?_, fun j hj => ?_, fun i j hi hj e => ?_, fun j hj => ?_⟩
      · rw [← hw1, wS, uS]; decide
      · rw [h79]
        rcases (by omega : j = 0 ∨ j = 1 ∨ j = 2 ∨ j = 3) with rfl | rfl | rfl | rfl
        · exact ⟨p1, by simp (disch := omega) only [uS, uN]; rfl⟩
        · exact ⟨p2, by simp (disch := omega) only [uS, uN]; rfl⟩
        · exact ⟨p3, by simp (disch := omega) only [uS, uN]; rfl⟩
        · exact ⟨p0, by simp (disch := omega) only [uS, uN]; rfl⟩
      · have e : (if i = 3 then p 0 else p (i + 1)) = (if j = 3 then p 0 else p (j + 1)) := e
        by_cases hi3 : i = 3
        · by_cases hj3 : j = 3
          · omega
          · rw [if_pos hi3, if_neg hj3] at e
            have := u4 0 (j + 1) (by decide) (by omega) e
            omega
        · by_cases hj3 : j = 3
          · rw [if_neg hi3, if_pos hj3] at e
            have := u4 (i + 1) 0 (by omega) (by decide) e
            omega
          · rw [if_neg hi3, if_neg hj3] at e
            have := u4 (i + 1) (j + 1) (by omega) (by omega) e
            omega
      · show Rl w1 (80 + 72 * (if j = 3 then p 0 else p (j + 1))) (P (j + 1))
        rw [if_neg (by omega)]
        obtain ⟨q12, q16⟩ := hP (j + 1) (by omega)
        exact (u5 (j + 1) (by omega)).same (fun r h1 h2 => hrow r (by omega) (by omega)) q12 q16
    obtain ⟨w', f1, f2, f3⟩ := c_keep_12 (m := m) hU1 (by decide) (hR.same (fun r h1 h2 => hrow r (by omega) (by omega)) h12 h16) h12 h16 (fun j hj => hP (j + 1) (by omega))
    exact ⟨w', _, f1, f2, fun r hr => (f3 r hr).trans (hrow r (by omega) (by omega))⟩
  · have h' : ¬ iN n = 4 := fun q => h ((iN_eq (b := 4) (by omega) (by decide)).mp q)
    rw [if_neg h', if_neg h, if_neg h]
    obtain ⟨w', f1, f2, f3⟩ := c_keep_12 (m := m) hU' (by omega) hR h12 h16 hP
    exact ⟨w', p, f1, f2, f3⟩
theorem c_restore {n : Nat} {p : Nat → Nat} {P : Nat → Nat → Int32} (hU : UC w (n + 1) p P) (hP : ∀ j, j < n + 1 → nC (P j) ≤ 12 ∧ nW (P j) ≤ 16) : ∃ w', sX7_restore w 1 = some (iN n, w') ∧ UC w' n p P ∧ Rl w' 1 (P n) ∧ ∀ r, (r < 1 ∨ 73 ≤ r) → r ≠ 78 → w' r = w r := by
  obtain ⟨u1, u2, u3, u4, u5⟩ := hU
  obtain ⟨pn, en⟩ := u3 n (by omega)
  obtain ⟨q12, q16⟩ := hP n (by omega)
  have hrow : ∀ r, r ≠ 78 → wst w 78 1 (w 78 1 - 1) r = w r := fun r h1 => wN h1
  have hR1 : Rl (wst w 78 1 (w 78 1 - 1)) (80 + 72 * p n) (P n) := (u5 n (by omega)).same (fun r h1 h2 => hrow r (by omega)) q12 q16
  obtain ⟨g1, g2⟩ := hR1.gd
  obtain ⟨w1, f1, f2, f3⟩ := c_copyFrom (w := wst w 78 1 (w 78 1 - 1)) (q0 := 1) (q1 := 80 + 72 * p n) (by omega) g1 g2
  unfold sX7_restore
  have e78 : wst w 78 1 (w 78 1 - 1) 78 1 = iN n := by rw [wS, uS, u2, iN_p]
  rw [e78, idx_iN (by omega) (by decide), ob, hrow 79 (by decide), en, idx_iN pn (by decide), ob, f1, ob, f3 78 (by omega), e78]
  refine ⟨w1, rfl, ⟨by omega, ?_, fun j hj => ⟨(u3 j hj).1, ?_⟩, u4, fun j hj => ?_⟩, hR1.blk q12 q16 f2, fun r h1 h2 => (f3 r (by omega)).trans (hrow r h2)⟩
  · rw [f3 78 (by omega)]; exact e78
  · rw [f3 79 (by omega), hrow 79 (by decide)]; exact (u3 j hj).2
  · obtain ⟨r12, r16⟩ := hP j (by omega)
    exact (u5 j (by omega)).same (fun r h1 h2 => (f3 r (by omega)).trans (hrow r (by omega))) r12 r16
end UN
