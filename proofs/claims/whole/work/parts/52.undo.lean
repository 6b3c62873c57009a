/-! SAVED STATES, both sides -/
def pg (w : Wl) (j : Nat) : Nat → Int32 := fun k => w 373 (541 * j + k)
/-- the class's stack: n states, state j in the place p j, which stands to P j -/
def UC (w : Wl) (n : Nat) (p : Nat → Nat) (P : Nat → Nat → Int32) : Prop := n ≤ 4 ∧ w 78 1 = iN n ∧ (∀ j, j < 4 → p j < 4 ∧ w 79 j = iN (p j)) ∧ (∀ i j, i < 4 → j < 4 → p i = p j → i = j) ∧ ∀ j, j < n → Rl w (80 + 72 * p j) (P j)
def UM (w : Wl) (n : Nat) (P : Nat → Nat → Int32) : Prop := n ≤ 4 ∧ w 371 2 = iN n ∧ ∀ j, j < n → eqr 0 541 (P j) (pg w j)
def pushP (n : Nat) (P : Nat → Nat → Int32) (m : Nat → Int32) : Nat → Nat → Int32 := if n = 4 then (fun j => if j = 3 then m else P (j + 1)) else (fun j => if j = n then m else P j)
def pushN (n : Nat) : Nat := if n = 4 then 4 else n + 1
section UN
variable {T z : Nat} {m m' a : Nat → Int32} {w w' : Wl}
theorem Rl.gd {q : Nat} (hR : Rl w q m) : (∀ c, c < 12 → w (q + 28 + c) 1 = 0 ∨ w (q + 28 + c) 1 = 1) ∧ ∀ i, i < 16 → w (q + 40 + 2 * i) 3 = 0 ∨ w (q + 40 + 2 * i) 3 = 1 := by
  refine ⟨fun c hc => ?_, fun i hi => (hR.2.2.2.2.1 i hi).1⟩
  obtain ⟨-, b2, b3, -⟩ := hR.2.2.1 c hc
  rw [b2]; exact b3
theorem c_keep_12 {n : Nat} {p : Nat → Nat} {P : Nat → Nat → Int32} (hU : UC w n p P) (hn : n < 4) (hR : Rl w 1 m) (h12 : nC m ≤ 12) (h16 : nW m ≤ 16) (hP : ∀ j, j < n → nC (P j) ≤ 12 ∧ nW (P j) ≤ 16) : ∃ w', sX7_keep_12 w 1 = some w' ∧ UC w' (n + 1) p (fun j => if j = n then m else P j) ∧ ∀ r, r < 78 ∨ 368 ≤ r → w' r = w r := by
  obtain ⟨u1, u2, u3, u4, u5⟩ := hU
  obtain ⟨pn, en⟩ := u3 n hn
  obtain ⟨g1, g2⟩ := hR.gd
  obtain ⟨w1, f1, f2, f3⟩ := c_copyFrom (w := w) (q0 := 80 + 72 * p n) (q1 := 1) (by omega) g1 g2
  unfold sX7_keep_12
  rw [u2, idx_iN hn (by decide), ob, en, idx_iN pn (by decide), ob, f1, ob]
  have hrow : ∀ r, r ≠ 78 → (r < 80 + 72 * p n ∨ 80 + 72 * p n + 72 ≤ r) → wst w1 78 1 (w1 78 1 + 1) r = w r := fun r h1 h2 => by rw [wN h1]; exact f3 r h2
  refine ⟨_, rfl, ⟨by omega, ?_, fun j hj => ⟨(u3 j hj).1, ?_⟩, u4, fun j hj => ?_⟩, fun r hr => hrow r (by omega) (by omega)⟩
  · rw [wS, uS, f3 78 (by omega), u2, iN_s]
  · rw [hrow 79 (by omega) (by omega)]; exact (u3 j hj).2
  · by_cases e : j = n
    · subst e
      simp only [if_true]
      exact (hR.blk h12 h16 f2).same (fun r h1 h2 => wN (by omega)) h12 h16
    · simp only [if_neg e]
      have hne : p j ≠ p n := fun q => e (u4 j n (by omega) hn q)
      have pj := (u3 j (by omega)).1
      obtain ⟨p12, p16⟩ := hP j (by omega)
      exact (u5 j (by omega)).same (fun r h1 h2 => hrow r (by omega) (by omega)) p12 p16
theorem c_keep {n : Nat} {p : Nat → Nat} {P : Nat → Nat → Int32} (hU : UC w n p P) (hR : Rl w 1 m) (h12 : nC m ≤ 12) (h16 : nW m ≤ 16) (hP : ∀ j, j < n → nC (P j) ≤ 12 ∧ nW (P j) ≤ 16) : ∃ w' p', sX7_keep w 1 = some w' ∧ UC w' (pushN n) p' (pushP n P m) ∧ ∀ r, r < 78 ∨ 368 ≤ r → w' r = w r := by
  have hU' := hU
  obtain ⟨u1, u2, u3, u4, u5⟩ := hU
  unfold sX7_keep pushN pushP
  rw [u2]
  by_cases h : n = 4
  · subst h
    obtain ⟨p0, e0⟩ := u3 0 (by decide)
    obtain ⟨p1, e1⟩ := u3 1 (by decide)
    obtain ⟨p2, e2⟩ := u3 2 (by decide)
    obtain ⟨p3, e3⟩ := u3 3 (by decide)
    rw [if_pos (show iN 4 = 4 from rfl), if_pos rfl, if_pos rfl]
    unfold sX7_dropOldest
    simp only [wS, wN (show (78 : Nat) ≠ 79 by decide)]
    rw [e0, e1, idx_iN p0 (by decide), ob, idx_iN p1 (by decide), ob, uN (by decide), e2, idx_iN p2 (by decide), ob, uN (by decide), uN (by decide), e3, idx_iN p3 (by decide), ob, ob, u2]
    generalize hw1 : wst (wst (wst (wst (wst w 79 0 (iN (p 1))) 79 1 (iN (p 2))) 79 2 (iN (p 3))) 79 3 (iN (p 0))) 78 1 (iN 4 - 1) = w1
    have hrow : ∀ r, r ≠ 78 → r ≠ 79 → w1 r = w r := fun r h1 h2 => by rw [← hw1]; simp only [wN h1, wN h2]
    have h79 : w1 79 = upd (upd (upd (upd (w 79) 0 (iN (p 1))) 1 (iN (p 2))) 2 (iN (p 3))) 3 (iN (p 0)) := by
      rw [← hw1, wN (by decide)]
      simp only [wS]
    have hU1 : UC w1 3 (fun j => if j = 3 then p 0 else p (j + 1)) (fun j => P (j + 1)) := by
      refine ⟨by decide, ?_, fun j hj => ?_, fun i j hi hj e => ?_, fun j hj => ?_⟩
      · rw [← hw1, wS, uS]; decide
      · rw [h79]
        rcases (by omega : j = 0 ∨ j = 1 ∨ j = 2 ∨ j = 3) with rfl | rfl | rfl | rfl
        · exact ⟨p1, by simp (disch := omega) only [uS, uN]; rfl⟩
        · exact ⟨p2, by simp (disch := omega) only [uS, uN]; rfl⟩
        · exact ⟨p3, by simp (disch := omega) only [uS, uN]; rfl⟩
        · exact ⟨p0, by simp (disch := omega) only [uS, uN]; rfl⟩
      · have e : (if i = 3 then p 0 else p (i + 1)) = (if j = 3 then p 0 else p (j + 1)) := e
        by_cases hi3 : i = 3
        · by_cases hj3 : j = 3
          · omega
          · rw [if_pos hi3, if_neg hj3] at e
            have := u4 0 (j + 1) (by decide) (by omega) e
            omega
        · by_cases hj3 : j = 3
          · rw [if_neg hi3, if_pos hj3] at e
            have := u4 (i + 1) 0 (by omega) (by decide) e
            omega
          · rw [if_neg hi3, if_neg hj3] at e
            have := u4 (i + 1) (j + 1) (by omega) (by omega) e
            omega
      · show Rl w1 (80 + 72 * (if j = 3 then p 0 else p (j + 1))) (P (j + 1))
        rw [if_neg (by omega)]
        obtain ⟨q12, q16⟩ := hP (j + 1) (by omega)
        exact (u5 (j + 1) (by omega)).same (fun r h1 h2 => hrow r (by omega) (by omega)) q12 q16
    obtain ⟨w', f1, f2, f3⟩ := c_keep_12 (m := m) hU1 (by decide) (hR.same (fun r h1 h2 => hrow r (by omega) (by omega)) h12 h16) h12 h16 (fun j hj => hP (j + 1) (by omega))
    exact ⟨w', _, f1, f2, fun r hr => (f3 r hr).trans (hrow r (by omega) (by omega))⟩
  · have h' : ¬ iN n = 4 := fun q => h ((iN_eq (b := 4) (by omega) (by decide)).mp q)
    rw [if_neg h', if_neg h, if_neg h]
    obtain ⟨w', f1, f2, f3⟩ := c_keep_12 (m := m) hU' (by omega) hR h12 h16 hP
    exact ⟨w', p, f1, f2, f3⟩
theorem c_restore {n : Nat} {p : Nat → Nat} {P : Nat → Nat → Int32} (hU : UC w (n + 1) p P) (hP : ∀ j, j < n + 1 → nC (P j) ≤ 12 ∧ nW (P j) ≤ 16) : ∃ w', sX7_restore w 1 = some (iN n, w') ∧ UC w' n p P ∧ Rl w' 1 (P n) ∧ ∀ r, (r < 1 ∨ 73 ≤ r) → r ≠ 78 → w' r = w r := by
  obtain ⟨u1, u2, u3, u4, u5⟩ := hU
  obtain ⟨pn, en⟩ := u3 n (by omega)
  obtain ⟨q12, q16⟩ := hP n (by omega)
  have hrow : ∀ r, r ≠ 78 → wst w 78 1 (w 78 1 - 1) r = w r := fun r h1 => wN h1
  have hR1 : Rl (wst w 78 1 (w 78 1 - 1)) (80 + 72 * p n) (P n) := (u5 n (by omega)).same (fun r h1 h2 => hrow r (by omega)) q12 q16
  obtain ⟨g1, g2⟩ := hR1.gd
  obtain ⟨w1, f1, f2, f3⟩ := c_copyFrom (w := wst w 78 1 (w 78 1 - 1)) (q0 := 1) (q1 := 80 + 72 * p n) (by omega) g1 g2
  unfold sX7_restore
  have e78 : wst w 78 1 (w 78 1 - 1) 78 1 = iN n := by rw [wS, uS, u2, iN_p]
  rw [e78, idx_iN (by omega) (by decide), ob, hrow 79 (by decide), en, idx_iN pn (by decide), ob, f1, ob, f3 78 (by omega), e78]
  refine ⟨w1, rfl, ⟨by omega, ?_, fun j hj => ⟨(u3 j hj).1, ?_⟩, u4, fun j hj => ?_⟩, hR1.blk q12 q16 f2, fun r h1 h2 => (f3 r (by omega)).trans (hrow r h2)⟩
  · rw [f3 78 (by omega)]; exact e78
  · rw [f3 79 (by omega), hrow 79 (by decide)]; exact (u3 j hj).2
  · obtain ⟨r12, r16⟩ := hP j (by omega)
    exact (u5 j (by omega)).same (fun r h1 h2 => (f3 r (by omega)).trans (hrow r (by omega))) r12 r16
-- the model
theorem e13_keep_51 {n : Nat} (hn : n < 4) (h2 : w 371 2 = iN n) : ∃ w', sX13_keep_51 FU w (0 : Int32) = some w' ∧ (∀ r, r ≠ 373 → r ≠ 371 → w' r = w r) ∧ w' 371 = upd (w 371) 2 (iN (n + 1)) ∧ (∀ k, k < 541 * n → w' 373 k = w 373 k) ∧ ∀ k, k < 541 → w' 373 (541 * n + k) = w 372 k := by
  obtain ⟨s', ⟨q1, q2, q3⟩, q4⟩ := loopB (L := fun n s l => sX13_keep_51 n s l) (N := 541) (fin := fun (_ : Unit) s => some (wst s 371 2 (s 371 2 + 1))) (f := fun _ u => u) (fun i _ s => (∀ r, r ≠ 373 → s r = w r) ∧ (∀ k, k < 541 * n → s 373 k = w 373 k) ∧ ∀ k, k < i → s 373 (541 * n + k) = w 372 k) (fun n _ s _ => by
      show sX13_keep_51 (n + 1) s (iN 541) = _
      rw [sX13_keep_51.eq_2, if_pos (by decide)]) (fun n' _ s i hi hs => by
      obtain ⟨o1, o2, o3⟩ := hs
      have e : ((541 : Int32) * (s 371 2)) + iN i = iN (541 * n + i) := by rw [o1 371 (by decide), h2, show (541 : Int32) = iN 541 from rfl, iN_mul, iN_add]
      refine ⟨wst s 373 (541 * n + i) (s 372 i), ⟨fun r hr => (wN hr).trans (o1 r hr), fun k hk => by rw [wS, uN (by omega)]; exact o2 k hk, fun k hk => ?_⟩, ?_⟩
      · rw [wS]
        by_cases ek : k = i
        · subst ek; rw [uS, o1 372 (by decide)]
        · rw [uN (by omega)]; exact o3 k (by omega)
      · show sX13_keep_51 (n' + 1) s (iN i) = sX13_keep_51 n' _ (iN (i + 1))
        rw [sX13_keep_51.eq_2, if_neg (fun q => by have := (iN_le (a := 541) (by decide) (by omega)).mp q; omega), idx_iN hi (by decide), ob, e, idx_iN (by omega) (by decide), ob, iN_s]) 541 0 () w FU (by omega) (by decide) ⟨fun _ _ => rfl, fun _ _ => rfl, fun k hk => by omega⟩
  refine ⟨_, q4, fun r h1 h2 => by rw [wN h2]; exact q1 r h1, ?_, fun k hk => by rw [wN (by decide)]; exact q2 k hk, fun k hk => by rw [wN (by decide)]; exact q3 k hk⟩
  rw [wS, q1 371 (by decide), h2, iN_s]
theorem e13_keep {n : Nat} {P : Nat → Nat → Int32} (hU : UM w n P) : ∃ w', sX13_keep w = some w' ∧ UM w' (pushN n) (pushP n P (w 372)) ∧ (∀ r, r ≠ 373 → r ≠ 371 → w' r = w r) ∧ ∀ j, j ≠ 2 → w' 371 j = w 371 j := by
  obtain ⟨u1, u2, u3⟩ := hU
  unfold sX13_keep pushN pushP
  rw [u2]
  by_cases h : n = 4
  · subst h
    rw [if_pos (show iN 4 = 4 from rfl), if_pos rfl, if_pos rfl]
    obtain ⟨s', ⟨q1, q2⟩, q4⟩ := loopB (L := fun n s l => sX13_keep_10 n s l) (N := 1623) (fin := fun (_ : Unit) s => sX13_keep_51 FU (wst s 371 2 ((s 371 2) - (1 : Int32))) (0 : Int32)) (f := fun _ u => u) (fun i _ s => (∀ r, r ≠ 373 → s r = w r) ∧ ∀ k, s 373 k = if k < i then w 373 (k + 541) else w 373 k) (fun n _ s _ => by
        show sX13_keep_10 (n + 1) s (iN 1623) = _
        rw [sX13_keep_10.eq_2, if_pos (by decide)]) (fun n' _ s i hi hs => by
        obtain ⟨o1, o2⟩ := hs
        have e : iN i + (541 : Int32) = iN (i + 541) := by rw [show (541 : Int32) = iN 541 from rfl, iN_add]
        refine ⟨wst s 373 i (s 373 (i + 541)), ⟨fun r hr => (wN hr).trans (o1 r hr), fun k => ?_⟩, ?_⟩
        · rw [wS]
          by_cases ek : k = i
          · subst ek; rw [uS, o2, if_neg (by omega), if_pos (by omega)]
          · rw [uN ek, o2]
            by_cases hk : k < i
            · rw [if_pos hk, if_pos (by omega)]
            · rw [if_neg hk, if_neg (by omega)]
        · show sX13_keep_10 (n' + 1) s (iN i) = sX13_keep_10 n' _ (iN (i + 1))
          rw [sX13_keep_10.eq_2, if_neg (fun q => by have := (iN_le (a := 1623) (by decide) (by omega)).mp q; omega), e, idx_iN (by omega) (by decide), ob, idx_iN (by omega) (by decide), ob, iN_s]) 1623 0 () w FU (by omega) (by decide) ⟨fun _ _ => rfl, fun k => by rw [if_neg (by omega)]⟩
    have q4' : sX13_keep_10 FU w (0 : Int32) = sX13_keep_51 FU (wst s' 371 2 ((s' 371 2) - (1 : Int32))) (0 : Int32) := q4
    rw [q4']
    obtain ⟨w', f1, f2, f3, f4, f5⟩ := e13_keep_51 (w := wst s' 371 2 ((s' 371 2) - (1 : Int32))) (n := 3) (by decide) (by rw [wS, uS, q1 371 (by decide), u2]; decide)
    refine ⟨w', f1, ⟨by decide, by rw [f3, uS], fun j hj => ?_⟩, fun r h1 h2 => by rw [f2 r h1 h2, wN h2]; exact q1 r h1, fun j hj => by rw [f3, uN hj, wS, uN hj, q1 371 (by decide)]⟩
    by_cases e : j = 3
    · subst e
      simp only [if_true]
      intro k _ hk
      show w' 373 (541 * 3 + k) = _
      rw [f5 k hk, wN (by decide), q1 372 (by decide)]
    · simp only [if_neg e]
      intro k _ hk
      show w' 373 (541 * j + k) = _
      rw [f4 _ (by omega), wN (by decide), q2, if_pos (by omega), show 541 * j + k + 541 = 541 * (j + 1) + k by omega]
      exact u3 (j + 1) (by omega) k (by omega) hk
  · have h' : ¬ iN n = 4 := fun q => h ((iN_eq (b := 4) (by omega) (by decide)).mp q)
    rw [if_neg h', if_neg h, if_neg h]
    obtain ⟨w', f1, f2, f3, f4, f5⟩ := e13_keep_51 (by omega) u2
    refine ⟨w', f1, ⟨by omega, by rw [f3, uS], fun j hj => ?_⟩, f2, fun j hj => by rw [f3, uN hj]⟩
    by_cases e : j = n
    · subst e
      simp only [if_true]
      intro k _ hk
      exact f5 k hk
    · simp only [if_neg e]
      intro k _ hk
      show w' 373 (541 * j + k) = _
      rw [f4 _ (by omega)]
      exact u3 j (by omega) k (by omega) hk
theorem e13_undo_37 {n : Nat} {P : Nat → Nat → Int32} (hn : n < 4) (h2 : w 371 2 = iN n) (hP : eqr 0 541 (P n) (pg w n)) : ∃ w', sX13_undo_37 FU w (0 : Int32) = some (iN n, w') ∧ eqr 0 541 (P n) (w' 372) ∧ only372 w w' := by
  obtain ⟨s', ⟨q1, q2⟩, q4⟩ := loopB (L := fun n s l => sX13_undo_37 n s l) (N := 541) (fin := fun (_ : Unit) s => some (s 371 2, s)) (f := fun _ u => u) (fun i _ s => only372 w s ∧ ∀ k, k < i → s 372 k = P n k) (fun n _ s _ => by
      show sX13_undo_37 (n + 1) s (iN 541) = _
      rw [sX13_undo_37.eq_2, if_pos (by decide)]) (fun n' _ s i hi hs => by
      obtain ⟨o1, o2⟩ := hs
      have e : ((541 : Int32) * (s 371 2)) + iN i = iN (541 * n + i) := by rw [o1 371 (by decide), h2, show (541 : Int32) = iN 541 from rfl, iN_mul, iN_add]
      refine ⟨wst s 372 i (s 373 (541 * n + i)), ⟨fun r hr => (wN hr).trans (o1 r hr), fun k hk => ?_⟩, ?_⟩
      · rw [wS]
        by_cases ek : k = i
        · subst ek
          rw [uS, o1 373 (by decide)]
          exact hP k (by omega) (by omega)
        · rw [uN ek]; exact o2 k (by omega)
      · show sX13_undo_37 (n' + 1) s (iN i) = sX13_undo_37 n' _ (iN (i + 1))
        rw [sX13_undo_37.eq_2, if_neg (fun q => by have := (iN_le (a := 541) (by decide) (by omega)).mp q; omega), e, idx_iN (by omega) (by decide), ob, idx_iN hi (by decide), ob, iN_s]) 541 0 () w FU (by omega) (by decide) ⟨fun _ _ => rfl, fun k hk => by omega⟩
  refine ⟨s', ?_, fun k _ hk => q2 k hk, q1⟩
  have q4' : sX13_undo_37 FU w (0 : Int32) = some (s' 371 2, s') := q4
  rw [q4', q1 371 (by decide), h2]
end UN
