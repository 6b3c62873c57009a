/-! BOTH SIDES: what holds between the law's steps -/
section AB
variable {w w' : Wl} {T : Nat}
/-- the class and the model stand to each other -/
def AL (T : Nat) (w : Wl) : Prop := Rl w 1 (w 372) ∧ Iv T 12 (w 372) ∧ (∃ n p P, UC w n p P ∧ UM w n P ∧ ∀ j, j < n → Iv T 12 (P j)) ∧ (∃ n t, TC w n t ∧ TM w n t) ∧ ∃ d, d < 9 ∧ w 368 4 = iN d
theorem AL.it (hA : AL T w) : T ≤ 1000000000 := hA.2.1.1.2.2
theorem AL.mk' {m : Nat → Int32} {T' : Nat} (hA : AL T w) (hT : T ≤ T') (hT' : T' ≤ 1000000000) (hm : w' 372 = m) (hR : Rl w' 1 m) (hI : Iv T' 12 m) (hU : ∃ n p P, UC w' n p P ∧ UM w' n P ∧ ∀ j, j < n → Iv T' 12 (P j))
    (h8 : w' 368 1 = w 368 1) (h84 : ∃ d, d < 9 ∧ w' 368 4 = iN d) (h9 : w' 369 = w 369) (h1 : w' 371 4 = w 371 4) (h4 : w' 374 = w 374) : AL T' w' := by
  obtain ⟨-, -, -, ⟨n, t, a, b⟩, -⟩ := hA
  refine ⟨by rw [hm]; exact hR, by rw [hm]; exact hI, hU, ⟨n, t, ⟨a.1, h8.trans a.2.1, fun j hj => by rw [h9]; exact a.2.2 j hj⟩, b.1, h1.trans b.2.1, fun j hj => by rw [h4]; exact b.2.2 j hj⟩, h84⟩
/-- what no promise speaks of may change -/
theorem AL.fr {T' : Nat} (hA : AL T w) (hT : T ≤ T') (hT' : T' ≤ 1000000000) (h : ∀ r, r ≠ 77 → r ≠ 371 → r ≠ 375 → r ≠ 376 → r < 377 → w' r = w r) (h2 : w' 371 2 = w 371 2) (h4 : w' 371 4 = w 371 4) : AL T' w' := by
  have hA' := hA
  obtain ⟨a, b, ⟨n, p, P, c, d, e⟩, -, ⟨f, f1, f2⟩⟩ := hA'
  have hm : w' 372 = w 372 := h 372 (by decide) (by decide) (by decide) (by decide) (by decide)
  refine hA.mk' hT hT' hm (a.same (fun r g1 g2 => h r (by omega) (by omega) (by omega) (by omega) (by omega)) b.ic12 b.iw16) (b.mT hT hT') ⟨n, p, P, ?_, ?_, fun j hj => (e j hj).mT hT hT'⟩ ?_ ⟨f, f1, ?_⟩ ?_ h4 ?_
  · exact c.fr (fun r g1 g2 => h r (by omega) (by omega) (by omega) (by omega) (by omega)) (fun j hj => ⟨(e j hj).ic12, (e j hj).iw16⟩)
  · exact d.fr h2 (h 373 (by decide) (by decide) (by decide) (by decide) (by decide))
  · rw [h 368 (by decide) (by decide) (by decide) (by decide) (by decide)]
  · rw [h 368 (by decide) (by decide) (by decide) (by decide) (by decide)]; exact f2
  · exact h 369 (by decide) (by decide) (by decide) (by decide) (by decide)
  · exact h 374 (by decide) (by decide) (by decide) (by decide) (by decide)
/-- a step's two answers agree -/
def RES (T : Nat) (_ w2 : Wl) (k b : Int32) : Prop := w2 371 5 = k ∧ (k = 0 → lofW (w2 377 0) (w2 377 1) = b.toInt64) ∧ AL (T + 40000) w2
/-- a check's answer, and the code that the wrapper makes of it -/
def CK (c1 c2 c3 : Option Int32) (x k : Int32) : Prop := (x = 0 ∧ k = 0) ∨ (¬ k = 0 ∧ ((x = 1 ∧ c1 = some k) ∨ (x = 2 ∧ c2 = some k) ∨ (x = 3 ∧ c3 = some k)))
theorem wout_o {v : Int64} {r : Nat} (h : r ≠ 377) : wout w v r = w r := rN h
theorem wout_v {v : Int64} : lofW (wout w v 377 0) (wout w v 377 1) = v := by
  unfold wout
  rw [rS, uN (by decide), uS, uS, lofW_hl]
/-- a throw: nothing is done -/
theorem op_thr (hA : AL T w) (hT : T + 40000 ≤ 1000000000) {x k : Int32} {c1 c2 c3 : Option Int32} (hx : CK c1 c2 c3 x k) (h0 : ¬ x = 0) (A : Option (Sum Int32 (Int32 × Wl))) (A' : Option (Sum Int32 Int32)) (E : Option (Int32 × Wl)) :
    (tiw x A).bind (lwW c1 c2 c3 w) = some (k, w) ∧ (tiw x A').bind (lwR c1 c2 c3 w) = some (k, w) ∧ (if ((wst w 371 5 k) 371 5) = 0 then E else some ((0 : Int32), wst w 371 5 k)) = some (0, wst w 371 5 k) ∧ RES T w (wst w 371 5 k) k 0 := by
  rcases hx with ⟨h, -⟩ | ⟨hk, hx⟩
  · exact (h0 h).elim
  have e5 : (wst w 371 5 k) 371 5 = k := by rw [wS, uS]
  refine ⟨?_, ?_, by rw [e5, if_neg hk], e5, fun q => (hk q).elim, ?_⟩
  · rcases hx with ⟨rfl, h⟩ | ⟨rfl, h⟩ | ⟨rfl, h⟩ <;> subst h <;> rfl
  · rcases hx with ⟨rfl, h⟩ | ⟨rfl, h⟩ | ⟨rfl, h⟩ <;> subst h <;> rfl
  · exact hA.fr (by omega) hT (fun r _ h _ _ _ => wN h) (by rw [wS, uN (by decide)]) (by rw [wS, uN (by decide)])
theorem tiw_0 {β : Type} {A : Option (Sum Int32 β)} : tiw 0 A = A := by
  unfold tiw
  rw [if_neg (by decide), if_neg (by decide), if_neg (by decide)]
/-- a question -/
theorem op_qry (hA : AL T w) (hT : T + 40000 ≤ 1000000000) {x k v : Int32} {c1 c2 c3 : Option Int32} (hx : CK c1 c2 c3 x k) (Q : Option Int32) (F : Wl → Option Int32) (hQ : x = 0 → Q = some v) (hF : x = 0 → ∀ w6, w6 372 = w 372 → F w6 = some v) :
    ∃ w1, (tiw x (Q.bind (fun r => some (Sum.inr r)))).bind (lwR c1 c2 c3 w) = some (k, w1) ∧ w1 372 = w 372 ∧ ∃ b w2, (if ((wst w1 371 5 k) 371 5) = 0 then (F (wst w1 371 5 k)).bind (fun r4 => some (r4, wst w1 371 5 k)) else some ((0 : Int32), wst w1 371 5 k)) = some (b, w2) ∧ RES T w1 w2 k b := by
  by_cases h0 : x = 0
  · have hk : k = 0 := by
      rcases hx with ⟨-, h⟩ | ⟨-, ⟨h, -⟩ | ⟨h, -⟩ | ⟨h, -⟩⟩
      · exact h
      · rw [h0] at h; exact absurd h (by decide)
      · rw [h0] at h; exact absurd h (by decide)
      · rw [h0] at h; exact absurd h (by decide)
    replace hQ := hQ h0
    replace hF := hF h0
    subst h0 hk hQ
    refine ⟨wout w v.toInt64, by rw [tiw_0, ob, ob]; rfl, wout_o (by decide), ?_⟩
    have e5 : (wst (wout w v.toInt64) 371 5 0) 371 5 = 0 := by rw [wS, uS]
    have m5 : wst (wout w v.toInt64) 371 5 0 372 = w 372 := (wN (by decide)).trans (wout_o (by decide))
    refine ⟨v, wst (wout w v.toInt64) 371 5 0, by rw [if_pos e5, hF _ m5, ob], e5, fun _ => by rw [wN (by decide)]; exact wout_v, ?_⟩
    exact hA.fr (by omega) hT (fun r _ h _ _ h2 => (wN h).trans (wout_o (by omega))) (by rw [wS, uN (by decide), wout_o (by decide)]) (by rw [wS, uN (by decide), wout_o (by decide)])
  · obtain ⟨-, q2, q3, q4⟩ := op_thr hA hT hx h0 none (Q.bind (fun r => some (Sum.inr r))) ((F (wst w 371 5 k)).bind (fun r4 => some (r4, wst w 371 5 k)))
    exact ⟨w, q2, rfl, 0, wst w 371 5 k, q3, q4⟩
/-- a question that the class and the model answer with notes of their own -/
theorem op_scr (hA : AL T w) (hT : T + 40000 ≤ 1000000000) {x k v : Int32} {c1 c2 c3 : Option Int32} (hx : CK c1 c2 c3 x k) (Q : Option (Int32 × Wl)) (F : Wl → Option (Int32 × Wl)) (hQ : x = 0 → ∃ w4, Q = some (v, w4) ∧ ∀ r, r ≠ 77 → w4 r = w r) (hF : x = 0 → ∀ w6, w6 372 = w 372 → ∃ w7, F w6 = some (v, w7) ∧ ∀ r, r ≠ 375 → w7 r = w6 r) :
    ∃ w1, (tiw x (Q.bind (fun r => some (Sum.inr (r.1, r.2))))).bind (lwW c1 c2 c3 w) = some (k, w1) ∧ w1 372 = w 372 ∧ ∃ b w2, (if ((wst w1 371 5 k) 371 5) = 0 then F (wst w1 371 5 k) else some ((0 : Int32), wst w1 371 5 k)) = some (b, w2) ∧ RES T w1 w2 k b := by
  by_cases h0 : x = 0
  · have hk : k = 0 := by
      rcases hx with ⟨-, h⟩ | ⟨-, ⟨h, -⟩ | ⟨h, -⟩ | ⟨h, -⟩⟩
      · exact h
      · rw [h0] at h; exact absurd h (by decide)
      · rw [h0] at h; exact absurd h (by decide)
      · rw [h0] at h; exact absurd h (by decide)
    replace hF := hF h0
    replace hQ := hQ h0
    obtain ⟨w4, hQ, g4⟩ := hQ
    subst h0 hk hQ
    refine ⟨wout w4 v.toInt64, by rw [tiw_0, ob, ob]; rfl, (wout_o (by decide)).trans (g4 372 (by decide)), ?_⟩
    have e5 : (wst (wout w4 v.toInt64) 371 5 0) 371 5 = 0 := by rw [wS, uS]
    have m5 : wst (wout w4 v.toInt64) 371 5 0 372 = w 372 := (wN (by decide)).trans ((wout_o (by decide)).trans (g4 372 (by decide)))
    obtain ⟨w7, f1, f2⟩ := hF _ m5
    refine ⟨v, w7, by rw [if_pos e5, f1], by rw [f2 371 (by decide)]; exact e5, fun _ => by rw [f2 377 (by decide), wN (by decide)]; exact wout_v, ?_⟩
    refine hA.fr (by omega) hT (fun r g1 g2 g3 g4' g5 => ?_) ?_ ?_
    · rw [f2 r g3, wN g2, wout_o (by omega), g4 r g1]
    · rw [f2 371 (by decide), wS, uN (by decide), wout_o (by decide), g4 371 (by decide)]
    · rw [f2 371 (by decide), wS, uN (by decide), wout_o (by decide), g4 371 (by decide)]
  · obtain ⟨q1, -, q3, q4⟩ := op_thr hA hT hx h0 (Q.bind (fun r => some (Sum.inr (r.1, r.2)))) none (F (wst w 371 5 k))
    exact ⟨w, q1, rfl, 0, wst w 371 5 k, q3, q4⟩
end AB
