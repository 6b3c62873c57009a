/-! BOTH SIDES: texts, undo, digest -/
section BR
variable {w : Wl} {T : Nat}
theorem nar7 : ∀ k, k < 128 → vp_nar .byte (iN k).toInt8.toInt32 = iN k := by decide +kernel
theorem AL.mkT {w' : Wl} {T' n' : Nat} {t' : Nat → Nat} (hA : AL T w) (hT : T ≤ T') (hT' : T' ≤ 1000000000) (h : ∀ r, r ≠ 77 → r ≠ 368 → r ≠ 369 → r ≠ 371 → r ≠ 374 → r ≠ 375 → r ≠ 376 → r < 377 → w' r = w r) (h2 : w' 371 2 = w 371 2) (h4 : w' 368 4 = w 368 4) (hc : TC w' n' t') (hm : TM w' n' t') : AL T' w' := by
  obtain ⟨a, b, ⟨n, p, P, c, d, e⟩, -, ⟨f, f1, f2⟩⟩ := hA
  have em : w' 372 = w 372 := h 372 (by decide) (by decide) (by decide) (by decide) (by decide) (by decide) (by decide) (by decide)
  refine ⟨?_, by rw [em]; exact b.mT hT hT', ⟨n, p, P, ?_, ?_, fun j hj => (e j hj).mT hT hT'⟩, ⟨n', t', hc, hm⟩, f, f1, h4.trans f2⟩
  · rw [em]; exact a.same (fun r g1 g2 => h r (by omega) (by omega) (by omega) (by omega) (by omega) (by omega) (by omega) (by omega)) b.ic12 b.iw16
  · exact c.fr (fun r g1 g2 => h r (by omega) (by omega) (by omega) (by omega) (by omega) (by omega) (by omega) (by omega)) (fun j hj => ⟨(e j hj).ic12, (e j hj).iw16⟩)
  · exact d.fr h2 (h 373 (by decide) (by decide) (by decide) (by decide) (by decide) (by decide) (by decide) (by decide))
theorem b_clear (hA : AL T w) (hT : T + 40000 ≤ 1000000000) : ∃ a w1, sX12_clearCommands w = some (a, w1) ∧ ∃ w2, sX13_clearCommands w1 = some (a, w2) ∧ AL (T + 40000) w2 := by
  obtain ⟨n, t, hc, hm⟩ := hA.2.2.2.1
  refine ⟨w 368 1, wst w 368 1 (0 : Int32), rfl, wst (wst (wst w 368 1 (0 : Int32)) 371 5 (0 : Int32)) 371 4 (0 : Int32), ?_, ?_⟩
  · unfold sX13_clearCommands
    congr 2
    rw [wS, uN (by decide), wN (by decide), hm.2.1, hc.2.1]
  · refine hA.mkT (n' := 0) (t' := t) (by omega) hT (fun r _ h1 _ h2 _ _ _ _ => by rw [wN h2, wN h2, wN h1]) ?_ ?_ ?_ ?_
    · rw [wS, uN (by decide), wS, uN (by decide), wN (by decide)]
    · rw [wN (by decide), wN (by decide), wS, uN (by decide)]
    · refine ⟨by decide, ?_, fun j hj => absurd hj (Nat.not_lt_zero j)⟩
      rw [wN (by decide), wN (by decide), wS, uS]; rfl
    · refine ⟨by decide, ?_, fun j hj => absurd hj (Nat.not_lt_zero j)⟩
      rw [wS, uS]; rfl
theorem e1_ofByte {n : Nat} {l : Int32} (hn : n ≤ 150) : sX1_ofByte w l (iN n) = some (f3 true (rng 0 127 l) (room n 150)) := by
  unfold sX1_ofByte room
  rw [e1_in, ob]
  by_cases h : 150 ≤ n
  · rw [if_pos (show (150 : Int32) ≤ iN n from (iN_le (a := 150) (by decide) (by omega)).mpr h), if_pos h]
    cases rng 0 127 l <;> rfl
  · rw [if_neg (show ¬ (150 : Int32) ≤ iN n from fun q => h ((iN_le (a := 150) (by decide) (by omega)).mp q)), if_neg h]
    cases rng 0 127 l <;> rfl
theorem e13_type {n : Nat} {l : Int32} (hn : n ≤ 150) (h4 : w 371 4 = iN n) : sX13_type w l = sX13_type_30 w l (ksel 0 1 2 true (rng 0 127 l) (room n 150)) := by
  unfold sX13_type
  rw [e13_rng, ob, h4, show (150 : Int32) = iN 150 from rfl, full_if hn (by decide)]
  cases rng 0 127 l
  · simp only [iF, ks2]
  · cases room n 150
    · simp only [iF, iT, if_true, ks3]
    · simp only [iT, if_true, ks0]
theorem b_type (hA : AL T w) (hT : T + 40000 ≤ 1000000000) (l1 : Int32) : OPR T w (sL_type w l1) (fun w1 => sX13_type w1 l1) := by
  obtain ⟨n, t, hc, hm⟩ := id hA.2.2.2.1
  have hn := hc.1
  have ck : CK none (some 1) (some 2) (f3 true (rng 0 127 l1) (room n 150)) (ksel 0 1 2 true (rng 0 127 l1) (room n 150)) := CK_f3 (Or.inl rfl) (Or.inr ⟨rfl, by decide⟩) (Or.inr ⟨rfl, by decide⟩)
  by_cases h0 : f3 true (rng 0 127 l1) (room n 150) = 0
  · obtain ⟨-, g1, g2⟩ := f3_0 h0
    obtain ⟨k, -, hk, rfl⟩ := rng_n (a := 0) (b := 127) (by decide) (by decide) g1
    have hn' := room_t g2
    have ek : vp_nar .byte (iN k).toInt8.toInt32 = iN k := nar7 k (by omega)
    refine ⟨0, wout (wst (wst w 369 n (iN k)) 368 1 (iN (n + 1))) (iN (n + 1)).toInt64, ?_, iN (n + 1), wst (wst (wst (wout (wst (wst w 369 n (iN k)) 368 1 (iN (n + 1))) (iN (n + 1)).toInt64) 371 5 (0 : Int32)) 374 n (iN k)) 371 4 (iN (n + 1)), ?_, ?_, fun _ => by rw [wN (by decide), wN (by decide), wN (by decide)]; exact wout_v, ?_⟩
    · unfold sL_type sX12_type sX2_append
      rw [hc.2.1, e1_ofByte hn, ob, h0, tiw_0, idx_iN hn' (by decide), ob, ob, ek]
      have e : (wst w 369 n (iN k)) 368 1 = iN n := by rw [wN (by decide)]; exact hc.2.1
      rw [e, iN_s]
      have e2 : (wst (wst w 369 n (iN k)) 368 1 (iN (n + 1))) 368 1 = iN (n + 1) := by rw [wS, uS]
      rw [e2, ob]
      rfl
    · show sX13_type _ (iN k) = _
      have e4 : (wout (wst (wst w 369 n (iN k)) 368 1 (iN (n + 1))) (iN (n + 1)).toInt64) 371 4 = iN n := by rw [wout_o (by decide), wN (by decide), wN (by decide)]; exact hm.2.1
      rw [e13_type hn e4, g1, g2, ks0]
      generalize wout (wst (wst w 369 n (iN k)) 368 1 (iN (n + 1))) (iN (n + 1)).toInt64 = w1 at e4
      unfold sX13_type_30
      have e5 : (wst w1 371 5 (0 : Int32)) 371 5 = 0 := by rw [wS, uS]
      have e6 : (wst w1 371 5 (0 : Int32)) 371 4 = iN n := by rw [wS, uN (by decide)]; exact e4
      rw [if_pos e5, e6, idx_iN hn' (by decide), ob]
      have e7 : (wst (wst w1 371 5 (0 : Int32)) 374 n (iN k)) 371 4 = iN n := by rw [wN (by decide)]; exact e6
      rw [e7, iN_s]
      have e8 : (wst (wst (wst w1 371 5 (0 : Int32)) 374 n (iN k)) 371 4 (iN (n + 1))) 371 4 = iN (n + 1) := by rw [wS, uS]
      rw [e8]
    · rw [wS, uN (by decide), wN (by decide), wS, uS]
    · refine hA.mkT (n' := n + 1) (t' := fun j => if j = n then k else t j) (by omega) hT (fun r _ h1 h2 h3 h4 _ _ h5 => by rw [wN h3, wN h4, wN h3, wout_o (by omega), wN h1, wN h2]) ?_ ?_ ?_ ?_
      · rw [wS, uN (by decide), wN (by decide), wS, uN (by decide), wout_o (by decide), wN (by decide), wN (by decide)]
      · rw [wN (by decide), wN (by decide), wN (by decide), wout_o (by decide), wS, uN (by decide), wN (by decide)]
      · refine ⟨by omega, ?_, fun j hj => ?_⟩
        · rw [wN (by decide), wN (by decide), wN (by decide), wout_o (by decide), wS, uS]
        · rw [wN (by decide), wN (by decide), wN (by decide), wout_o (by decide), wN (by decide), wS]
          show upd (w 369) n (iN k) j = iN (if j = n then k else t j) ∧ (if j = n then k else t j) < 128
          by_cases e : j = n
          · rw [e, uS, if_pos rfl]; exact ⟨rfl, by omega⟩
          · rw [uN e, if_neg e]; exact hc.2.2 j (by omega)
      · refine ⟨by omega, ?_, fun j hj => ?_⟩
        · rw [wS, uS]
        · rw [wN (by decide), wS, wN (by decide), wout_o (by decide), wN (by decide), wN (by decide)]
          show upd (w 374) n (iN k) j = iN (if j = n then k else t j) ∧ (if j = n then k else t j) < 128
          by_cases e : j = n
          · rw [e, uS, if_pos rfl]; exact ⟨rfl, by omega⟩
          · rw [uN e, if_neg e]; exact hm.2.2 j (by omega)
  · obtain ⟨q1, -, q3, q4⟩ := op_thr hA hT ck h0 ((sX2_append w l1).bind (fun r3 => some (Sum.inr (r3.1, r3.2)))) none ((idx ((wst w 371 5 (ksel 0 1 2 true (rng 0 127 l1) (room n 150))) 371 4) 150).bind (fun c4 => some (((wst (wst (wst w 371 5 (ksel 0 1 2 true (rng 0 127 l1) (room n 150))) 374 c4 l1) 371 4 (((wst (wst w 371 5 (ksel 0 1 2 true (rng 0 127 l1) (room n 150))) 374 c4 l1) 371 4) + (1 : Int32))) 371 4), (wst (wst (wst w 371 5 (ksel 0 1 2 true (rng 0 127 l1) (room n 150))) 374 c4 l1) 371 4 (((wst (wst w 371 5 (ksel 0 1 2 true (rng 0 127 l1) (room n 150))) 374 c4 l1) 371 4) + (1 : Int32))))))
    refine ⟨_, w, ?_, 0, _, ?_, q4⟩
    · unfold sL_type sX12_type
      rw [hc.2.1, e1_ofByte hn, ob]
      exact q1
    · show sX13_type w l1 = _
      rw [e13_type hn hm.2.1]
      exact q3
theorem b_undo (hA : AL T w) (hT : T + 40000 ≤ 1000000000) : OPR T w (sL_undo w) (fun w1 => sX13_undo w1) := by
  obtain ⟨a, b, ⟨n, p, P, c, d, e⟩, ⟨tn, t, hc, hm⟩, ⟨f, f1, f2⟩⟩ := id hA
  have hn := c.1
  cases n with
  | zero =>
    obtain ⟨q1, -, q3, q4⟩ := op_thr hA hT (x := 3) (k := 1) (c1 := none) (c2 := none) (c3 := some 1) (Or.inr ⟨by decide, Or.inr (Or.inr ⟨rfl, rfl⟩)⟩) (by decide) ((sX7_restore w 1).bind (fun r2 => some (Sum.inr (r2.1, r2.2)))) none (sX13_undo_37 FU (wst (wst w 371 5 1) 371 2 (((wst w 371 5 1) 371 2) - (1 : Int32))) (0 : Int32))
    refine ⟨1, w, ?_, 0, _, ?_, q4⟩
    · unfold sL_undo sX12_undo
      rw [c.2.1, if_pos (show iN 0 ≤ 0 by decide)]
      exact q1
    · show sX13_undo w = _
      unfold sX13_undo
      rw [d.2.1, if_pos (show iN 0 = 0 from rfl)]
      exact q3
  | succ n =>
    have hPP : ∀ j, j < n + 1 → nC (P j) ≤ 12 ∧ nW (P j) ≤ 16 := fun j hj => ⟨(e j hj).ic12, (e j hj).iw16⟩
    obtain ⟨w4, k1, k2, k3, k4⟩ := c_restore c hPP
    have o1 : ∀ r, (r < 1 ∨ 73 ≤ r) → r ≠ 78 → r ≠ 377 → wout w4 (iN n).toInt64 r = w r := fun r h1 h2 h3 => (wout_o h3).trans (k4 r h1 h2)
    have o2 : ∀ r, r ≠ 377 → wout w4 (iN n).toInt64 r = w4 r := fun r h => wout_o h
    have ov : lofW (wout w4 (iN n).toInt64 377 0) (wout w4 (iN n).toInt64 377 1) = (iN n).toInt64 := wout_v
    have cl : sL_undo w = some (0, wout w4 (iN n).toInt64) := by
      unfold sL_undo sX12_undo
      rw [c.2.1, if_neg (show ¬ iN (n + 1) ≤ 0 from fun q => by have := (iN_le (b := 0) (by omega) (by decide)).mp q; omega), tiw_0, k1, ob, ob]
      rfl
    generalize wout w4 (iN n).toInt64 = w1 at o1 o2 ov cl
    have i2 : w1 371 2 = iN (n + 1) := by rw [o1 371 (by decide) (by decide) (by decide)]; exact d.2.1
    have o5 : ∀ r, r ≠ 371 → wst (wst w1 371 5 (0 : Int32)) 371 2 (iN n) r = w1 r := fun r h => (wN h).trans (wN h)
    have j2 : wst (wst w1 371 5 (0 : Int32)) 371 2 (iN n) 371 2 = iN n := by rw [wS, uS]
    have j5 : wst (wst w1 371 5 (0 : Int32)) 371 2 (iN n) 371 5 = 0 := by rw [wS, uN (by decide), wS, uS]
    have j4 : wst (wst w1 371 5 (0 : Int32)) 371 2 (iN n) 371 4 = w 371 4 := by rw [wS, uN (by decide), wS, uN (by decide), o1 371 (by decide) (by decide) (by decide)]
    have mo : sX13_undo w1 = sX13_undo_37 FU (wst (wst w1 371 5 (0 : Int32)) 371 2 (iN n)) (0 : Int32) := by
      unfold sX13_undo
      rw [i2, if_neg (show ¬ iN (n + 1) = 0 from fun q => by have := (iN_eq (b := 0) (by omega) (by decide)).mp q; omega)]
      unfold sX13_undo_13
      have e5 : (wst w1 371 5 (0 : Int32)) 371 5 = 0 := by rw [wS, uS]
      have e2 : (wst w1 371 5 (0 : Int32)) 371 2 = iN (n + 1) := by rw [wS, uN (by decide)]; exact i2
      rw [if_pos e5, e2, iN_p]
    generalize wst (wst w1 371 5 (0 : Int32)) 371 2 (iN n) = w6 at o5 j2 j5 j4 mo
    have g3 : w6 373 = w 373 := (o5 373 (by decide)).trans (o1 373 (by decide) (by decide) (by decide))
    obtain ⟨w7, z1, z2, z3⟩ := e13_undo_37 (w := w6) (P := P) (show n < 4 by omega) j2 (fun i g1 g2 => by
      show w6 373 (541 * n + i) = _
      rw [g3]; exact d.2.2 n (by omega) i g1 g2)
    have o7 : ∀ r, r ≠ 371 → r ≠ 372 → r ≠ 377 → w7 r = w4 r := fun r h1 h2 h3 => (z3 r h2).trans ((o5 r h1).trans (o2 r h3))
    have En := e n (by omega)
    have o8 : ∀ r, 73 ≤ r → r ≠ 78 → r ≠ 371 → r ≠ 372 → r ≠ 377 → w7 r = w r := fun r h1 h2 h3 h4 h5 => (o7 r h3 h4 h5).trans (k4 r (Or.inr h1) h2)
    refine ⟨0, w1, cl, iN n, w7, mo.trans z1, ?_, fun _ => by rw [z3 377 (by decide), o5 377 (by decide)]; exact ov, ?_⟩
    · rw [z3 371 (by decide)]; exact j5
    refine hA.mk' (by omega) hT rfl ?_ ((En.cg z2).mT (by omega) hT) ⟨n, p, P, ?_, ?_, fun j hj => (e j (by omega)).mT (by omega) hT⟩ ?_ ⟨f, f1, ?_⟩ ?_ ?_ ?_
    · exact (k3.same (fun r g1 g2 => o7 r (by omega) (by omega) (by omega)) En.ic12 En.iw16).cg z2 En.ic12 En.iw16 En.ik4
    · exact k2.fr (fun r g1 g2 => o7 r (by omega) (by omega) (by omega)) (fun j hj => hPP j (by omega))
    · refine ⟨by omega, by rw [z3 371 (by decide)]; exact j2, fun j hj i g1 g2 => ?_⟩
      show w7 373 (541 * j + i) = _
      rw [z3 373 (by decide), g3]
      exact d.2.2 j (by omega) i g1 g2
    · rw [o8 368 (by decide) (by decide) (by decide) (by decide) (by decide)]
    · rw [o8 368 (by decide) (by decide) (by decide) (by decide) (by decide)]; exact f2
    · exact o8 369 (by decide) (by decide) (by decide) (by decide) (by decide)
    · rw [z3 371 (by decide)]; exact j4
    · exact o8 374 (by decide) (by decide) (by decide) (by decide) (by decide)
theorem b_run (hA : AL T w) (hT : T + 40000 ≤ 1000000000) : ∃ a w1, sX12_runCommands w = some (a, w1) ∧ ∃ w2, sX13_runCommands w1 = some (a, w2) ∧ AL (T + 40000) w2 := by
  obtain ⟨a, b, ⟨n, p, P, c, d, e⟩, ⟨tn, t, hc, hm⟩, ⟨f, f1, f2⟩⟩ := id hA
  obtain ⟨x1, x2⟩ := c_runCommands hc f1 f2 a b (by omega) c e
  cases hf : flt tn t 150 0 with
  | some x =>
    obtain ⟨w1, D', q1, q2, q3, q4, q5⟩ := x1 x hf
    have m1 : w1 372 = w 372 := q3 372 (by decide) (by decide)
    have M1 : TM w1 tn t := ⟨hm.1, by rw [q3 371 (by decide) (by decide)]; exact hm.2.1, fun j hj => by rw [q3 374 (by decide) (by decide)]; exact hm.2.2 j hj⟩
    have U1 : UM w1 n P := d.fr (by rw [q3 371 (by decide) (by decide)]) (q3 373 (by decide) (by decide))
    obtain ⟨y1, -⟩ := e13_runCommands (T := T) M1 (by rw [m1]; exact b) (by omega) U1 ⟨w, by rw [m1]; exact a⟩
    obtain ⟨w2, r1, r2, r3, r4, r5⟩ := y1 x hf
    refine ⟨_, w1, q1, w2, r1, ?_⟩
    have o : ∀ r, r ≠ 368 → r ≠ 370 → r ≠ 371 → r ≠ 376 → w2 r = w r := fun r h1 h2 h3 h4 => (r5 r h3 h4).trans (q3 r h1 h2)
    have i8 : w2 368 = w1 368 := r5 368 (by decide) (by decide)
    refine hA.mk' (by omega) hT (o 372 (by decide) (by decide) (by decide) (by decide)) (a.same (fun r g1 g2 => o r (by omega) (by omega) (by omega) (by omega)) b.ic12 b.iw16) (b.mT (by omega) hT) ⟨n, p, P, ?_, ?_, fun j hj => (e j hj).mT (by omega) hT⟩ ?_ ⟨D', q4, by rw [i8]; exact q5⟩ (o 369 (by decide) (by decide) (by decide) (by decide)) ?_ (o 374 (by decide) (by decide) (by decide) (by decide))
    · exact c.fr (fun r g1 g2 => o r (by omega) (by omega) (by omega) (by omega)) (fun j hj => ⟨(e j hj).ic12, (e j hj).iw16⟩)
    · exact U1.fr r3 (r5 373 (by decide) (by decide))
    · rw [i8]; exact q2.2
    · rw [r4, q3 371 (by decide) (by decide)]
  | none =>
    obtain ⟨w1, D', p', q1, q2, q3, q4, q5, q6, q7, q8, q9⟩ := x2 hf
    have m1 : w1 372 = w 372 := q5 372 (by decide) (by decide)
    have M1 : TM w1 tn t := ⟨hm.1, by rw [q5 371 (by decide) (by decide)]; exact hm.2.1, fun j hj => by rw [q5 374 (by decide) (by decide)]; exact hm.2.2 j hj⟩
    have U1 : UM w1 n P := d.fr (by rw [q5 371 (by decide) (by decide)]) (q5 373 (by decide) (by decide))
    obtain ⟨-, y2⟩ := e13_runCommands (T := T) M1 (by rw [m1]; exact b) (by omega) U1 ⟨w, by rw [m1]; exact a⟩
    obtain ⟨w2, r1, r2, r3, r4, r5, r6⟩ := y2 hf
    rw [m1] at r1 r4 r5
    refine ⟨_, w1, q1, w2, r1, ?_⟩
    have hI2 := q3.mT (show T + 36000 ≤ T + 40000 by omega) hT
    have i8 : w2 368 = w1 368 := r6 368 (by decide) (by decide) (by decide) (by decide)
    refine hA.mk' (by omega) hT r4 (q2.same (fun r g1 g2 => r6 r (by omega) (by omega) (by omega) (by omega)) hI2.ic12 hI2.iw16) hI2 ⟨pushN n, p', pushP n P (w 372), ?_, r5, ?_⟩ ?_ ⟨D', q8, by rw [i8]; exact q9⟩ ?_ ?_ ?_
    · exact q4.fr (fun r g1 g2 => r6 r (by omega) (by omega) (by omega) (by omega)) (push_all (Q := fun m => nC m ≤ 12 ∧ nW m ≤ 16) c.1 (fun j hj => ⟨(e j hj).ic12, (e j hj).iw16⟩) ⟨b.ic12, b.iw16⟩)
    · exact push_all (Q := fun m => Iv (T + 40000) 12 m) c.1 (fun j hj => (e j hj).mT (by omega) hT) (b.mT (by omega) hT)
    · rw [i8]; exact q7
    · exact (r6 369 (by decide) (by decide) (by decide) (by decide)).trans (q5 369 (by decide) (by decide))
    · rw [r3, q5 371 (by decide) (by decide)]
    · exact (r6 374 (by decide) (by decide) (by decide) (by decide)).trans (q5 374 (by decide) (by decide))
theorem b_digest (hA : AL T w) (hT : T + 40000 ≤ 1000000000) : ∃ a w1, sX12_digest w = some (a, w1) ∧ ∃ w2, sX13_digest w1 = some (a, w2) ∧ AL (T + 40000) w2 := by
  obtain ⟨a, b, ⟨n, p, P, c, d, e⟩, ⟨tn, t, hc, hm⟩, ⟨f, f1, f2⟩⟩ := id hA
  obtain ⟨w1, q1, q2⟩ := e12_digest a b
  have m1 : w1 372 = w 372 := q2 372 (by decide)
  obtain ⟨w2, r1, r2, r3, r4⟩ := e13_digest (w := w1) (T := T) (z := 12) (by rw [m1]; exact b)
  refine ⟨_, w1, q1, w2, ?_, ?_⟩
  · rw [r1, m1, q2 371 (by decide), d.2.1, hm.2.1, c.2.1, hc.2.1]
  · exact hA.fr (by omega) hT (fun r h1 h2 h3 h4 h5 => (r3 r h2 h3).trans (q2 r h1)) (by rw [r4 2 (by decide) (by decide) (by decide), q2 371 (by decide)]) (by rw [r4 4 (by decide) (by decide) (by decide), q2 371 (by decide)])
end BR
