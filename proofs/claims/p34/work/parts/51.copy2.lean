/-! COPIES OF STATES: the class's -/
section CQ
variable {T z : Nat} {m m' a : Nat → Int32} {w w' : Wl}
def jV (w s : Wl) (q0 q1 n : Nat) : Prop := ∀ v, v < n → (∀ j, j < 5 → s (q0 + 12 + 2 * v) j = w (q1 + 12 + 2 * v) j) ∧ ∀ j, j < 8 → s (q0 + 12 + 2 * v + 1) j = w (q1 + 12 + 2 * v + 1) j
def jCr (w s : Wl) (q0 q1 n : Nat) : Prop := ∀ c, c < n → ∀ j, j < 10 → s (q0 + 28 + c) j = w (q1 + 28 + c) j
def jWk (w s : Wl) (q0 q1 n : Nat) : Prop := ∀ i, i < n → (∀ j, j < 8 → s (q0 + 40 + 2 * i) j = w (q1 + 40 + 2 * i) j) ∧ ∀ j, j < 10 → s (q0 + 40 + 2 * i + 1) j = w (q1 + 40 + 2 * i + 1) j
def jLe (w s : Wl) (q0 q1 n : Nat) : Prop := ∀ l, l < n → ∀ j, j < 4 → s (q0 + 6 + l) j = w (q1 + 6 + l) j
def jO (w s : Wl) (q0 q1 : Nat) : Prop := (∀ r, r < q0 ∨ q0 + 72 ≤ r → s r = w r) ∧ ∀ j, j < 9 → s q0 j = w q1 j
theorem c_copyFrom {q0 q1 : Nat} (hd : q0 + 72 ≤ q1 ∨ q1 + 72 ≤ q0) (hc : ∀ c, c < 12 → w (q1 + 28 + c) 1 = 0 ∨ w (q1 + 28 + c) 1 = 1) (hwk : ∀ i, i < 16 → w (q1 + 40 + 2 * i) 3 = 0 ∨ w (q1 + 40 + 2 * i) 3 = 1) : ∃ w', sX6_copyFrom w q0 q1 = some w' ∧ blk2 w w' q1 q0 ∧ ∀ r, r < q0 ∨ q0 + 72 ≤ r → w' r = w r := by
  unfold sX6_copyFrom
  simp only [wN (show q1 ≠ q0 by omega)]
  generalize hs0 : wst (wst (wst (wst (wst (wst (wst (wst (wst w q0 0 (w q1 0)) q0 1 (w q1 1)) q0 2 (w q1 2)) q0 3 (w q1 3)) q0 4 (w q1 4)) q0 5 (w q1 5)) q0 6 (w q1 6)) q0 7 (w q1 7)) q0 8 (w q1 8) = s0
  have h0 : jO w s0 q0 q1 := by
    refine ⟨fun r hr => by rw [← hs0]; simp (disch := omega) only [wN], fun j hj => ?_⟩
    rw [← hs0]
    simp only [wS]
    rcases (by omega : j = 0 ∨ j = 1 ∨ j = 2 ∨ j = 3 ∨ j = 4 ∨ j = 5 ∨ j = 6 ∨ j = 7 ∨ j = 8) with rfl | rfl | rfl | rfl | rfl | rfl | rfl | rfl | rfl <;> simp (disch := omega) only [uS, uN]
  clear hs0
  -- venues
  obtain ⟨s1, ⟨g1, g2⟩, g3⟩ := loopB (L := fun n s l => sX6_copyFrom_74 n s q0 q1 l) (N := 8) (fin := fun (_ : Unit) s => sX6_copyFrom_103 FU s q0 q1 (0 : Int32)) (f := fun _ u => u) (fun v _ s => jO w s q0 q1 ∧ jV w s q0 q1 v) (fun n _ s _ => by
      show sX6_copyFrom_74 (n + 1) s q0 q1 (iN 8) = _
      rw [sX6_copyFrom_74.eq_2, if_pos (by decide)]) (fun n _ s v hv hs => by
      obtain ⟨⟨o1, o2⟩, o3⟩ := hs
      have e0 : q0 + 1 + 11 + 2 * v = q0 + 12 + 2 * v := by omega
      have e1 : q1 + 1 + 11 + 2 * v = q1 + 12 + 2 * v := by omega
      obtain ⟨s', p1, p2, p3, p4⟩ := cp9 (w := s) (o0 := q0 + 12 + 2 * v) (o1 := q1 + 12 + 2 * v) (by omega) (by omega) (by omega) (by omega)
      refine ⟨s', ⟨⟨fun r hr => by rw [p4 r (by omega) (by omega)]; exact o1 r hr, fun j hj => by rw [p4 q0 (by omega) (by omega)]; exact o2 j hj⟩, fun u hu => ?_⟩, ?_⟩
      · by_cases e : u = v
        · subst e
          refine ⟨fun j hj => ?_, fun j hj => ?_⟩
          · rw [p2 j hj, o1 _ (by omega)]
          · rw [p3 j hj, o1 _ (by omega)]
        · rw [p4 _ (by omega) (by omega), p4 _ (by omega) (by omega)]
          exact o3 u (by omega)
      · show sX6_copyFrom_74 (n + 1) s q0 q1 (iN v) = sX6_copyFrom_74 n s' q0 q1 (iN (v + 1))
        rw [sX6_copyFrom_74.eq_2, if_neg (fun q => by have := (iN_le (a := 8) (by decide) (by omega)).mp q; omega), idx_iN hv (by decide), ob, e0, e1, p1, ob, iN_s]) 8 0 () s0 FU (by omega) (by decide) ⟨h0, fun v hv => by omega⟩
  refine (show sX6_copyFrom_74 FU s0 q0 q1 (0 : Int32) = sX6_copyFrom_103 FU s1 q0 q1 (0 : Int32) from g3) ▸ ?_
  clear g3 h0 s0
  -- crates
  obtain ⟨s2, ⟨k1, k2, k3⟩, k4⟩ := loopB (L := fun n s l => sX6_copyFrom_103 n s q0 q1 l) (N := 12) (fin := fun (_ : Unit) s => sX6_copyFrom_132 FU s q0 q1 (0 : Int32)) (f := fun _ u => u) (fun c _ s => jO w s q0 q1 ∧ jV w s q0 q1 8 ∧ jCr w s q0 q1 c) (fun n _ s _ => by
      show sX6_copyFrom_103 (n + 1) s q0 q1 (iN 12) = _
      rw [sX6_copyFrom_103.eq_2, if_pos (by decide)]) (fun n _ s c hcc hs => by
      obtain ⟨⟨o1, o2⟩, o3, o4⟩ := hs
      have e0 : q0 + 2 + 26 + c = q0 + 28 + c := by omega
      have e1 : q1 + 2 + 26 + c = q1 + 28 + c := by omega
      obtain ⟨s', p1, p2, p4⟩ := cp3 (w := s) (o0 := q0 + 28 + c) (o1 := q1 + 28 + c) (by omega) (by rw [o1 _ (by omega)]; exact hc c hcc)
      refine ⟨s', ⟨⟨fun r hr => by rw [p4 r (by omega)]; exact o1 r hr, fun j hj => by rw [p4 q0 (by omega)]; exact o2 j hj⟩, fun v hv => by rw [p4 _ (by omega), p4 _ (by omega)]; exact o3 v hv, fun d hd' j hj => ?_⟩, ?_⟩
      · by_cases e : d = c
        · subst e
          rw [p2 j hj, o1 _ (by omega)]
        · rw [p4 _ (by omega)]
          exact o4 d (by omega) j hj
      · show sX6_copyFrom_103 (n + 1) s q0 q1 (iN c) = sX6_copyFrom_103 n s' q0 q1 (iN (c + 1))
        rw [sX6_copyFrom_103.eq_2, if_neg (fun q => by have := (iN_le (a := 12) (by decide) (by omega)).mp q; omega), idx_iN hcc (by decide), ob, e0, e1, p1, ob, iN_s]) 12 0 () s1 FU (by omega) (by decide) ⟨g1, g2, fun v hv => by omega⟩
  refine (show sX6_copyFrom_103 FU s1 q0 q1 (0 : Int32) = sX6_copyFrom_132 FU s2 q0 q1 (0 : Int32) from k4) ▸ ?_
  clear k4 g1 g2 s1
  -- works
  obtain ⟨s3, ⟨l1, l2, l3, l4⟩, l5⟩ := loopB (L := fun n s l => sX6_copyFrom_132 n s q0 q1 l) (N := 16) (fin := fun (_ : Unit) s => sX6_copyFrom_175 FU (wrow s (q0 + 4) (va_cpy (s (q1 + 4)) (s (q0 + 4)) 0 0 4)) q0 q1 (0 : Int32)) (f := fun _ u => u) (fun i _ s => jO w s q0 q1 ∧ jV w s q0 q1 8 ∧ jCr w s q0 q1 12 ∧ jWk w s q0 q1 i) (fun n _ s _ => by
      show sX6_copyFrom_132 (n + 1) s q0 q1 (iN 16) = _
      rw [sX6_copyFrom_132.eq_2, if_pos (by decide)]) (fun n _ s i hi hs => by
      obtain ⟨⟨o1, o2⟩, o3, o4, o5⟩ := hs
      have e0 : q0 + 3 + 37 + 2 * i = q0 + 40 + 2 * i := by omega
      have e1 : q1 + 3 + 37 + 2 * i = q1 + 40 + 2 * i := by omega
      obtain ⟨s', p1, p2, p3, p4⟩ := cp11 (w := s) (o0 := q0 + 40 + 2 * i) (o1 := q1 + 40 + 2 * i) (by omega) (by omega) (by omega) (by omega) (by rw [o1 _ (by omega)]; exact hwk i hi)
      refine ⟨s', ⟨⟨fun r hr => by rw [p4 r (by omega) (by omega)]; exact o1 r hr, fun j hj => by rw [p4 q0 (by omega) (by omega)]; exact o2 j hj⟩, fun v hv => by rw [p4 _ (by omega) (by omega), p4 _ (by omega) (by omega)]; exact o3 v hv, fun d hd' j hj => by rw [p4 _ (by omega) (by omega)]; exact o4 d hd' j hj, fun u hu => ?_⟩, ?_⟩
      · by_cases e : u = i
        · subst e
          refine ⟨fun j hj => ?_, fun j hj => ?_⟩
          · rw [p2 j hj, o1 _ (by omega)]
          · rw [p3 j hj, o1 _ (by omega)]
        · rw [p4 _ (by omega) (by omega), p4 _ (by omega) (by omega)]
          exact o5 u (by omega)
      · show sX6_copyFrom_132 (n + 1) s q0 q1 (iN i) = sX6_copyFrom_132 n s' q0 q1 (iN (i + 1))
        rw [sX6_copyFrom_132.eq_2, if_neg (fun q => by have := (iN_le (a := 16) (by decide) (by omega)).mp q; omega), idx_iN hi (by decide), ob, e0, e1, p1, ob, iN_s]) 16 0 () s2 FU (by omega) (by decide) ⟨k1, k2, k3, fun v hv => by omega⟩
  refine (show sX6_copyFrom_132 FU s2 q0 q1 (0 : Int32) = sX6_copyFrom_175 FU (wrow s3 (q0 + 4) (va_cpy (s3 (q1 + 4)) (s3 (q0 + 4)) 0 0 4)) q0 q1 (0 : Int32) from l5) ▸ ?_
  clear l5 k1 k2 k3 s2
  -- couriers
  generalize hs4 : wrow s3 (q0 + 4) (va_cpy (s3 (q1 + 4)) (s3 (q0 + 4)) 0 0 4) = s4
  have o4 : ∀ r, r ≠ q0 + 4 → s4 r = s3 r := fun r hr => by rw [← hs4, rN hr]
  have c4 : ∀ k, k < 4 → s4 (q0 + 4) k = w (q1 + 4) k := fun k hk => by
    rw [← hs4, rS]
    unfold va_cpy
    rw [if_pos (by omega), show 0 + (k - 0) = k by omega, l1.1 _ (by omega)]
  clear hs4
  -- lenders
  obtain ⟨s5, ⟨⟨y1, y2⟩, y3, y4, y5, y6, y7⟩, y8⟩ := loopB (L := fun n s l => sX6_copyFrom_175 n s q0 q1 l) (N := 6) (fin := fun (_ : Unit) s => some s) (f := fun _ u => u) (fun l _ s => jO w s q0 q1 ∧ jV w s q0 q1 8 ∧ jCr w s q0 q1 12 ∧ jWk w s q0 q1 16 ∧ (∀ k, k < 4 → s (q0 + 4) k = w (q1 + 4) k) ∧ jLe w s q0 q1 l) (fun n _ s _ => by
      show sX6_copyFrom_175 (n + 1) s q0 q1 (iN 6) = _
      rw [sX6_copyFrom_175.eq_2, if_pos (by decide)]) (fun n _ s l hl hs => by
      obtain ⟨⟨o1, o2⟩, o3, o4, o5, o6, o7⟩ := hs
      have e0 : q0 + 5 + 1 + l = q0 + 6 + l := by omega
      have e1 : q1 + 5 + 1 + l = q1 + 6 + l := by omega
      have p4 : ∀ r, r ≠ q0 + 6 + l → wrow s (q0 + 6 + l) (va_cpy (s (q1 + 6 + l)) (s (q0 + 6 + l)) 0 0 4) r = s r := fun r hr => rN hr
      refine ⟨wrow s (q0 + 6 + l) (va_cpy (s (q1 + 6 + l)) (s (q0 + 6 + l)) 0 0 4), ⟨⟨fun r hr => by rw [p4 r (by omega)]; exact o1 r hr, fun j hj => by rw [p4 q0 (by omega)]; exact o2 j hj⟩, fun v hv => by rw [p4 _ (by omega), p4 _ (by omega)]; exact o3 v hv, fun d hd' j hj => by rw [p4 _ (by omega)]; exact o4 d hd' j hj, fun i hi => by rw [p4 _ (by omega), p4 _ (by omega)]; exact o5 i hi, fun k hk => by rw [p4 _ (by omega)]; exact o6 k hk, fun u hu j hj => ?_⟩, ?_⟩
      · by_cases e : u = l
        · subst e
          rw [rS]
          unfold va_cpy
          rw [if_pos (by omega), show 0 + (j - 0) = j by omega, o1 _ (by omega)]
        · rw [p4 _ (by omega)]
          exact o7 u (by omega) j hj
      · show sX6_copyFrom_175 (n + 1) s q0 q1 (iN l) = sX6_copyFrom_175 n _ q0 q1 (iN (l + 1))
        rw [sX6_copyFrom_175.eq_2, if_neg (fun q => by have := (iN_le (a := 6) (by decide) (by omega)).mp q; omega), idx_iN hl (by decide), ob, e0, e1, iN_s]) 6 0 () s4 FU (by omega) (by decide) ⟨⟨fun r hr => by rw [o4 r (by omega)]; exact l1.1 r hr, fun j hj => by rw [o4 q0 (by omega)]; exact l1.2 j hj⟩, fun v hv => by rw [o4 _ (by omega), o4 _ (by omega)]; exact l2 v hv, fun d hd' j hj => by rw [o4 _ (by omega)]; exact l3 d hd' j hj, fun i hi => by rw [o4 _ (by omega), o4 _ (by omega)]; exact l4 i hi, c4, fun l hl => by omega⟩
  exact ⟨s5, y8, ⟨y2, y3, y4, y5, y7, y6⟩, y1⟩
end CQ
