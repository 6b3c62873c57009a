/-! WHAT IS REFUSED, and the run of the empty text -/
section RF
variable {T : Nat} {m u : Nat → Int32} {w w' : Wl}
theorem cmp_self (x : Int64) : lg_cmp x x = 0 := by
  unfold lg_cmp
  simp
theorem p_refuses (hS : ST T w m) : ∃ w', sL_refuses w = some (true, w') ∧ ∀ r, r ≠ 77 → w' r = w r := by
  have h8 := hS.2.1.iv8
  have h12 := hS.2.1.ic12
  have h4 := hS.2.1.ik4
  obtain ⟨w1, d1, d2⟩ := e12_digest hS.1 hS.2.1
  have S1 := hS.fr d2
  obtain ⟨w2, g1, g2⟩ := e12_digest S1.1 S1.2.1
  refine ⟨w2, ?_, fun r hr => (g2 r hr).trans (d2 r hr)⟩
  rw [d2 78 (by decide), d2 368 (by decide)] at g1
  generalize dg m (w 78 1) (w 368 1) = D at d1 g1
  have z0 : (0 : Int32) = iN 0 := rfl
  have e2 : sL_refuses_257 w1 D (iN (nV m)) (iN (nC m)) (iN (nW m)) (iN (nK m)) 1 = some (true, w2) := by
    unfold sL_refuses_257
    rw [if_neg (by decide), r_refusal S1 (by rw [ok_n (by omega), Bool.false_and]), ob, if_pos rfl,
      r_refusal S1 (by rw [ok_n (by omega), Bool.false_and, Bool.and_false]), ob, if_pos rfl,
      r_refusal S1 (by unfold okx; rw [if_neg (iN_m1 (by omega)), ok_n (by omega), Bool.and_false, Bool.and_false]), ob, if_pos rfl,
      r_crate S1, ob, if_pos rfl, r_work S1, ob, if_pos rfl, r_noted S1, ob, if_pos rfl, r_venue S1, ob, if_pos rfl, r_courier S1, ob, if_pos rfl, r_whole, ob, if_pos rfl, r_ready S1, ob, if_pos rfl, r_all S1, ob, if_pos rfl, r_best S1, ob, if_pos rfl, r_type S1, ob, if_pos rfl]
    unfold sL_refuses_425
    rw [if_neg (by decide), g1, ob, if_pos (cmp_self D)]
  unfold sL_refuses
  rw [d1, ob, q_h1 S1.1 S1.2.1, ob, q_h2 S1.1 S1.2.1, ob, q_h3 S1.1 S1.2.1, ob, q_h4 S1.1 S1.2.1, ob,
    r_addVenue S1 (by decide), ob, if_pos rfl, r_addVenue S1 (by decide), ob, if_pos rfl, r_setClimate S1, ob, if_pos rfl, r_setWay S1, ob, if_pos rfl, r_setLender, ob, if_pos rfl, r_setWayRate, ob, if_pos rfl,
    r_addCourier S1, ob, if_pos rfl, r_addCrate S1, ob, if_pos rfl, r_addWork S1, ob, if_pos rfl, r_open S1, ob, if_pos rfl, r_close S1, ob, if_pos rfl, r_nest S1, ob, if_pos rfl, r_takeOut S1, ob, if_pos rfl,
    r_pack S1, ob, if_pos rfl, r_unpack S1, ob, if_pos rfl, r_send S1, ob, if_pos rfl, r_advance (by decide), ob, if_pos rfl, r_advance (by decide), ob, if_pos rfl]
  exact e2
/-- the run of the empty text -/
theorem p_run (hS : ST T w m) (hT : T + 36000 ≤ 1000000000) (h0 : w 78 1 = 0) : ∃ w', sX12_runCommands w = some (0, w') ∧ SU (T + 36000) w' m m ∧ w' 78 1 = 1 := by
  obtain ⟨a, b, ⟨n, p, P, c, d⟩, ⟨t0, D, hD, h4⟩⟩ := hS
  have hn : n = 0 := by
    have := c.2.1
    rw [h0] at this
    have hc := c.1
    exact ((iN_eq (a := 0) (by decide) (by omega)).mp this).symm
  subst hn
  have hT0 : TC w 0 (fun _ => 0) := ⟨by decide, t0, fun j hj => absurd hj (Nat.not_lt_zero j)⟩
  obtain ⟨-, x2⟩ := c_runCommands hT0 hD h4 a b hT c d
  obtain ⟨w1, D', p', q1, q2, q3, q4, q5, q6, q7, q8, q9⟩ := x2 (by decide +kernel)
  have e : rn 0 (fun _ => 0) 150 0 m = (0, m) := rfl
  rw [e] at q1 q2 q3
  refine ⟨w1, q1, ⟨q2, q3, ⟨0, p', pushP 0 P m, q4, rfl, fun j hj => ?_⟩, q7.trans t0, D', q8, q9⟩, q4.2.1⟩
  obtain rfl : j = 0 := by omega
  exact b.mT (by omega) hT
theorem u_undo1 (hS : SU T w m u) (h1 : w 78 1 = 1) : ∃ w', sX12_undo w = some (.inr (0, w')) ∧ ST T w' u := by
  obtain ⟨a, b, ⟨n, p, P, c, rfl, d⟩, e⟩ := hS
  have hn : n = 0 := by
    have := c.2.1
    rw [h1] at this
    have hc := c.1
    have := (iN_eq (a := 1) (by decide) (by omega)).mp this
    omega
  subst hn
  obtain ⟨w4, k1, k2, k3, k4⟩ := c_restore c (Iv.le' d)
  refine ⟨w4, ?_, k3, d 0 (by omega), ⟨0, p, P, k2, fun j hj => d j (by omega)⟩, e.fr (k4 368 (by omega) (by decide))⟩
  unfold sX12_undo
  rw [c.2.1, if_neg (show ¬ iN (0 + 1) ≤ 0 by decide), tiw_0, k1, ob]
  rfl
end RF
