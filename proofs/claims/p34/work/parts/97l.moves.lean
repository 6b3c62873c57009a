/-! MOVES: nesting, taking out, packing and unpacking -/
section MV
variable {T z : Nat} {m m' : Nat → Int32} {w : Wl}
theorem mNest_iff (hI : Iv T z m) {c d : Nat} (hd : d < nC m) (hcd : c ≠ d) (h1 : cr m c 1 = 0) (h2 : cr m c 2 = -1) (h3 : ¬ cr m c 3 = -1) (hd1 : cr m d 1 = 1) (hv : vof m d = cr m c 3) : mNest m c d = true := by
  have oc : opb m c = false := by unfold opb; rw [h1, if_neg (by decide)]
  have od : opb m d = true := by unfold opb; rw [if_pos hd1]
  unfold mNest mUse
  rw [if_neg hcd, oc, iF, if_pos h2, if_neg h3, od, iT, open_reach hI d hd hd1, iT, if_pos hv]
theorem cbl_nest (hI : Iv T z m) {c d : Nat} (hc : c < nC m) (hd : d < nC m) (h : mNest m c d = true) : aCbl (dNests m c d) (iN d) = aCbl m (iN d) + 1 + aCbl (dNests m c d) (iN c) := by
  have h12 := hI.ic12
  have I1 := i_dNests hI hc hd h
  obtain ⟨n1, n2, n3, n4, n5⟩ := (dNests_eqo (m := m) (c := c) (d := d)).fn (by omega)
  obtain ⟨hcd, -, -, hc2, -, -, -⟩ := mNest_of hI hc h
  have e2 := dNests_2 (m := m) (c := c) (d := d)
  have eo : ∀ e, e ≠ c → cr (dNests m c d) e 2 = cr m e 2 := fun e he => dNests_eqo.fr he (by decide)
  generalize dNests m c d = m1 at I1 n1 n2 n3 n4 n5 e2 eo
  have hVd : isin m1 (iN d) (iN c) = false := by
    have := isin_not I1 (show c < nC m1 by omega)
    rwa [e2] at this
  have key : ∀ e, e < nC m1 → (isin m1 (iN e) (iN d) = (isin m (iN e) (iN d) || isin m1 (iN e) (iN c)) ∧ ¬ (isin m (iN e) (iN d) = true ∧ isin m1 (iN e) (iN c) = true)) := by
    refine ch_ind I1 (P := fun e => (isin m1 (iN e) (iN d) = (isin m (iN e) (iN d) || isin m1 (iN e) (iN c)) ∧ ¬ (isin m (iN e) (iN d) = true ∧ isin m1 (iN e) (iN c) = true))) (fun e he q => ?_) (fun e f he hf q ih => ?_)
    · have hec : e ≠ c := fun w => by rw [w, e2] at q; exact iN_m1 (by omega) q
      have q0 : cr m e 2 = -1 := (eo e hec).symm.trans q
      rw [isin_up I1 (show d < nC m1 by omega) he, isin_up hI hd (by omega), isin_up I1 (show c < nC m1 by omega) he, if_neg hec, q, q0, isin_m1, isin_m1, isin_m1]
      by_cases w : e = d
      · rw [if_pos w]; exact ⟨rfl, fun g => by cases g.2⟩
      · rw [if_neg w]; exact ⟨rfl, fun g => by cases g.2⟩
    · by_cases hec : e = c
      · subst hec
        have hfd : f = d := (iN_eq (by omega) (by omega)).mp (q.symm.trans e2)
        subst hfd
        rw [isin_up I1 hf he, isin_up hI hd hc, isin_up I1 he he, if_neg hcd, if_neg hcd, if_pos rfl, q, hc2, isin_m1, isin_up I1 hf hf, if_pos rfl]
        exact ⟨rfl, fun g => by cases g.1⟩
      · have q0 : cr m e 2 = iN f := (eo e hec).symm.trans q
        by_cases w : e = d
        · subst w
          rw [hVd, isin_up I1 he he, isin_up hI hd hd, if_pos rfl, if_pos rfl]
          exact ⟨rfl, fun g => by cases g.2⟩
        · rw [isin_up I1 (show d < nC m1 by omega) he, isin_up hI hd (by omega), isin_up I1 (show c < nC m1 by omega) he, if_neg hec, if_neg w, if_neg w, q, q0]
          exact ih
  rw [aCbl_sm, aCbl_sm, aCbl_sm, n2]
  have e1 : sm (fun k => if k = c then (1 : Int32) else 0) (nC m) = 1 := by
    rw [sm_one (v := c) _ hc (fun i _ hi => if_neg hi), if_pos rfl]
  have : sm (fun k => if isin m1 (cr m1 k 2) (iN d) = true then (1 : Int32) else 0) (nC m) = sm (fun k => ((if isin m (cr m k 2) (iN d) = true then (1 : Int32) else 0) + (if k = c then (1 : Int32) else 0)) + (if isin m1 (cr m1 k 2) (iN c) = true then (1 : Int32) else 0)) (nC m) := by
    refine sm_congr _ fun k hk => ?_
    by_cases hkc : k = c
    · subst hkc
      rw [if_pos rfl, hc2, e2, isin_m1, isin_up I1 (show d < nC m1 by omega) (show d < nC m1 by omega), if_pos rfl, hVd]
      decide
    · rw [if_neg hkc, Int32.add_zero]
      rcases I1.ihp (show k < nC m1 by omega) with q | ⟨f, hf, q⟩
      · have q0 : cr m k 2 = -1 := (eo k hkc).symm.trans q
        rw [q, q0, isin_m1, isin_m1, isin_m1]
        decide
      · have q0 : cr m k 2 = iN f := (eo k hkc).symm.trans q
        rw [q, q0]
        obtain ⟨g1, g2⟩ := key f hf
        rw [g1]
        cases a : isin m (iN f) (iN d) <;> cases b : isin m1 (iN f) (iN c)
        · decide
        · decide
        · decide
        · exact (g2 ⟨a, b⟩).elim
  rw [this, sm_add, sm_add, e1]
theorem pos_cnt {f : Nat → Int32} {n v : Nat} (hv : v < n) (hn : n < 2147483647) (h : ∀ i, i < n → f i = 0 ∨ f i = 1) (h1 : f v = 1) : ∃ a, 1 ≤ a ∧ a ≤ n ∧ sm f n = iN a := by
  obtain ⟨a, b, h2, h3, h4, h5⟩ := sm_le (f := fun i => if i = v then 1 else 0) (g := f) n hn (fun i hi => by
    by_cases e : i = v
    · subst e; exact Or.inr ⟨if_pos rfl, h1⟩
    · exact Or.inl ⟨if_neg e, h i hi⟩)
  rw [sm_one (v := v) n hv (fun i _ hi => if_neg hi), if_pos rfl] at h4
  have : 1 = a := (iN_eq (by decide) (by omega)).mp h4
  exact ⟨b, by omega, h3, h5⟩
theorem iN_pos {a : Nat} (h1 : 1 ≤ a) (h2 : a < 2147483648) : ¬ iN a ≤ 0 := fun q => by
  have := (iN_le (b := 0) h2 (by decide)).mp q
  omega
theorem m76_0 {c d : Nat} {l4 l6 : Int32} (hS : ST T w m) (hJ : Jv m) (hc : c < nC m) (hd : d < nC m) (h : mNest m c d = false) : Res T m (sL_moves_76 w (iN c) (iN d) l4 l6 0) := by
  unfold sL_moves_76
  rw [q_c11 hS.1 hS.2.1 hd, ob, t_nest hS hc hd h, ob, if_pos rfl, if_pos rfl]
  exact ⟨w, m, rfl, hS, hJ, rfl, rfl, rfl, rfl⟩
theorem m76_1 {c d : Nat} {l4 : Int32} (hS : ST T w m) (hJ : Jv m) (hc : c < nC m) (hd : d < nC m) (h : mNest m c d = true) : Res T m (sL_moves_76 w (iN c) (iN d) l4 (vof m c) 1) := by
  have hI := hS.2.1
  have h12 := hI.ic12
  have h8 := hI.iv8
  obtain ⟨w1, a1, a2⟩ := u_nest hS hc hd h
  have S1 := a2.st
  have R1 := S1.1
  have I1 := S1.2.1
  have J1' := j_dNests hI hJ hc hd h
  obtain ⟨n1, n2, n3, n4, n5⟩ := (dNests_eqo (m := m) (c := c) (d := d)).fn (by omega)
  have hcb := cbl_nest hI hc hd h
  have hvo := vof_nest hI hc hd h
  obtain ⟨hcd, oc, c1, c2, c3, od, rd⟩ := mNest_of hI hc h
  have e2 := dNests_2 (m := m) (c := c) (d := d)
  have d1 : cr m d 1 = 1 := by
    rcases hI.iob hd with q | q
    · rw [q.2] at od; cases od
    · exact q.1
  have d1' : cr (dNests m c d) d 1 = 1 := (dNests_eqo.fr (Ne.symm hcd) (by decide)).trans d1
  have c1' : cr (dNests m c d) c 1 = 0 := (dNests_f (by decide)).trans c1
  obtain ⟨a, ha1, ha2, ha⟩ := pos_cnt (f := fun k => if cr (dNests m c d) k 2 = iN d then (1 : Int32) else 0) (n := nC (dNests m c d)) (v := c) (by omega) (by omega) (fun i _ => by by_cases q : cr (dNests m c d) i 2 = iN d; exact Or.inr (if_pos q); exact Or.inl (if_neg q)) (if_pos e2)
  have hc' : c < nC (dNests m c d) := by omega
  have hd' : d < nC (dNests m c d) := by omega
  have hr' : reach (dNests m c d) c = true := by
    rw [reach_in I1 hc' hd' e2, d1', if_neg (by decide)]
    exact open_reach I1 d hd' d1'
  have hvc := hvo c hc
  generalize hm1 : dNests m c d = m1 at *
  rw [← aDirC_sm] at ha
  unfold sL_moves_76
  obtain ⟨k, hk, elow⟩ := p_low (w := w1) (l4 >>> ((3 : Int32) &&& 31)) (N := 2) (by decide) (by decide)
  rw [q_c11 hS.1 hI hd, ob, show sL_nest w (iN c) (iN d) = _ from lW_s a1, ob, if_neg (by decide), ha, if_neg (iN_pos ha1 (by omega)), q_c2 R1 I1 hc', ob, if_pos e2, q_c3 R1 I1 hc', ob, if_pos hvc, q_c11 R1 I1 hd', ob, q_c11 R1 I1 hc', ob, if_pos hcb, q_c13 R1 I1 hc', ob, hr', if_pos (show bI true = 1 from rfl), show sL_low w1 (l4 >>> ((3 : Int32) &&& 31)) 2 = _ from elow, ob]
  by_cases k0 : k = 0
  · rw [if_pos (by rw [k0]; rfl)]
    exact ⟨w1, m1, rfl, S1, J1', n1, n2, n3, n4⟩
  · have mt : mTake m1 c = true := by
      unfold mTake opb
      rw [e2, if_neg (iN_m1 (by omega)), c1', if_neg (show ¬ (0 : Int32) = 1 by decide), iF, hr']
    obtain ⟨w2, b1, b2⟩ := u_takeOut S1 hc' mt
    have S2 := b2.st
    obtain ⟨k1, k2, k3, k4, k5⟩ := (dTakes_eqo (m := m1) (c := c)).fn (by omega)
    rw [if_neg (show ¬ iN k = 0 from fun q => k0 ((iN_eq (b := 0) (by omega) (by decide)).mp q)), show sO_takeOut w1 (iN c) = _ from okS_s b1, ob, if_pos e2, q_c2 S2.1 S2.2.1 (by omega), ob, if_pos dTakes_2, q_c3 S2.1 S2.2.1 (by omega), ob, if_pos ((vof_take I1 hc' mt c hc').trans hvc)]
    exact ⟨w2, _, rfl, S2, j_dTakes I1 J1' hc' mt, by omega, by omega, by omega, by omega⟩
theorem m263_0 {c : Nat} (hS : ST T w m) (hJ : Jv m) (hc : c < nC m) (h : mTake m c = false) : Res T m (sL_moves_263 w (iN c) (cr m c 2) 0) := by
  unfold sL_moves_263
  rw [t_takeOut hS hc h, ob, if_pos rfl, if_pos rfl, q_c2 hS.1 hS.2.1 hc, ob, if_pos rfl]
  exact ⟨w, m, rfl, hS, hJ, rfl, rfl, rfl, rfl⟩
theorem m263_1 {c : Nat} (hS : ST T w m) (hJ : Jv m) (hc : c < nC m) (h : mTake m c = true) : Res T m (sL_moves_263 w (iN c) (cr m c 2) 1) := by
  have hI := hS.2.1
  have h12 := hI.ic12
  have h8 := hI.iv8
  obtain ⟨w1, a1, a2⟩ := u_takeOut hS hc h
  have S1 := a2.st
  obtain ⟨n1, n2, n3, n4, n5⟩ := (dTakes_eqo (m := m) (c := c)).fn (by omega)
  obtain ⟨-, -, -, hr⟩ := mTake_of hI hc h
  obtain ⟨v, hv, hvo⟩ := hI.irv hc hr
  have hr' : reach (dTakes m c) c = true := by rw [reach_top (by omega) dTakes_2, dTakes_3, hvo, if_neg (iN_m1 (by omega))]
  unfold sL_moves_263
  rw [show sL_takeOut w (iN c) = _ from lW_s a1, ob, if_neg (by decide), if_pos rfl, q_c2 S1.1 S1.2.1 (by omega), ob, if_pos dTakes_2, q_c13 S1.1 S1.2.1 (by omega), ob, hr', if_pos (show bI true = 1 from rfl)]
  exact ⟨w1, _, rfl, S1, j_dTakes hI hJ hc h, n1, n2, n3, n4⟩
theorem m462_0 {c i : Nat} {l7 : Int32} (hS : ST T w m) (hJ : Jv m) (hc : c < nC m) (hi : i < nW m) (h4 : wk m i 4 = -1) (h : mPack m i c = false) : Res T m (sL_moves_462 w (iN c) (iN i) l7 0) := by
  unfold sL_moves_462
  rw [q_c10 hS.1 hS.2.1 hc, ob, t_pack hS hi hc h, ob, if_pos rfl, if_pos rfl, q_w4 hS.1 hS.2.1 hi, ob, if_pos h4]
  exact ⟨w, m, rfl, hS, hJ, rfl, rfl, rfl, rfl⟩
theorem m462_1 {c i : Nat} (hS : ST T w m) (hJ : Jv m) (hc : c < nC m) (hi : i < nW m) (h4 : wk m i 4 = -1) (h : mPack m i c = true) : Res T m (sL_moves_462 w (iN c) (iN i) (wat m i) 1) := by
  have hI := hS.2.1
  have h12 := hI.ic12
  have h16 := hI.iw16
  obtain ⟨w1, a1, a2⟩ := u_pack hS hi hc h
  have S1 := a2.st
  have R1 := S1.1
  have I1 := S1.2.1
  have he := dPacks_eqo (m := m) (i := i) (c := c)
  obtain ⟨n1, n2, n3, n4, n5⟩ := he.fn (by omega)
  have e4 := dPacks_4 (m := m) (i := i) (c := c)
  have hvo : vof (dPacks m i c) c = vof m c := vof_cg hI (fun e _ => he _ (by omega)) (fun e _ => he _ (by omega)) hc
  have hol1 : hol (dPacks m i c) = hol m := funext fun d => by
    unfold hol
    split
    · exact he _ (by omega)
    · rfl
  have hu : vof m c = wk m i 5 := by
    unfold mPack at h
    rw [if_pos h4] at h
    exact (mUse_3 h).2.2
  have hw1 : wat (dPacks m i c) i = wat m i := by rw [wat_in (by omega) e4, hvo, wat_no h4, hu]
  obtain ⟨a, ha1, ha2, ha⟩ := pos_cnt (f := fun k => if wk (dPacks m i c) k 4 = iN c then (1 : Int32) else 0) (n := nW (dPacks m i c)) (v := i) (by omega) (by omega) (fun k _ => by by_cases q : wk (dPacks m i c) k 4 = iN c; exact Or.inr (if_pos q); exact Or.inl (if_neg q)) (if_pos e4)
  rw [← aDirW_sm] at ha
  have hwin : aWin (dPacks m i c) (iN c) = aWin m (iN c) + 1 := by
    rw [aWin_sm, aWin_sm, n3]
    refine sm_upd (v := i) _ hi (fun k hk hki => ?_) ?_
    · unfold isin
      rw [hol1, show wk (dPacks m i c) k 4 = wk m k 4 from he _ (by omega)]
    · rw [e4, isin_up I1 (show c < nC (dPacks m i c) by omega) (show c < nC (dPacks m i c) by omega), if_pos rfl, if_pos rfl, h4, isin_m1, if_neg (by decide), Int32.zero_add]
  unfold sL_moves_462
  rw [q_c10 hS.1 hI hc, ob, show sL_pack w (iN i) (iN c) = _ from lW_s a1, ob, if_neg (by decide), ha, if_neg (iN_pos ha1 (by omega)), q_w4 R1 I1 (by omega), ob, if_pos e4, q_w5 R1 I1 (by omega), ob, if_pos hw1, q_c10 R1 I1 (by omega), ob, if_pos hwin]
  exact ⟨w1, _, rfl, S1, j_dPacks hI hJ hi hc h, n1, n2, n3, n4⟩
theorem p_moves {c d i : Nat} (hS : ST T w m) (hJ : Jv m) (hc : c < nC m) (hd : d < nC m) (hi : i < nW m) (x : Int32) : Res T m (sL_moves w (iN c) (iN d) (iN i) x) := by
  have hR := hS.1
  have hI := hS.2.1
  have h12 := hI.ic12
  have h16 := hI.iw16
  have h8 := hI.iv8
  have b0 : bI false = 0 := rfl
  have b1 : bI true = 1 := rfl
  obtain ⟨k, hk, elow⟩ := p_low (w := w) x (N := 3) (by decide) (by decide)
  unfold sL_moves
  rw [show sL_low w x 3 = _ from elow, ob]
  rcases (by omega : k = 0 ∨ k = 1 ∨ k = 2) with rfl | rfl | rfl
  · rw [if_pos (show iN 0 = 0 from rfl), q_c3 hR hI hc, ob]
    by_cases hcd : c = d
    · rw [if_pos (by rw [hcd])]
      exact m76_0 hS hJ hc hd (by unfold mNest; rw [if_pos hcd])
    rw [if_neg (fun q => hcd ((iN_eq (by omega) (by omega)).mp q)), q_c1 hR hI hc, ob]
    rcases hI.iob hc with ⟨g, gb⟩ | ⟨g, gb⟩
    · rw [g, if_pos rfl, q_c2 hR hI hc, ob]
      rcases hI.ihp hc with e | ⟨f, hf, e⟩
      · have hv3 := vof_top (by omega) e
        rw [if_pos e]
        rcases hI.ivof hc with q | ⟨v, hv, q⟩
        · rw [q, if_pos (by decide)]
          exact m76_0 hS hJ hc hd (by unfold mNest; rw [if_neg hcd, gb, iF, if_pos e, if_pos (hv3.symm.trans q)])
        · have M1 := m76_1 (l4 := x) hS hJ hc hd
          rw [q] at M1 ⊢
          have h3 : ¬ cr m c 3 = -1 := by rw [← hv3, q]; exact iN_m1 (by omega)
          rw [if_neg (iN_neg (by omega)), q_c1 hR hI hd, ob]
          rcases hI.iob hd with ⟨p, pb⟩ | ⟨p, pb⟩
          · rw [p, if_neg (by decide)]
            exact m76_0 hS hJ hc hd (by unfold mNest mUse; rw [if_neg hcd, gb, iF, if_pos e, if_neg h3, pb, iF])
          · rw [p, if_pos rfl, q_c3 hR hI hd, ob]
            by_cases u : vof m d = iN v
            · rw [if_pos u]
              exact M1 (mNest_iff hI hd hcd g e h3 p (by rw [u, ← q, hv3]))
            · rw [if_neg u]
              exact m76_0 hS hJ hc hd (by unfold mNest mUse; rw [if_neg hcd, gb, iF, if_pos e, if_neg h3, pb, iT, open_reach hI d hd p, iT, if_neg (fun y => u (by rw [y, ← hv3, q]))])
      · rw [e, if_neg (iN_m1 (by omega))]
        exact m76_0 hS hJ hc hd (by unfold mNest; rw [if_neg hcd, gb, iF, e, if_neg (iN_m1 (by omega))])
    · rw [g, if_neg (by decide)]
      exact m76_0 hS hJ hc hd (by unfold mNest; rw [if_neg hcd, gb, iT])
  · rw [if_neg (show ¬ iN 1 = 0 by decide), if_pos (show iN 1 = 1 from rfl), q_c2 hR hI hc, ob]
    have M0 := m263_0 hS hJ hc
    have M1 := m263_1 hS hJ hc
    rcases hI.ihp hc with e | ⟨f, hf, e⟩
    · rw [e] at M0 ⊢
      rw [if_pos (by decide)]
      exact M0 (by unfold mTake; rw [if_pos e])
    · rw [e] at M0 M1 ⊢
      have e' : ¬ cr m c 2 = -1 := by rw [e]; exact iN_m1 (by omega)
      rw [if_neg (iN_neg (by omega)), q_c1 hR hI hc, ob]
      rcases hI.iob hc with ⟨g, gb⟩ | ⟨g, gb⟩
      · rw [g, if_pos rfl, q_c13 hR hI hc, ob]
        cases hr : reach m c
        · rw [b0, if_neg (by decide)]
          exact M0 (by unfold mTake; rw [if_neg e', gb, iF, hr])
        · rw [b1, if_pos rfl]
          exact M1 (by unfold mTake; rw [if_neg e', gb, iF, hr])
      · rw [g, if_neg (by decide)]
        exact M0 (by unfold mTake; rw [if_neg e', gb, iT])
  · rw [if_neg (show ¬ iN 2 = 0 by decide), if_neg (show ¬ iN 2 = 1 by decide), q_w4 hR hI hi, ob, q_w5 hR hI hi, ob]
    rcases hI.iwp hi with e | ⟨f, hf, e⟩
    · rw [e, if_pos (by decide), q_c1 hR hI hc, ob]
      rcases hI.iob hc with ⟨g, gb⟩ | ⟨g, gb⟩
      · rw [g, if_neg (by decide)]
        exact m462_0 hS hJ hc hi e (by unfold mPack mUse; rw [if_pos e, gb, iF])
      · rw [g, if_pos rfl, q_c3 hR hI hc, ob]
        by_cases u : vof m c = wat m i
        · rw [if_pos u]
          exact m462_1 hS hJ hc hi e (by unfold mPack mUse; rw [if_pos e, gb, iT, open_reach hI c hc g, iT, if_pos (u.trans (wat_no e))])
        · rw [if_neg u]
          exact m462_0 hS hJ hc hi e (by unfold mPack mUse; rw [if_pos e, gb, iT, open_reach hI c hc g, iT, if_neg (fun y => u (y.trans (wat_no e).symm))])
    · rw [e, if_neg (iN_neg (by omega))]
      have e' : ¬ wk m i 4 = -1 := by rw [e]; exact iN_m1 (by omega)
      have ew := wat_in (by omega) e
      rcases hI.iob hf with ⟨g, gb⟩ | ⟨g, gb⟩
      · rw [t_unpack hS hi (by unfold mUnp; rw [if_neg e', e, iN_nat (by omega), gb, iF]), ob, q_c1 hR hI hf, ob, g, if_neg (by decide), if_pos rfl, q_w4 hR hI hi, ob, if_pos e]
        exact ⟨w, m, rfl, hS, hJ, rfl, rfl, rfl, rfl⟩
      · have hm : mUnp m i = true := by unfold mUnp; rw [if_neg e', e, iN_nat (by omega), gb, iT, open_reach hI f hf g]
        obtain ⟨w1, a1, a2⟩ := u_unpack hS hi hm
        have S1 := a2.st
        have he := dUnpacks_eqo (m := m) (i := i)
        obtain ⟨n1, n2, n3, n4, n5⟩ := he.fn (by omega)
        have e4 := dUnpacks_4 (m := m) (i := i)
        have e5 := dUnpacks_5 (m := m) (i := i)
        rw [e, iN_nat (by omega)] at a1 e5
        rw [show sL_unpack w (iN i) = _ from lW_s a1, ob, q_c1 S1.1 S1.2.1 (by omega), ob, show cr (dUnpacks m i) f 1 = cr m f 1 from he _ (by omega), g, if_pos rfl, if_pos ew.symm, q_w4 S1.1 S1.2.1 (by omega), ob, if_pos e4, q_w5 S1.1 S1.2.1 (by omega), ob, if_pos (by rw [wat_no e4, e5, ew])]
        exact ⟨w1, _, rfl, S1, j_dUnpacks hI hJ hi hm, n1, n2, n3, n4⟩
end MV
