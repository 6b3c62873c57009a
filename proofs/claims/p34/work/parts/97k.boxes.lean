/-! BOXES: opening and closing -/
def Res (T : Nat) (m : Nat → Int32) (o : Option (Bool × Wl)) : Prop := ∃ w' m', o = some (true, w') ∧ ST T w' m' ∧ Jv m' ∧ nV m' = nV m ∧ nC m' = nC m ∧ nW m' = nW m ∧ nK m' = nK m
section BX
variable {T z : Nat} {m m' : Nat → Int32} {w : Wl}
theorem and_nn (l : Int32) : ¬ (l &&& 2147483647) < 0 := by
  rw [Int32.lt_iff_toInt_lt]
  have h : (l &&& 2147483647).toInt = ((l &&& 2147483647).toBitVec.toNat : Int) := by
    show BitVec.toInt _ = _
    rw [BitVec.toInt_eq_msb_cond, Int32.toBitVec_and, BitVec.msb_and, show (2147483647 : Int32).toBitVec.msb = false by decide, Bool.and_false]
    rfl
  rw [h]
  simp
theorem p_low (l : Int32) {N : Nat} (h0 : 0 < N) (hN : N < 2147483648) : ∃ k, k < N ∧ sL_low w l (iN N) = some (iN k) := by
  have e := of_nn (and_nn l)
  have hl := nat_lt (l &&& 2147483647)
  unfold sL_low
  generalize l &&& 2147483647 = x at e hl
  generalize x.toNatClampNeg = a at e hl
  subst e
  refine ⟨a % N, Nat.mod_lt _ h0, ?_⟩
  have hle : a / N * N ≤ a := Nat.div_mul_le_self a N
  rw [if_pos (fun q => by have := (iN_eq (b := 0) hN (by decide)).mp q; omega)]
  have hd : iN a / iN N = iN (a / N) := (Int32.ofNat_div (by omega) (by omega)).symm
  rw [hd, iN_mul, iN_sub hle]
  have := Nat.div_add_mod a N
  rw [show a - a / N * N = a % N by rw [Nat.mul_comm] at this; omega]
theorem sm_le {f g : Nat → Int32} : ∀ (n : Nat), n < 2147483647 → (∀ i, i < n → (f i = 0 ∧ (g i = 0 ∨ g i = 1)) ∨ (f i = 1 ∧ g i = 1)) → ∃ a b, a ≤ b ∧ b ≤ n ∧ sm f n = iN a ∧ sm g n = iN b
  | 0, _, _ => ⟨0, 0, Nat.le_refl _, Nat.le_refl _, rfl, rfl⟩
  | n + 1, hn, h => by
    obtain ⟨a, b, h1, h2, h3, h4⟩ := sm_le n (by omega) (fun i hi => h i (by omega))
    show ∃ a b, a ≤ b ∧ b ≤ n + 1 ∧ sm f n + f n = iN a ∧ sm g n + g n = iN b
    rw [h3, h4]
    rcases h n (by omega) with ⟨e, q | q⟩ | ⟨e, q⟩
    · exact ⟨a, b, h1, by omega, by rw [e, Int32.add_zero], by rw [q, Int32.add_zero]⟩
    · exact ⟨a, b + 1, by omega, by omega, by rw [e, Int32.add_zero], by rw [q]; exact iN_s b⟩
    · exact ⟨a + 1, b + 1, by omega, by omega, by rw [e]; exact iN_s a, by rw [q]; exact iN_s b⟩
/-- what lies directly in a crate is in it or below it -/
theorem dir_le (hI : Iv T z m) {c : Nat} (hc : c < nC m) : ∃ a b, a ≤ b ∧ b ≤ 16 ∧ aDirW m (iN c) = iN a ∧ aWin m (iN c) = iN b := by
  have h16 := hI.iw16
  obtain ⟨a, b, h1, h2, h3, h4⟩ := sm_le (f := fun i => if wk m i 4 = iN c then 1 else 0) (g := fun i => if isin m (wk m i 4) (iN c) = true then 1 else 0) (nW m) (by omega) (fun i hi => by
    by_cases e : wk m i 4 = iN c
    · right
      refine ⟨if_pos e, if_pos ?_⟩
      rw [e, isin_up hI hc hc, if_pos rfl]
    · left
      refine ⟨if_neg e, ?_⟩
      by_cases q : isin m (wk m i 4) (iN c) = true
      · exact Or.inr (if_pos q)
      · exact Or.inl (if_neg q))
  exact ⟨a, b, h1, by omega, aDirW_sm.trans h3, aWin_sm.trans h4⟩
theorem not_own (hI : Iv T z m) {c : Nat} (hc : c < nC m) : ¬ cr m c 2 = iN c := fun e => by
  have h := isin_not hI hc
  rw [e, isin_up hI hc hc, if_pos rfl] at h
  cases h
theorem aWin_cg (hW : nW m' = nW m) (hh : hol m' = hol m) (h4 : ∀ i, wk m' i 4 = wk m i 4) {x : Int32} : aWin m' x = aWin m x := by
  unfold aWin isin
  rw [hW, hh]
  exact fld_congr _ _ _ fun i _ _ b => by rw [h4]
theorem mClose_iff (hI : Iv T z m) {c : Nat} (hc : c < nC m) : mClose m c = true ↔ cr m c 1 = 1 ∧ ∀ k, k < nC m → ¬ (cr m k 2 = iN c ∧ cr m k 1 = 1) := by
  have key : aHop m (iN c) = true ↔ ∃ k, k < nC m ∧ cr m k 2 = iN c ∧ cr m k 1 = 1 := by
    unfold aHop
    rw [anyN_t]
    constructor
    · rintro ⟨j, -, hj, hp⟩
      refine ⟨j, by omega, ?_⟩
      by_cases e : cr m j 2 = iN c
      · rw [if_pos e] at hp
        refine ⟨e, ?_⟩
        rcases hI.iob (show j < nC m by omega) with q | q
        · rw [q.2] at hp; cases hp
        · exact q.1
      · rw [if_neg e] at hp; cases hp
    · rintro ⟨k, hk, e, q⟩
      refine ⟨k, Nat.zero_le _, by omega, ?_⟩
      rw [if_pos e]
      unfold opb
      rw [if_pos q]
  unfold mClose
  rcases hI.iob hc with ⟨q1, q2⟩ | ⟨q1, q2⟩
  · rw [q2, iF]
    exact ⟨fun h => (by cases h), fun h => absurd (q1.symm.trans h.1) (by decide)⟩
  · rw [q2, iT, open_reach hI c hc q1, iT]
    cases h : aHop m (iN c)
    · exact ⟨fun _ => ⟨q1, fun k hk w => by rw [key.mpr ⟨k, hk, w⟩] at h; cases h⟩, fun _ => rfl⟩
    · obtain ⟨k, hk, w⟩ := key.mp h
      exact ⟨fun h => (by cases h), fun h => (h.2 k hk w).elim⟩
theorem b131 {c : Nat} {told : Int32} {w1 : Wl} (hJ : Jv m) (hc : c < nC m) (h : mOpen m c = true) (ht : told = aDirW (dOpens m c) (iN c)) (hU : SU T w1 (dOpens m c) m) :
    ∀ (j i n : Nat), i + j = nC m → j < n → Res T m (sL_boxes_131 n w1 (iN c) (m 0) told (iN i)) := by
  have S1 := hU.st
  have I1 := S1.2.1
  have R1 := S1.1
  obtain ⟨n0, w2, hn3, hu, S2⟩ := u_undo hU
  have hI := S2.2.1
  have h12 := hI.ic12
  obtain ⟨hq, q1, q8⟩ := dOpens_q (m := m) (c := c) (by omega) h12
  obtain ⟨n1, n2, n3, n4, n5⟩ := hq.n
  have hc1 : c < nC (dOpens m c) := by omega
  intro j
  induction j with
  | zero =>
    intro i n hi hn
    obtain ⟨n, rfl⟩ : ∃ q, n = q + 1 := ⟨n - 1, by omega⟩
    obtain rfl : i = nC m := by omega
    obtain ⟨a, b, ab, b16, ea, eb⟩ := dir_le I1 hc1
    rw [ea] at ht
    subst ht
    obtain ⟨w3, o1, o2⟩ := u_open S2 hc h
    have c0 : cr m c 1 = 0 := by
      rcases hI.iob hc with q | q
      · exact q.1
      · rw [(mOpen_3 h).1] at q; cases q.2
    rw [sL_boxes_131.eq_2, q_h2 R1 I1, ob, n2, if_pos (Int32.le_refl _), if_neg (iN_neg (by omega)), q_c10 R1 I1 hc1, ob, eb, if_neg (fun q => by have := (iN_lt (by omega) (by omega)).mp q; omega), q_c1 R1 I1 hc1, ob, q1 c (by omega), if_pos rfl, if_pos rfl,
      show sO_undo w1 = _ from okS_s hu, ob, if_neg (iN_neg (by omega)), q_c1 S2.1 hI hc, ob, c0, if_pos rfl, show sO_open w2 (iN c) = _ from okS_s o1, ob, if_pos ea]
    exact ⟨w3, dOpens m c, rfl, o2.st, j_dOpens hI hJ hc, n1, n2, n3, n4⟩
  | succ j ih =>
    intro i n hi hn
    obtain ⟨n, rfl⟩ : ∃ q, n = q + 1 := ⟨n - 1, by omega⟩
    have hi' : i < nC (dOpens m c) := by omega
    rw [sL_boxes_131.eq_2, q_h2 R1 I1, ob, n2, if_neg (iN_nle (by omega) (by omega) (by omega)), q_c2 R1 I1 hi', ob, iN_s]
    by_cases e : cr (dOpens m c) i 2 = iN c
    · rw [if_pos e, q_c1 R1 I1 hi', ob]
      rcases I1.iob hi' with ⟨g1, g2⟩ | ⟨g1, g2⟩
      · have e2 : cr m i 2 = iN c := (hq.2 i (by omega) 2 (by decide) (by decide)).symm.trans e
        have g1' := g1
        rw [q1 i (by omega)] at g1'
        rw [g1, if_pos rfl, q_c8 R1 I1 hi', ob, g2, iF, show cr (dOpens m c) i 8 = m 0 from (q8 i (by omega)).trans (if_pos ⟨by omega, e2, by rw [g1']; decide⟩), if_pos rfl]
        exact ih (i + 1) n (by omega) (by omega)
      · rw [g1, if_neg (by decide)]
        exact ih (i + 1) n (by omega) (by omega)
    · rw [if_neg e]
      exact ih (i + 1) n (by omega) (by omega)
theorem reach_close (hI : Iv T z m) {c : Nat} (hc : c < nC m) (h : mClose m c = true) : reach (dCloses m c) c = true := by
  have h12 := hI.ic12
  have h8 := hI.iv8
  have I1 := i_dCloses hI hc h
  have ho := ((mClose_iff hI hc).mp h).1
  have hr := open_reach hI c hc ho
  obtain ⟨n1, n2, n3, n4, n5⟩ := (dCloses_eqo (m := m) (c := c)).fn (by omega)
  obtain ⟨q0, q1, q2, q3, q4, q5, q6, q7, q8⟩ := dCloses_c (m := m) (c := c)
  rcases hI.ihp hc with e | ⟨d, hd, e⟩
  · rw [reach_top (by omega) (q2.trans e), q3]
    rw [reach_top (by omega) e] at hr
    exact hr
  · have hdc : d ≠ c := fun w => not_own hI hc (by rw [e, w])
    have hd1 : cr (dCloses m c) d 1 = 1 := (dCloses_eqo.fr hdc (by decide)).trans (hol_open hI hc hd e ho)
    rw [reach_in I1 (by omega) (show d < nC (dCloses m c) by omega) (q2.trans e), hd1, if_neg (by decide)]
    exact open_reach I1 d (by omega) hd1
theorem b256 {c : Nat} (hS : ST T w m) (hJ : Jv m) (hc : c < nC m) :
    ∀ (j i n : Nat) (f : Bool), i + j = nC m → j < n → (f = true ↔ cr m c 1 = 1 ∧ ∀ k, k < i → ¬ (cr m k 2 = iN c ∧ cr m k 1 = 1)) → Res T m (sL_boxes_256 n w (iN c) (m 0) (bI f) (iN i)) := by
  have hR := hS.1
  have hI := hS.2.1
  have h12 := hI.ic12
  have h8 := hI.iv8
  have hT := hI.itT
  have hT9 := hI.iT9
  have b0 : bI false = 0 := rfl
  have b1 : bI true = 1 := rfl
  intro j
  induction j with
  | zero =>
    intro i n f hi hn hf
    obtain ⟨n, rfl⟩ : ∃ q, n = q + 1 := ⟨n - 1, by omega⟩
    obtain rfl : i = nC m := by omega
    have hfm : f = mClose m c := by
      have := mClose_iff hI hc
      cases h : mClose m c
      · cases f
        · rfl
        · rw [h] at this; exact absurd (this.mpr (hf.mp rfl)) (by decide)
      · cases f
        · exact absurd (hf.mpr (this.mp h)) (by decide)
        · rfl
    rw [sL_boxes_256.eq_2, q_h2 hR hI, ob, if_pos (Int32.le_refl _), q_c6 hR hI hc, ob]
    cases hm : mClose m c
    · rw [hm] at hfm
      subst hfm
      rw [t_close hS hc hm, ob, b0, if_pos rfl, if_pos rfl]
      exact ⟨w, m, rfl, hS, hJ, rfl, rfl, rfl, rfl⟩
    · rw [hm] at hfm
      subst hfm
      have hcl := (mClose_iff hI hc).mp hm
      have hop : opb m c = true := by unfold opb; rw [if_pos hcl.1]
      obtain ⟨v, hv, hvo⟩ := hI.ivo hc hop
      obtain ⟨w1, a1, a2⟩ := u_close hS hc hm
      have S1 := a2.st
      have R1 := S1.1
      have I1 := S1.2.1
      obtain ⟨n1, n2, n3, n4, n5⟩ := (dCloses_eqo (m := m) (c := c)).fn (by omega)
      obtain ⟨q0, q1, q2, q3, q4, q5, q6, q7, q8⟩ := dCloses_c (m := m) (c := c)
      have hc1 : c < nC (dCloses m c) := by omega
      have J1' := j_dCloses hI hJ hc
      have op1 : opb (dCloses m c) c = false := by unfold opb; rw [q1, if_neg (by decide)]
      have hol1 : hol (dCloses m c) = hol m := funext fun d => by
        unfold hol
        split
        · by_cases e : d = c
          · subst e; exact q2
          · exact dCloses_eqo.fr e (by decide)
        · rfl
      have vo1 : vof (dCloses m c) c = iN v := by
        rw [← hvo]
        exact vof_cg hI (fun e he => by
          by_cases h : e = c
          · subst h; exact q2
          · exact dCloses_eqo.fr h (by omega)) (fun e he => by
          by_cases h : e = c
          · subst h; exact q3
          · exact dCloses_eqo.fr h (by omega)) hc
      have vn1 : ∀ j, j < 13 → vn (dCloses m c) v j = vn m v j := fun j hj => dCloses_eqo.fv (by omega) (by omega) hj
      have nd1 : nd (dCloses m c) c v = 0 := by
        unfold nd
        rw [q6, q7, hvo, iN_nat (by omega), vn1 0 (by decide), vn1 1 (by decide), show ∀ x : Int32, x - x = 0 from fun x => Int32.sub_self x, show ∀ x : Int32, x - x = 0 from fun x => Int32.sub_self x, show (4 : Int32) * ab 0 + ab 0 = 0 by decide, Int32.mul_zero]
        decide
      have m01 : dCloses m c 0 = m 0 := dCloses_eqo 0 (by omega)
      have mo1 : mOpen (dCloses m c) c = true := by
        unfold mOpen
        rw [op1, iF, reach_close hI hc hm, iT, q8, vo1, iN_nat (by omega), nd1, Int32.add_zero, m01, if_neg Int32.lt_irrefl]
      obtain ⟨w2, b1', b2⟩ := u_open S1 hc1 mo1
      have S2 := b2.st
      have I2 := S2.2.1
      obtain ⟨hq, p1, p8⟩ := dOpens_q (m := dCloses m c) (c := c) (by omega) (by omega)
      obtain ⟨k1, k2, k3, k4, k5⟩ := hq.n
      have hc2 : c < nC (dOpens (dCloses m c) c) := by omega
      have mc2 : mClose (dOpens (dCloses m c) c) c = true := by
        refine (mClose_iff I2 hc2).mpr ⟨by rw [p1 c (by omega), if_pos rfl], fun k hk q => ?_⟩
        have e2 : cr (dOpens (dCloses m c) c) k 2 = cr (dCloses m c) k 2 := hq.2 k (by omega) 2 (by decide) (by decide)
        rw [e2] at q
        by_cases e : k = c
        · rw [e] at q
          exact not_own I1 hc1 q.1
        · rw [p1 k (by omega), if_neg e] at q
          have f2 : cr (dCloses m c) k 2 = cr m k 2 := dCloses_eqo.fr e (by decide)
          have f1 : cr (dCloses m c) k 1 = cr m k 1 := dCloses_eqo.fr e (by decide)
          rw [f2, f1] at q
          exact hcl.2 k (by omega) q
      obtain ⟨w3, c1', c2'⟩ := u_close S2 hc2 mc2
      obtain ⟨a, b, ab', b16, ea, eb⟩ := dir_le I2 hc2
      have hol2 : hol (dOpens (dCloses m c) c) = hol (dCloses m c) := funext fun d => by
        unfold hol
        split
        · exact hq.2 d ‹_› 2 (by decide) (by decide)
        · rfl
      obtain ⟨r0, r1, r2, r3, r4, r5, r6, r7, r8⟩ := dCloses_c (m := dOpens (dCloses m c) c) (c := c)
      obtain ⟨l1, l2, l3, l4, l5⟩ := (dCloses_eqo (m := dOpens (dCloses m c) c) (c := c)).fn (by omega)
      have hol3 : hol (dCloses (dOpens (dCloses m c) c) c) = hol (dOpens (dCloses m c) c) := funext fun d => by
        unfold hol
        split
        · by_cases e : d = c
          · subst e; exact r2
          · exact dCloses_eqo.fr e (by decide)
        · rfl
      have win : aWin (dCloses (dOpens (dCloses m c) c) c) (iN c) = aWin (dCloses m c) (iN c) :=
        (aWin_cg l3 hol3 (fun i => dCloses_eqo.fw (by omega))).trans (aWin_cg k3 hol2 (fun i => hq.wk i 4))
      rw [show sL_close w (iN c) = _ from lW_s a1, ob, b1, if_neg (by decide), q_c10 R1 I1 hc1, ob, if_pos rfl, q_c1 R1 I1 hc1, ob, q1, if_pos rfl, q_c9 R1 I1 hc1, ob, op1, iF, vo1, if_neg (iN_m1 (by omega)), iN_nat (by omega), nd1, if_pos rfl,
        q_c8 R1 I1 hc1, ob, op1, iF, q8, if_pos rfl, q_c6 R1 I1 hc1, ob, op1, iF, q6, hop, iT, if_pos rfl, show sO_open w1 (iN c) = _ from okS_s b1', ob, ea, if_neg (iN_neg (by omega)), show sO_close w2 (iN c) = _ from okS_s c1', ob, win, if_pos rfl]
      exact ⟨w3, _, rfl, c2'.st, j_dCloses I2 (j_dOpens I1 J1' hc1) hc2, by omega, by omega, by omega, by omega⟩
  | succ j ih =>
    intro i n f hi hn hf
    obtain ⟨n, rfl⟩ : ∃ q, n = q + 1 := ⟨n - 1, by omega⟩
    have hi' : i < nC m := by omega
    rw [sL_boxes_256.eq_2, q_h2 hR hI, ob, if_neg (iN_nle (by omega) (by omega) (by omega)), iN_s]
    cases f
    · rw [b0, if_pos rfl]
      refine ih (i + 1) n false (by omega) (by omega) ⟨fun q => (by cases q), fun q => hf.mpr ⟨q.1, fun k hk => q.2 k (by omega)⟩⟩
    · rw [b1, if_neg (by decide), q_c2 hR hI hi', ob]
      have h1 := hf.mp rfl
      by_cases e : cr m i 2 = iN c
      · rw [if_pos e, q_c1 hR hI hi', ob]
        rcases cr_01 hI hi' with g | g
        · rw [g, if_pos rfl]
          refine ih (i + 1) n true (by omega) (by omega) ⟨fun _ => ⟨h1.1, fun k hk q => ?_⟩, fun _ => rfl⟩
          by_cases ek : k = i
          · subst ek; rw [g] at q; exact absurd q.2 (by decide)
          · exact h1.2 k (by omega) q
        · rw [g, if_neg (by decide)]
          exact ih (i + 1) n false (by omega) (by omega) ⟨fun q => (by cases q), fun q => (q.2 i (by omega) ⟨e, g⟩).elim⟩
      · rw [if_neg e]
        refine ih (i + 1) n true (by omega) (by omega) ⟨fun _ => ⟨h1.1, fun k hk q => ?_⟩, fun _ => rfl⟩
        by_cases ek : k = i
        · subst ek; exact e q.1
        · exact h1.2 k (by omega) q
theorem p_boxes {c : Nat} (hS : ST T w m) (hJ : Jv m) (hc : c < nC m) (x : Int32) : Res T m (sL_boxes w (iN c) x) := by
  have hR := hS.1
  have hI := hS.2.1
  have h12 := hI.ic12
  have h8 := hI.iv8
  have b0 : bI false = 0 := rfl
  have b1 : bI true = 1 := rfl
  obtain ⟨k, hk, elow⟩ := p_low (w := w) x (N := 2) (by decide) (by decide)
  have ez : ∀ s0 : Int32, ∀ l4 : Int32, (mOpen m c = false) → (l4 = 0 ∧ cr m c 1 = 1 ∨ l4 = 1 ∧ cr m c 1 = 0) → Res T m (sL_boxes_82 w (iN c) (m 0) l4 0) := fun _ l4 hm hl => by
    unfold sL_boxes_82
    rw [t_open hS hc hm, ob, if_pos rfl, if_pos rfl, q_c1 hR hI hc, ob]
    rcases hl with ⟨e, g⟩ | ⟨e, g⟩
    · rw [e, if_pos rfl, g, if_pos rfl]
      exact ⟨w, m, rfl, hS, hJ, rfl, rfl, rfl, rfl⟩
    · rw [e, if_neg (by decide), g, if_pos rfl]
      exact ⟨w, m, rfl, hS, hJ, rfl, rfl, rfl, rfl⟩
  have cl : ∀ f : Bool, (f = true ↔ cr m c 1 = 1) → Res T m (sL_boxes_256 FU w (iN c) (m 0) (bI f) (iN 0)) := fun f hf =>
    b256 hS hJ hc (nC m) 0 FU f (Nat.zero_add _) (by show nC m < 4096; omega) ⟨fun q => ⟨hf.mp q, fun k hk => absurd hk (Nat.not_lt_zero k)⟩, fun q => hf.mpr q.1⟩
  unfold sL_boxes
  rw [q_h0 hR hI, ob, q_c1 hR hI hc, ob]
  rcases hI.iob hc with ⟨g, gb⟩ | ⟨g, gb⟩
  · rw [g, if_pos rfl]
    unfold sL_boxes_20
    rw [q_c13 hR hI hc, ob]
    have key : ∀ s0 : Int32, s0 = bI (reach m c) → Res T m (sL_boxes_38 w (iN c) x (m 0) 1 s0) := by
      intro s0 hs0
      unfold sL_boxes_38
      rw [show sL_low w x 2 = _ from elow, ob]
      by_cases k0 : k = 0
      · rw [if_pos (by rw [k0]; rfl), if_neg (by decide)]
        cases hr : reach m c
        · rw [hr] at hs0
          rw [if_pos (show s0 = 0 from hs0)]
          exact ez 0 1 (by unfold mOpen; rw [gb, iF, hr, iF]) (Or.inr ⟨rfl, g⟩)
        · rw [hr] at hs0
          obtain ⟨v, hv, hvo⟩ := hI.irv hc hr
          rw [if_neg (by rw [hs0]; decide), q_c8 hR hI hc, ob, gb, iF, q_c9 hR hI hc, ob, gb, iF, hvo, if_neg (iN_m1 (by omega))]
          by_cases q : m 0 < cr m c 8 + nd m c (iN v).toNatClampNeg
          · rw [if_pos q]
            exact ez 0 1 (by unfold mOpen; rw [gb, iF, hr, iT, hvo, if_pos q]) (Or.inr ⟨rfl, g⟩)
          · rw [if_neg q]
            have hm : mOpen m c = true := by unfold mOpen; rw [gb, iF, hr, iT, hvo, if_neg q]
            obtain ⟨w1, a1, a2⟩ := u_open hS hc hm
            unfold sL_boxes_82
            rw [show sL_open w (iN c) = _ from lW_s a1, ob, if_neg (by decide)]
            exact b131 hJ hc hm rfl a2 (nC m) 0 FU (Nat.zero_add _) (by show nC m < 4096; omega)
      · have k1 : k = 1 := by omega
        subst k1
        rw [if_neg (by decide), if_neg (by decide)]
        exact cl false ⟨fun q => (by cases q), fun q => absurd (g.symm.trans q) (by decide)⟩
    cases hr : reach m c
    · rw [b0, if_neg (by decide)]
      exact key 0 (by rw [hr]; rfl)
    · rw [b1, if_pos rfl]
      exact key 1 (by rw [hr]; rfl)
  · have hr := open_reach hI c hc g
    rw [g, if_neg (by decide)]
    unfold sL_boxes_20
    rw [q_c13 hR hI hc, ob, hr, b1, if_pos rfl]
    unfold sL_boxes_38
    rw [show sL_low w x 2 = _ from elow, ob]
    by_cases k0 : k = 0
    · rw [if_pos (by rw [k0]; rfl), if_pos rfl]
      exact ez 0 0 (by unfold mOpen; rw [gb, iT]) (Or.inl ⟨rfl, g⟩)
    · have k1 : k = 1 := by omega
      subst k1
      rw [if_neg (by decide), if_pos rfl]
      exact cl true ⟨fun _ => g, fun _ => rfl⟩
end BX
