/-! AN HOUR: what it leaves -/
section HO
variable {T z : Nat} {m m' a : Nat → Int32}
theorem go_f (hI : Iv T z m) {c : Nat} (hc : c < nC m) (ha : cr m c 3 = -1) : cr m c 2 = -1 ∧ cr m c 1 = 0 ∧ ∃ v, v < nV m ∧ cr m c 4 = iN v := by
  have h8 := hI.iv8
  rcases (hI.ico c hc).2.2.2.1 with ⟨-, q2, q1, q4, -⟩ | ⟨⟨v, hv, e⟩, -, -⟩
  · exact ⟨q2, q1, q4⟩
  · exact (iN_m1 (by omega) (e.symm.trans ha)).elim
theorem dArr_f (hI : Iv T z m) {c : Nat} (hc : c < nC m) (ha : cr m c 3 = -1) :
    (∀ x, x < 137 → x ≠ 7 → dArr m c x = m x) ∧ dArr m c 7 = m 7 + 1 ∧ (∀ d j, d < 12 → j < 9 → d ≠ c → cr (dArr m c) d j = cr m d j) ∧
    (cr (dArr m c) c 0 = cr m c 0 ∧ cr (dArr m c) c 1 = cr m c 1 ∧ cr (dArr m c) c 2 = cr m c 2 ∧ cr (dArr m c) c 3 = cr m c 4 ∧ cr (dArr m c) c 4 = -1 ∧ cr (dArr m c) c 5 = -1 ∧ cr (dArr m c) c 8 = m 0) ∧
    (∀ i j, i < 16 → j < 18 → j ≠ 2 → wk (dArr m c) i j = wk m i j) ∧ (∀ i, i < nW m → wk (dArr m c) i 2 = wk m i 2 - if isin m (wk m i 4) (iN c) = true then 1 else 0) ∧ hol (dArr m c) = hol m := by
  have h12 := hI.ic12
  have h16 := hI.iw16
  obtain ⟨i1, i2, i3, i3'⟩ := dA1_c hI hc ha
  obtain ⟨c0, c1, c2, c3, c4, c5, c6, c7, c8⟩ := dA2_c (a := dA1 m c) (c := c)
  have he := dA2_eqo (a := dA1 m c) (c := c)
  have e1 : ∀ d j, d < 12 → j < 9 → cr (dA1 m c) d j = cr m d j := fun d j hd hj => i2 _ (by omega)
  have hh2 : hol (dA2 (dA1 m c) c) = hol m := by
    rw [dA2_hol]
    funext d
    unfold hol
    split
    · exact e1 d 2 ‹_› (by decide)
    · rfl
  have hw2 : ∀ i j, wk (dA2 (dA1 m c) c) i j = wk m i j := fun i j => (he.fw (by omega)).trans (i2 _ (by omega))
  generalize hb : dA2 (dA1 m c) c = b at c0 c1 c2 c3 c4 c5 c6 c7 c8 he hh2 hw2
  have key := fld_inv (f := fB c) (fun k a => (∀ x, x < 253 → a x = b x) ∧ (∀ i j, i < 16 → j < 18 → j ≠ 2 → wk a i j = wk b i j) ∧ (∀ i, i < k → i < 16 → wk a i 2 = wk b i 2 - if isin b (wk b i 4) (iN c) = true then 1 else 0) ∧ ∀ i, k ≤ i → i < 16 → wk a i 2 = wk b i 2) (nW m) 0 b
    ⟨fun _ _ => rfl, fun _ _ _ _ _ => rfl, fun i hi => absurd hi (Nat.not_lt_zero i), fun _ _ _ => rfl⟩ (fun k a _ hk h => by
      obtain ⟨h1, h2, h3, h4⟩ := h
      have hh : hol a = hol b := funext fun d => by
        unfold hol
        split
        · exact h1 _ (by omega)
        · rfl
      have e4 : wk a k 4 = wk b k 4 := h2 k 4 (by omega) (by decide) (by decide)
      have ei : isin a (wk a k 4) (iN c) = isin b (wk b k 4) (iN c) := by unfold isin; rw [hh, e4]
      refine ⟨fun x hx => ?_, fun i j hi hj hj2 => ?_, fun i hi hi16 => ?_, fun i hi hi16 => ?_⟩
      · unfold fB; rw [uN (by omega)]; exact h1 x hx
      · show upd _ _ _ _ = _
        rw [uN (by omega)]; exact h2 i j hi hj hj2
      · by_cases e : i = k
        · subst e
          show upd _ _ _ _ = _
          rw [uS, ei, h4 i (Nat.le_refl _) hi16]
        · show upd _ _ _ _ = _
          rw [uN (by omega)]; exact h3 i (by omega) hi16
      · show upd _ _ _ _ = _
        rw [uN (by omega)]; exact h4 i (by omega) hi16)
  rw [Nat.zero_add] at key
  have hd : dArr m c = dA7 (fld (fB c) (nW m) 0 b) := by rw [← hb]; rfl
  rw [hd]
  generalize fld (fB c) (nW m) 0 b = F at key
  obtain ⟨k1, k2, k3, k4⟩ := key
  have s7 : ∀ x, x ≠ 7 → dA7 F x = F x := fun x h => by unfold dA7; rw [uN h]
  have cc : ∀ d j, d < 12 → j < 9 → cr (dA7 F) d j = cr b d j := fun d j hd hj => (s7 _ (by omega)).trans (k1 _ (by omega))
  have lo : ∀ x, x < 137 → b x = m x := fun x hx => (he x (by omega)).trans (i2 x (by omega))
  have ci : isin b = isin m := by unfold isin; rw [hh2]
  refine ⟨fun x hx h7 => (s7 x h7).trans ((k1 x (by omega)).trans (lo x hx)), ?_, fun d j hd hj hdc => (cc d j hd hj).trans ((he.fr hdc hj).trans (e1 d j hd hj)), ⟨?_, ?_, ?_, ?_, ?_, ?_, ?_⟩, fun i j hi hj hj2 => (s7 _ (by omega)).trans ((k2 i j hi hj hj2).trans (hw2 i j)), fun i hi => ?_, ?_⟩
  · unfold dA7
    rw [uS, k1 7 (by omega), lo 7 (by omega)]
  · rw [cc c 0 (by omega) (by decide), c0, e1 c 0 (by omega) (by decide)]
  · rw [cc c 1 (by omega) (by decide), c1, e1 c 1 (by omega) (by decide)]
  · rw [cc c 2 (by omega) (by decide), c2, e1 c 2 (by omega) (by decide)]
  · rw [cc c 3 (by omega) (by decide), c3, e1 c 4 (by omega) (by decide)]
  · rw [cc c 4 (by omega) (by decide), c4]
  · rw [cc c 5 (by omega) (by decide), c5]
  · rw [cc c 8 (by omega) (by decide), c8, i2 0 (by omega)]
  · rw [show wk (dA7 F) i 2 = wk F i 2 from s7 _ (by omega), k3 i hi (by omega), hw2, hw2, ci]
  · funext d
    unfold hol
    split
    · rw [cc d 2 ‹_› (by decide)]
      have := congrFun hh2 d
      unfold hol at this
      rwa [if_pos ‹_›, if_pos ‹_›] at this
    · rfl
theorem j_dArr (hI : Iv T z m) (hJ : Jv m) {c : Nat} (hc : c < nC m) (ha : cr m c 3 = -1) : Jv (dArr m c) := by
  have h12 := hI.ic12
  have h16 := hI.iw16
  have h8 := hI.iv8
  obtain ⟨n1, n2, n3, n4, n5, n6⟩ := dArr_n hI hc ha
  obtain ⟨g2, g1, v, hv, g4⟩ := go_f hI hc ha
  obtain ⟨x1, x2, x3, ⟨y0, y1, y2, y3, y4, y5, y8⟩, x5, x6, x7⟩ := dArr_f hI hc ha
  generalize dArr m c = m1 at *
  have ht : tm m1 = tm m := congrArg Int32.toNatClampNeg n5
  have ho : ∀ d, out m1 d = out m d := fun d => by unfold out; rw [x7]
  obtain ⟨j1, j2, j3, j4, j5, j6⟩ := hJ
  refine ⟨fun i hi => ?_, fun d hd => ?_, ?_, ?_, fun v h1 h2 => ?_, fun l h => ?_⟩
  · rw [n3] at hi
    obtain ⟨g, a1, a2, a3⟩ := j1 i hi
    have e2 := x6 i hi
    rcases hI.iwp hi with e | ⟨d, hd, e⟩
    · rw [e, isin_m1, if_neg (by decide), Int32.sub_zero, a2] at e2
      refine ⟨g, a1, e2, fun q => a3 ?_⟩
      rw [wat_no ((x5 i 4 (by omega) (by decide) (by decide)).trans e), x5 i 5 (by omega) (by decide) (by decide)] at q
      rw [wat_no e]; exact q
    · have io := isin_out hI hc g2 d hd
      have e4 : wk m1 i 4 = iN d := (x5 i 4 (by omega) (by decide) (by decide)).trans e
      by_cases q : out m d = c
      · rw [e, io.mpr q, if_pos rfl, a2] at e2
        have hw : wat m i = -1 := by rw [wat_in (by omega) e]; unfold vof; rw [q]; exact ha
        have hg := a3 hw
        obtain ⟨g', rfl⟩ : ∃ g', g = g' + 1 := ⟨g - 1, by omega⟩
        rw [iN_p] at e2
        refine ⟨g', by omega, e2, fun w => ?_⟩
        rw [wat_in (by omega) e4] at w
        unfold vof at w
        rw [ho, q, y3, g4] at w
        exact (iN_m1 (by omega) w).elim
      · rw [e, Bool.eq_false_iff.mpr (fun w => q (io.mp w)), if_neg (by decide), Int32.sub_zero, a2] at e2
        refine ⟨g, a1, e2, fun w => a3 ?_⟩
        rw [wat_in (by omega) e4] at w
        rw [wat_in (by omega) e]
        unfold vof at w ⊢
        rw [ho] at w
        rwa [x3 _ 3 (by have := hI.iout hd; omega) (by decide) q] at w
  · by_cases e : d = c
    · subst e
      intro _
      exact ⟨tm m, by omega, by rw [y8, hI.it]⟩
    · exact (j2 d (by omega)).cg (x3 d 1 (by omega) (by decide) e) (x3 d 8 (by omega) (by decide) e) ht
  · rw [x1 5 (by decide) (by decide), n3, sm_congr (f := fun i => wk m1 i 6) (g := fun i => wk m i 6) _ (fun i hi => x5 i 6 (by omega) (by decide) (by decide))]; exact j3
  · rw [x1 5 (by decide) (by decide), x1 6 (by decide) (by decide), n1, sm_congr (f := fun u => vn m1 u 4) (g := fun v => vn m v 4) _ (fun u hu => x1 _ (by omega) (by omega))]; exact j4
  · rw [show vn m1 v 4 = vn m v 4 from x1 _ (by omega) (by omega)]; exact j5 v (by omega) h2
  · rw [show ln m1 l 3 = ln m l 3 from x1 _ (by omega) (by omega), show ln m1 l 2 = ln m l 2 from x1 _ (by omega) (by omega)]; exact j6 l h
/-- where it is paid to -/
theorem dPay_k (hI : Iv T z m) {i : Nat} (hi : i < nW m) : ∃ K r, dPay m i = dPayK m i K (if wat m i = -1 then 8 else wat m i) r ∧ (K = 6 ∨ ∃ v, v < nV m ∧ K = 9 + 13 * v + 4) := by
  have h8 := hI.iv8
  unfold dPay
  rcases wat_ptr hI hi with e | ⟨v, hv, e⟩
  · rw [if_pos e]
    exact ⟨6, _, by rw [if_pos e], Or.inl rfl⟩
  · rw [if_neg (by rw [e]; exact iN_m1 (by omega))]
    exact ⟨_, _, by rw [if_neg (by rw [e]; exact iN_m1 (by omega))], Or.inr ⟨v, hv, by rw [e, iN_nat (by omega)]⟩⟩
theorem dPay_f (hI : Iv T z m) (hJ : Jv m) {i : Nat} (hi : i < nW m) :
    Jv (dPay m i) ∧ (∀ d j, d < 12 → j < 9 → cr (dPay m i) d j = cr m d j) ∧ (∀ k, k < nW m → wat (dPay m i) k = wat m k) ∧ (∀ k, k < nW m → k ≠ i → wk (dPay m i) k 7 = wk m k 7 ∧ wk (dPay m i) k 8 = wk m k 8) ∧
    (∃ g, 1 ≤ g ∧ g ≤ 10 ∧ wk (dPay m i) i 7 = iN g) ∧ wk (dPay m i) i 8 = (if wat m i = -1 then 8 else wat m i) := by
  have h12 := hI.ic12
  have h16 := hI.iw16
  have h8 := hI.iv8
  obtain ⟨K, r, e, hK⟩ := dPay_k hI hi
  rw [e]
  generalize (if wat m i = -1 then (8 : Int32) else wat m i) = x
  have hK2 : 5 < K ∧ K < 113 := by rcases hK with h | ⟨v, hv, h⟩ <;> omega
  have hs := dPayK_s (m := m) (i := i) (K := K) (x := x) (r := r)
  obtain ⟨p1, p2, p3, p4, p5⟩ := dPayK_w (m := m) (i := i) (K := K) (x := x) (r := r) (by omega)
  obtain ⟨-, n1, n2, n3, n4, n5⟩ := i_dPayK (x := x) (r := r) hI hi (by rcases hK with h | ⟨v, hv, h⟩; exact Or.inl h; exact Or.inr ⟨v, by omega, h⟩ : K = 6 ∨ ∃ v, v < 8 ∧ K = 9 + 13 * v + 4)
  have s5 : dPayK m i K x r 5 = m 5 + prm (wk m i 1) r := by unfold dPayK; rw [uN (by omega), uS]
  have sK : dPayK m i K x r K = m K + prm (wk m i 1) r := by unfold dPayK; rw [uS]
  have oth : ∀ k j, k ≠ i → j < 18 → wk (dPayK m i K x r) k j = wk m k j := fun k j hk hj => hs _ (by omega) (by omega) (by omega)
  have crr : ∀ d j, d < 12 → j < 9 → cr (dPayK m i K x r) d j = cr m d j := fun d j hd hj => hs _ (by omega) (by omega) (by omega)
  obtain ⟨-, -, -, -, -, k, hk, ek⟩ := hI.iwo i hi
  generalize dPayK m i K x r = m1 at *
  have w25 : ∀ k j, j < 6 → wk m1 k j = wk m k j := fun k j hj => by
    by_cases q : k = i
    · subst q; exact p1 j hj
    · exact oth k j q (by omega)
  have hvo : ∀ d, d < nC m → vof m1 d = vof m d := fun d hd => vof_cg hI (fun e he => crr e 2 he (by decide)) (fun e he => crr e 3 (by omega) (by decide)) hd
  have hwa : ∀ k, k < nW m → wat m1 k = wat m k := fun k hk => wat_cg hI hk (w25 k 4 (by decide)) (w25 k 5 (by decide)) hvo
  obtain ⟨j1, j2, j3, j4, j5, j6⟩ := hJ
  refine ⟨⟨fun k hk => ?_, fun d hd => (j2 d (by omega)).cg (crr d 1 (by omega) (by decide)) (crr d 8 (by omega) (by decide)) n5, ?_, ?_, fun v h1 h2 => ?_, fun l h => ?_⟩, crr, hwa, fun k _ hk => ⟨oth k 7 hk (by decide), oth k 8 hk (by decide)⟩, ?_, p4⟩
  · rw [n3] at hk
    obtain ⟨g, a1, a2, a3⟩ := j1 k hk
    exact ⟨g, a1, (w25 k 2 (by decide)).trans a2, fun q => a3 ((hwa k hk).symm.trans q)⟩
  · rw [s5, n3, sm_upd (f := fun i => wk m i 6) (g := fun i => wk m1 i 6) (v := i) (d := prm (wk m i 1) r) (nW m) hi (fun k _ hk => oth k 6 hk (by decide)) p2, j3]
  · rw [s5, n1]
    rcases hK with h | ⟨v, hv, h⟩
    · subst h
      rw [sK, sm_congr (f := fun u => vn m1 u 4) (g := fun v => vn m v 4) _ (fun u hu => hs _ (by omega) (by omega) (by omega)), j4, Int32.add_assoc]
    · have e6 : m1 6 = m 6 := hs 6 (by omega) (by omega) (by omega)
      rw [e6, sm_upd (f := fun u => vn m u 4) (g := fun u => vn m1 u 4) (v := v) (d := prm (wk m i 1) r) (nV m) hv (fun u hu hne => hs _ (by omega) (by omega) (by omega)) (by
        have := sK
        rw [h] at this
        exact this), j4]
      ac_rfl
  · rw [show vn m1 v 4 = vn m v 4 from hs _ (by omega) (by rcases hK with q | ⟨u, hu, q⟩ <;> omega) (by omega)]; exact j5 v (by omega) h2
  · rw [show ln m1 l 3 = ln m l 3 from hs _ (by omega) (by omega) (by omega), show ln m1 l 2 = ln m l 2 from hs _ (by omega) (by omega) (by omega)]; exact j6 l h
  · rw [p3]
    by_cases q : wk m i 7 = 10
    · rw [if_pos q]; exact ⟨10, by decide, by decide, rfl⟩
    · rw [if_neg q, ek, iN_s]
      refine ⟨k + 1, by omega, ?_, rfl⟩
      have : k ≠ 10 := fun w => q (by rw [ek, w]; rfl)
      omega
/-- the end of a day -/
theorem pays_f (hI : Iv T 12 m) (hJ : Jv m) : Iv T 12 (fld (fun i a => dPay a i) (nW m) 0 m) ∧ Jv (fld (fun i a => dPay a i) (nW m) 0 m) ∧ (∀ d j, d < 12 → j < 9 → cr (fld (fun i a => dPay a i) (nW m) 0 m) d j = cr m d j) ∧
    (nV (fld (fun i a => dPay a i) (nW m) 0 m) = nV m ∧ nC (fld (fun i a => dPay a i) (nW m) 0 m) = nC m ∧ nW (fld (fun i a => dPay a i) (nW m) 0 m) = nW m ∧ nK (fld (fun i a => dPay a i) (nW m) 0 m) = nK m ∧ tm (fld (fun i a => dPay a i) (nW m) 0 m) = tm m) ∧
    fld (fun i a => dPay a i) (nW m) 0 m 7 = m 7 ∧ (∀ i, i < nW m → (∃ g, 1 ≤ g ∧ g ≤ 10 ∧ wk (fld (fun i a => dPay a i) (nW m) 0 m) i 7 = iN g) ∧ wk (fld (fun i a => dPay a i) (nW m) 0 m) i 8 = (if wat m i = -1 then 8 else wat m i) ∧ wat (fld (fun i a => dPay a i) (nW m) 0 m) i = wat m i) := by
  have key := fld_inv (f := fun i a => dPay a i) (fun k a => Iv T 12 a ∧ Jv a ∧ (∀ d j, d < 12 → j < 9 → cr a d j = cr m d j) ∧ (nV a = nV m ∧ nC a = nC m ∧ nW a = nW m ∧ nK a = nK m ∧ tm a = tm m) ∧ a 7 = m 7 ∧ (∀ i, i < nW m → wat a i = wat m i) ∧ ∀ i, i < k → i < nW m → (∃ g, 1 ≤ g ∧ g ≤ 10 ∧ wk a i 7 = iN g) ∧ wk a i 8 = (if wat m i = -1 then 8 else wat m i)) (nW m) 0 m
    ⟨hI, hJ, fun _ _ _ _ => rfl, ⟨rfl, rfl, rfl, rfl, rfl⟩, rfl, fun _ _ => rfl, fun i hi => absurd hi (Nat.not_lt_zero i)⟩ (fun k a _ hk h => by
      obtain ⟨h1, h2, h3, ⟨h41, h42, h43, h44, h45⟩, h5, h6, h7⟩ := h
      have hka : k < nW a := by omega
      obtain ⟨i1, i2, i3, i4, i5, i6⟩ := i_dPay h1 hka
      obtain ⟨f1, f2, f3, f4, f5, f6⟩ := dPay_f h1 h2 hka
      refine ⟨i1, f1, fun d j hd hj => (f2 d j hd hj).trans (h3 d j hd hj), ⟨by omega, by omega, by omega, by omega, by omega⟩, (dPay_7 h1 hka).1.trans h5, fun i hi => (f3 i (by omega)).trans (h6 i hi), fun i hi hiw => ?_⟩
      by_cases e : i = k
      · subst e
        refine ⟨f5, ?_⟩
        rw [f6, h6 i hiw]
      · obtain ⟨q1, q2⟩ := f4 i (by omega) e
        rw [q1, q2]
        exact h7 i (by omega) hiw)
  rw [Nat.zero_add] at key
  obtain ⟨h1, h2, h3, h4, h5, h6, h7⟩ := key
  exact ⟨h1, h2, h3, h4, h5, fun i hi => ⟨(h7 i hi hi).1, (h7 i hi hi).2, h6 i hi⟩⟩
/-- how many arrive by a time -/
def arc (m : Nat → Int32) (x : Int32) (c : Nat) : Int32 := if cr m c 2 = -1 then (if cr m c 3 = -1 then (if x < cr m c 5 then 0 else 1) else 0) else 0
def ar (m : Nat → Int32) (x : Int32) : Int32 := sm (arc m x) (nC m)
/-- the hour without its day's end -/
theorem dH2_f (hI : Iv T 12 m) (hJ : Jv m) (hT : T + 1 ≤ 1000000000) :
    Iv (T + 1) 12 (dH2 m) ∧ Jv (dH2 m) ∧ (nV (dH2 m) = nV m ∧ nC (dH2 m) = nC m ∧ nW (dH2 m) = nW m ∧ nK (dH2 m) = nK m ∧ tm (dH2 m) = tm m + 1) ∧ dH2 m 5 = m 5 ∧ dH2 m 0 = iN (tm m + 1) ∧
    dH2 m 7 = m 7 + ar m (iN (tm m + 1)) ∧ (∀ x, tm m + 1 ≤ x → x < 2147483648 → ar m (iN x) = ar (dH2 m) (iN x) + ar m (iN (tm m + 1))) ∧ (∀ i, i < nW m → wk (dH2 m) i 7 = wk m i 7 ∧ wk (dH2 m) i 8 = wk m i 8) := by
  have h12 := hI.ic12
  have h16 := hI.iw16
  have h8 := hI.iv8
  have hT1 := hI.itT
  have hI0 := i_time hI hT
  have e0 : upd m 0 (m 0 + 1) 0 = iN (tm m + 1) := by rw [uS, hI.it, iN_s]
  have ex : ∀ x, x ≠ 0 → upd m 0 (m 0 + 1) x = m x := fun x hx => uN hx
  have n1 : nV (upd m 0 (m 0 + 1)) = nV m := congrArg Int32.toNatClampNeg (ex 1 (by decide))
  have n2 : nC (upd m 0 (m 0 + 1)) = nC m := congrArg Int32.toNatClampNeg (ex 2 (by decide))
  have n3 : nW (upd m 0 (m 0 + 1)) = nW m := congrArg Int32.toNatClampNeg (ex 3 (by decide))
  have n4 : nK (upd m 0 (m 0 + 1)) = nK m := congrArg Int32.toNatClampNeg (ex 4 (by decide))
  have n5 : tm (upd m 0 (m 0 + 1)) = tm m + 1 := by
    unfold tm
    rw [e0, iN_nat (by have := hI.iT9; unfold tm at *; omega)]
    rfl
  have hJ0 : Jv (upd m 0 (m 0 + 1)) := by
    obtain ⟨j1, j2, j3, j4, j5, j6⟩ := hJ
    refine ⟨fun i hi => ?_, fun d hd q => ?_, ?_, ?_, fun v h1 h2 => ?_, fun l h => ?_⟩
    · rw [n3] at hi
      obtain ⟨g, a1, a2, a3⟩ := j1 i hi
      refine ⟨g, a1, (ex _ (by omega)).trans a2, fun q => a3 (Eq.trans ?_ q)⟩
      exact (wat_cg (m' := upd m 0 (m 0 + 1)) hI hi (ex _ (by omega)) (ex _ (by omega)) (fun c h => vof_cg (m' := upd m 0 (m 0 + 1)) hI (fun d hd => ex _ (by omega)) (fun d hd => ex _ (by omega)) h)).symm
    · obtain ⟨s, s1, s2⟩ := j2 d (by omega) ((ex _ (by omega)).symm.trans q)
      exact ⟨s, by omega, (ex _ (by omega)).trans s2⟩
    · rw [ex 5 (by decide), n3, sm_congr (f := fun i => wk (upd m 0 (m 0 + 1)) i 6) (g := fun i => wk m i 6) _ (fun i hi => ex _ (by omega))]; exact j3
    · rw [ex 5 (by decide), ex 6 (by decide), n1, sm_congr (f := fun u => vn (upd m 0 (m 0 + 1)) u 4) (g := fun v => vn m v 4) _ (fun u hu => ex _ (by omega))]; exact j4
    · rw [show vn (upd m 0 (m 0 + 1)) v 4 = vn m v 4 from ex _ (by omega)]; exact j5 v (by omega) h2
    · rw [show ln (upd m 0 (m 0 + 1)) l 3 = ln m l 3 from ex _ (by omega), show ln (upd m 0 (m 0 + 1)) l 2 = ln m l 2 from ex _ (by omega)]; exact j6 l h
  have key := fld_inv (f := dH1) (fun k b => Iv (T + 1) k b ∧ Jv b ∧ (nV b = nV m ∧ nC b = nC m ∧ nW b = nW m ∧ nK b = nK m ∧ tm b = tm m + 1) ∧ b 5 = m 5 ∧ b 0 = iN (tm m + 1) ∧ b 7 = m 7 + sm (arc m (iN (tm m + 1))) k ∧
      (∀ c, k ≤ c → c < nC m → ∀ j, j < 9 → cr b c j = cr m c j) ∧ (∀ c, c < k → c < nC m → ∀ x, tm m + 1 ≤ x → x < 2147483648 → arc m (iN x) c = arc b (iN x) c + arc m (iN (tm m + 1)) c) ∧ (∀ i, i < nW m → wk b i 7 = wk m i 7 ∧ wk b i 8 = wk m i 8)) (nC m) 0 (upd m 0 (m 0 + 1))
    ⟨hI0, hJ0, ⟨n1, n2, n3, n4, n5⟩, ex 5 (by decide), e0, by rw [ex 7 (by decide)]; exact (Int32.add_zero _).symm, fun c _ _ j _ => ex _ (by omega), fun c hc => absurd hc (Nat.not_lt_zero c), fun i _ => ⟨ex _ (by omega), ex _ (by omega)⟩⟩ (fun k b _ hk h => by
      obtain ⟨g1, g2, ⟨g31, g32, g33, g34, g35⟩, g4, g5, g6, g7, g8, g9⟩ := h
      have hkm : k < nC m := by omega
      have hkb : k < nC b := by omega
      have c2 : cr b k 2 = cr m k 2 := g7 k (Nat.le_refl _) hkm 2 (by decide)
      have c3 : cr b k 3 = cr m k 3 := g7 k (Nat.le_refl _) hkm 3 (by decide)
      have c5 : cr b k 5 = cr m k 5 := g7 k (Nat.le_refl _) hkm 5 (by decide)
      -- where it does not arrive
      have stay : Iv (T + 1) (k + 1) b → arc m (iN (tm m + 1)) k = 0 → Iv (T + 1) (k + 1) b ∧ Jv b ∧ (nV b = nV m ∧ nC b = nC m ∧ nW b = nW m ∧ nK b = nK m ∧ tm b = tm m + 1) ∧ b 5 = m 5 ∧ b 0 = iN (tm m + 1) ∧ b 7 = m 7 + sm (arc m (iN (tm m + 1))) (k + 1) ∧
          (∀ c, k + 1 ≤ c → c < nC m → ∀ j, j < 9 → cr b c j = cr m c j) ∧ (∀ c, c < k + 1 → c < nC m → ∀ x, tm m + 1 ≤ x → x < 2147483648 → arc m (iN x) c = arc b (iN x) c + arc m (iN (tm m + 1)) c) ∧ (∀ i, i < nW m → wk b i 7 = wk m i 7 ∧ wk b i 8 = wk m i 8) := fun hi hz => by
        refine ⟨hi, g2, ⟨g31, g32, g33, g34, g35⟩, g4, g5, ?_, fun c h1 h2 => g7 c (by omega) h2, fun c h1 h2 x hx hx2 => ?_, g9⟩
        · show b 7 = m 7 + (sm (arc m (iN (tm m + 1))) k + arc m (iN (tm m + 1)) k)
          rw [hz, Int32.add_zero]; exact g6
        · by_cases e : c = k
          · subst e
            rw [hz, Int32.add_zero]
            unfold arc
            rw [c2, c3, c5]
          · exact g8 c (by omega) h2 x hx hx2
      unfold dH1
      by_cases q3 : cr b k 3 = -1
      · rw [if_pos q3]
        obtain ⟨q2, q1, v, hv, q4⟩ := go_f g1 hkb q3
        rw [if_pos q2]
        have m2 : cr m k 2 = -1 := c2.symm.trans q2
        have m3 : cr m k 3 = -1 := c3.symm.trans q3
        obtain ⟨-, -, -, α, ha1, ha2, ha5⟩ := cr_go hI hkm ((vof_top (by omega) m2).trans m3)
        rw [out_top (by omega) m2] at ha5
        have hT9 := hI.iT9
        by_cases h : cr b k 5 = b 0
        · rw [if_pos h]
          have hα : α = tm m + 1 := by
            rw [c5, ha5, g5] at h
            exact (iN_eq (by omega) (by omega)).mp h
          obtain ⟨x1, x2, x3, ⟨y0, y1, y2, y3, y4, y5, y8⟩, x5, x6, x7⟩ := dArr_f g1 hkb q3
          obtain ⟨p1, p2, p3, p4, p5, p6⟩ := dArr_n g1 hkb q3
          have one : ∀ x, tm m + 1 ≤ x → x < 2147483648 → arc m (iN x) k = 1 := fun x hx hx2 => by
            unfold arc
            rw [if_pos m2, if_pos m3, ha5, hα, if_neg (fun w => by have := (iN_lt hx2 (by omega)).mp w; omega)]
          have oneT := one (tm m + 1) (Nat.le_refl _) (by omega)
          refine ⟨i_dArr g1 hkb q3, j_dArr g1 g2 hkb q3, ⟨by omega, by omega, by omega, by omega, (congrArg Int32.toNatClampNeg p5).trans g35⟩, (x1 5 (by decide) (by decide)).trans g4, p5.trans g5, ?_, fun c h1 h2 j hj => (x3 c j (by omega) hj (by omega)).trans (g7 c (by omega) h2 j hj), fun c h1 h2 x hx hx2 => ?_, fun i hi => ?_⟩
          · rw [p6, g6, Int32.add_assoc]
            show _ = m 7 + (sm (arc m (iN (tm m + 1))) k + arc m (iN (tm m + 1)) k)
            rw [oneT]
          · by_cases e : c = k
            · subst e
              rw [one x hx hx2, oneT]
              have : arc (dArr b c) (iN x) c = 0 := by
                unfold arc
                rw [y2, q2, if_pos rfl, y3, q4, if_neg (iN_m1 (by omega))]
              rw [this]; decide
            · rw [g8 c (by omega) h2 x hx hx2]
              unfold arc
              rw [x3 c 2 (by omega) (by decide) e, x3 c 3 (by omega) (by decide) e, x3 c 5 (by omega) (by decide) e]
          · rw [x5 i 7 (by omega) (by decide) (by decide), x5 i 8 (by omega) (by decide) (by decide)]
            exact g9 i hi
        · rw [if_neg h]
          refine stay (g1.iz1 (fun _ => h)) ?_
          have hα : α ≠ tm m + 1 := fun w => h (by rw [c5, ha5, g5, w])
          unfold arc
          rw [if_pos m2, if_pos m3, ha5, if_pos ((iN_lt (by omega) (by omega)).mpr (by omega))]
      · rw [if_neg q3]
        refine stay (g1.iz1 (fun q => (q3 q).elim)) ?_
        unfold arc
        by_cases w : cr m k 2 = -1
        · rw [if_pos w, if_neg (fun y => q3 (c3.trans y))]
        · rw [if_neg w])
  rw [Nat.zero_add] at key
  obtain ⟨g1, g2, ⟨g31, g32, g33, g34, g35⟩, g4, g5, g6, g7, g8, g9⟩ := key
  have g1 : Iv (T + 1) (nC m) (dH2 m) := g1
  have g32' : nC (dH2 m) = nC m := g32
  refine ⟨g1.izz (fun c hc h1 h2 h3 => by omega), g2, ⟨g31, g32, g33, g34, g35⟩, g4, g5, g6, fun x hx hx2 => ?_, g9⟩
  unfold ar
  rw [g32', ← sm_add]
  exact sm_congr _ fun c hc => g8 c hc hc x hx hx2
/-- an hour -/
theorem dHour_f (hI : Iv T 12 m) (hJ : Jv m) (hT : T + 1 ≤ 1000000000) :
    Iv (T + 1) 12 (dHour m) ∧ Jv (dHour m) ∧ (nV (dHour m) = nV m ∧ nC (dHour m) = nC m ∧ nW (dHour m) = nW m ∧ nK (dHour m) = nK m ∧ tm (dHour m) = tm m + 1) ∧
    dHour m 7 = m 7 + ar m (iN (tm m + 1)) ∧ (∀ x, tm m + 1 ≤ x → x < 2147483648 → ar m (iN x) = ar (dHour m) (iN x) + ar m (iN (tm m + 1))) ∧
    (¬ (tm m + 1) % 24 = 0 → dHour m 5 = m 5 ∧ ∀ i, i < nW m → wk (dHour m) i 7 = wk m i 7 ∧ wk (dHour m) i 8 = wk m i 8) ∧
    ((tm m + 1) % 24 = 0 → ∀ i, i < nW m → (∃ g, 1 ≤ g ∧ g ≤ 10 ∧ wk (dHour m) i 7 = iN g) ∧ wk (dHour m) i 8 = (if wat (dHour m) i = -1 then 8 else wat (dHour m) i)) := by
  have h12 := hI.ic12
  have hT1 := hI.itT
  obtain ⟨g1, g2, ⟨g31, g32, g33, g34, g35⟩, g4, g5, g6, g7, g9⟩ := dH2_f hI hJ hT
  have hle : (tm m + 1) / 24 * 24 ≤ tm m + 1 := Nat.div_mul_le_self _ _
  have hda := Nat.div_add_mod (tm m + 1) 24
  have hcond : dH2 m 0 - dH2 m 0 / 24 * 24 = iN ((tm m + 1) % 24) := by
    have hd : iN (tm m + 1) / iN 24 = iN ((tm m + 1) / 24) := (Int32.ofNat_div (by omega) (by decide)).symm
    rw [g5, show (24 : Int32) = iN 24 from rfl, hd, iN_mul, iN_sub hle]
    congr 1
    omega
  unfold dHour
  rw [hcond]
  by_cases h : (tm m + 1) % 24 = 0
  · rw [if_pos (by rw [h]; rfl)]
    obtain ⟨f1, f2, f3, ⟨f41, f42, f43, f44, f45⟩, f5, f6⟩ := pays_f g1 g2
    rw [g33] at f1 f2 f3 f41 f42 f43 f44 f45 f5 f6
    refine ⟨f1, f2, ⟨f41.trans g31, f42.trans g32, f43, f44.trans g34, f45.trans g35⟩, f5.trans g6, fun x hx hx2 => ?_, fun q => (q h).elim, fun _ i hi => ?_⟩
    · rw [g7 x hx hx2]
      congr 1
      unfold ar
      rw [f42]
      refine sm_congr _ fun c hc => ?_
      rw [g32] at hc
      unfold arc
      rw [f3 c 2 (by omega) (by decide), f3 c 3 (by omega) (by decide), f3 c 5 (by omega) (by decide)]
    · obtain ⟨q1, q2, q3⟩ := f6 i hi
      exact ⟨q1, by rw [q2, q3]⟩
  · rw [if_neg (show ¬ iN ((tm m + 1) % 24) = 0 from fun q => h ((iN_eq (b := 0) (by omega) (by decide)).mp q))]
    exact ⟨g1, g2, ⟨g31, g32, g33, g34, g35⟩, g6, g7, fun _ => ⟨g4, g9⟩, fun q => (h q).elim⟩
end HO
