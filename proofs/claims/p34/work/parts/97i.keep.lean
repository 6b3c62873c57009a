/-! THE INVARIANT is kept: makers and deeds -/
section KP
variable {T z : Nat} {m m' : Nat → Int32}
theorem Jv.fr (hJ : Jv m) (hV : nV m' = nV m) (hC : nC m' = nC m) (hW : nW m' = nW m) (ht : tm m' = tm m) (h2 : ∀ i, i < nW m → wk m' i 2 = wk m i 2) (h6 : ∀ i, i < nW m → wk m' i 6 = wk m i 6) (hw : ∀ i, i < nW m → wat m' i = wat m i)
    (hc : ∀ c, c < nC m → J2 m c → J2 m' c) (h5 : m' 5 = m 5) (h66 : m' 6 = m 6) (hv : ∀ v, v < 8 → vn m' v 4 = vn m v 4) (h8 : nV m ≤ 8) (hl : ∀ l, l < 6 → ln m' l 3 = ln m l 3 ∧ ln m' l 2 = ln m l 2) : Jv m' := by
  obtain ⟨j1, j2, j3, j4, j5, j6⟩ := hJ
  refine ⟨fun i hi => ?_, fun c h => hc c (by omega) (j2 c (by omega)), ?_, ?_, fun v h1 h2 => ?_, fun l h => ?_⟩
  · rw [hW] at hi
    obtain ⟨a, a1, a2, a3⟩ := j1 i hi
    exact ⟨a, a1, (h2 i hi).trans a2, fun q => a3 ((hw i hi).symm.trans q)⟩
  · rw [h5, hW, sm_congr (g := fun i => wk m i 6) _ (fun i hi => h6 i hi)]; exact j3
  · rw [h5, h66, hV, sm_congr (g := fun v => vn m v 4) _ (fun v h => hv v (by omega))]; exact j4
  · rw [hv v h2]; exact j5 v (by omega) h2
  · rw [(hl l h).1, (hl l h).2]; exact j6 l h
theorem vof_cg (hI : Iv T z m) (h2 : ∀ d, d < 12 → cr m' d 2 = cr m d 2) (h3 : ∀ d, d < nC m → cr m' d 3 = cr m d 3) {c : Nat} (hc : c < nC m) : vof m' c = vof m c := by
  have hh : hol m' = hol m := funext fun d => by
    unfold hol
    split
    · exact h2 d ‹_›
    · rfl
  unfold vof
  rw [show out m' c = out m c by unfold out; rw [hh]]
  exact h3 _ (hI.iout hc)
theorem wat_cg (hI : Iv T z m) {i : Nat} (hi : i < nW m) (h4 : wk m' i 4 = wk m i 4) (h5 : wk m' i 5 = wk m i 5) (hv : ∀ c, c < nC m → vof m' c = vof m c) : wat m' i = wat m i := by
  have h12 := hI.ic12
  rcases hI.iwp hi with e | ⟨c, hc, e⟩
  · rw [wat_no (h4.trans e), wat_no e, h5]
  · rw [wat_in (by omega) (h4.trans e), wat_in (by omega) e]
    exact hv c hc
theorem J2.cg {c : Nat} (h : J2 m c) (h1 : cr m' c 1 = cr m c 1) (h8 : cr m' c 8 = cr m c 8) (ht : tm m' = tm m) : J2 m' c := fun q => by
  obtain ⟨s, a, b⟩ := h (h1.symm.trans q)
  exact ⟨s, by omega, h8.trans b⟩
/-- where nothing changed but one crate's own row -/
theorem Jv.crate (hI : Iv T z m) (hJ : Jv m) {c : Nat} (hc : c < nC m) (he : eqo (145 + 9 * c) (154 + 9 * c) m m') (hv : ∀ d, d < nC m → vof m' d = vof m d) (h2 : J2 m' c) : Jv m' := by
  have h12 := hI.ic12
  obtain ⟨n1, n2, n3, n4, n5⟩ := he.fn (by omega)
  refine hJ.fr n1 n2 n3 n5 (fun i _ => he.fw (by omega)) (fun i _ => he.fw (by omega)) (fun i hi => wat_cg hI hi (he.fw (by omega)) (he.fw (by omega)) hv) (fun d hd hj => ?_) (he _ (by omega)) (he _ (by omega)) (fun v h => he.fv (by omega) h (by omega)) hI.iv8 (fun l h => ⟨he.fl (by omega) h (by omega), he.fl (by omega) h (by omega)⟩)
  by_cases e : d = c
  · subst e; exact h2
  · exact hj.cg (he.fr e (by omega)) (he.fr e (by omega)) n5
theorem j_dCloses (hI : Iv T z m) (hJ : Jv m) {c : Nat} (hc : c < nC m) : Jv (dCloses m c) := by
  have h12 := hI.ic12
  obtain ⟨q0, q1, q2, q3, q4, q5, q6, q7, q8⟩ := dCloses_c (m := m) (c := c)
  obtain ⟨n1, n2, n3, n4, n5⟩ := (dCloses_eqo (m := m) (c := c)).fn (by omega)
  refine hJ.crate hI hc dCloses_eqo (fun d hd => vof_cg hI (fun e he => ?_) (fun e he => ?_) hd) (fun _ => ⟨tm m, by omega, by rw [q8, hI.it]⟩)
  · by_cases h : e = c
    · subst h; exact q2
    · exact dCloses_eqo.fr h (by omega)
  · by_cases h : e = c
    · subst h; exact q3
    · exact dCloses_eqo.fr h (by omega)
theorem mUse_3 {d : Nat} {x : Int32} (h : mUse m d x = true) : opb m d = true ∧ reach m d = true ∧ vof m d = x := by
  unfold mUse at h
  cases h1 : opb m d
  · rw [h1, iF] at h; cases h
  · rw [h1, iT] at h
    cases h2 : reach m d
    · rw [h2, iF] at h; cases h
    · rw [h2, iT] at h
      by_cases h3 : vof m d = x
      · exact ⟨rfl, rfl, h3⟩
      · rw [if_neg h3] at h; cases h
theorem vof_nest (hI : Iv T z m) {c d : Nat} (hc : c < nC m) (hd : d < nC m) (h : mNest m c d = true) : ∀ e, e < nC m → vof (dNests m c d) e = vof m e := by
  have h12 := hI.ic12
  have hI' := i_dNests hI hc hd h
  have hn : nC (dNests m c d) = nC m := ((dNests_eqo (m := m) (c := c) (d := d)).fn (by omega)).2.1
  obtain ⟨hcd, hco, -, hc2, hc3, -, -⟩ := mNest_of hI hc h
  have hu : vof m d = cr m c 3 := by
    have := h
    unfold mNest at this
    rw [if_neg hcd, hco, iF, if_pos hc2, if_neg hc3] at this
    exact (mUse_3 this).2.2
  intro e he
  refine ch_ind hI' (P := fun e => vof (dNests m c d) e = vof m e) (fun e he q => ?_) (fun e f he hf q ih => ?_) e (by omega)
  · have hec : e ≠ c := fun w => by rw [w, dNests_2] at q; exact iN_m1 (by omega) q
    have e2 : cr m e 2 = -1 := (dNests_eqo.fr hec (by omega)).symm.trans q
    rw [vof_top (by omega) q, vof_top (by omega) e2]
    exact dNests_eqo.fr hec (by omega)
  · rw [vof_in hI' he hf q, ih]
    by_cases hec : e = c
    · subst hec
      rw [dNests_2] at q
      have := (iN_eq (by omega) (by omega)).mp q
      subst this
      rw [hu, vof_top (by omega) hc2]
    · have e2 : cr m e 2 = iN f := (dNests_eqo.fr hec (by omega)).symm.trans q
      rw [vof_in hI (by omega) (by omega) e2]
theorem j_dNests (hI : Iv T z m) (hJ : Jv m) {c d : Nat} (hc : c < nC m) (hd : d < nC m) (h : mNest m c d = true) : Jv (dNests m c d) := by
  obtain ⟨n1, n2, n3, n4, n5⟩ := (dNests_eqo (m := m) (c := c) (d := d)).fn (by omega)
  exact hJ.crate hI hc dNests_eqo (vof_nest hI hc hd h) ((hJ.2.1 c hc).cg (dNests_f (by decide)) (dNests_f (by decide)) n5)
theorem vof_take (hI : Iv T z m) {c : Nat} (hc : c < nC m) (h : mTake m c = true) : ∀ e, e < nC m → vof (dTakes m c) e = vof m e := by
  have h12 := hI.ic12
  have hI' := i_dTakes hI hc h
  have hn : nC (dTakes m c) = nC m := ((dTakes_eqo (m := m) (c := c)).fn (by omega)).2.1
  intro e he
  refine ch_ind hI' (P := fun e => vof (dTakes m c) e = vof m e) (fun e he q => ?_) (fun e f he hf q ih => ?_) e (by omega)
  · rw [vof_top (by omega) q]
    by_cases hec : e = c
    · subst hec; exact dTakes_3
    · have e2 : cr m e 2 = -1 := (dTakes_eqo.fr hec (by omega)).symm.trans q
      rw [vof_top (by omega) e2]
      exact dTakes_eqo.fr hec (by omega)
  · have hec : e ≠ c := fun w => by rw [w, dTakes_2] at q; exact m1_iN (by omega) q
    have e2 : cr m e 2 = iN f := (dTakes_eqo.fr hec (by omega)).symm.trans q
    rw [vof_in hI' he hf q, ih, vof_in hI (by omega) (by omega) e2]
theorem j_dTakes (hI : Iv T z m) (hJ : Jv m) {c : Nat} (hc : c < nC m) (h : mTake m c = true) : Jv (dTakes m c) := by
  obtain ⟨n1, n2, n3, n4, n5⟩ := (dTakes_eqo (m := m) (c := c)).fn (by omega)
  exact hJ.crate hI hc dTakes_eqo (vof_take hI hc h) ((hJ.2.1 c hc).cg (dTakes_f (by decide) (by decide)) (dTakes_f (by decide) (by decide)) n5)
/-- opening: cells 1 and 8 of crates alone -/
def opq (m a : Nat → Int32) : Prop := (∀ x, x < 145 ∨ 253 ≤ x → a x = m x) ∧ ∀ d, d < 12 → ∀ j, j < 8 → j ≠ 1 → cr a d j = cr m d j
theorem dOpens_q {c : Nat} (hc : c < 12) (hn : nC m ≤ 12) : opq m (dOpens m c) ∧ (∀ d, d < 12 → cr (dOpens m c) d 1 = if d = c then 1 else cr m d 1) ∧ ∀ d, d < 12 → cr (dOpens m c) d 8 = if d < nC m ∧ cr m d 2 = iN c ∧ ¬ (if d = c then 1 else cr m d 1) = 1 then m 0 else cr m d 8 := by
  have key := fld_inv (f := fun k a => if cr a k 2 = iN c then (if opb a k = true then a else upd a (145 + 9 * k + 8) (a 0)) else a)
    (fun k a => opq m a ∧ (∀ d, d < 12 → cr a d 1 = if d = c then 1 else cr m d 1) ∧ ∀ d, d < 12 → cr a d 8 = if d < k ∧ cr m d 2 = iN c ∧ ¬ (if d = c then 1 else cr m d 1) = 1 then m 0 else cr m d 8)
    (nC m) 0 (upd m (145 + 9 * c + 1) 1) ⟨⟨fun x hx => uN (by omega), fun d hd j hj hj1 => uN (by omega)⟩, fun d hd => ?_, fun d hd => ?_⟩ (fun k a _ hk h => ?_)
  · rw [Nat.zero_add] at key
    exact key
  · by_cases e : d = c
    · subst e; rw [if_pos rfl]; exact uS
    · rw [if_neg e]; exact uN (by omega)
  · rw [if_neg (fun q => Nat.not_lt_zero _ q.1)]; exact uN (by omega)
  · obtain ⟨⟨h1, h2⟩, h3, h4⟩ := h
    have hk12 : k < 12 := by omega
    have e2 : cr a k 2 = cr m k 2 := h2 k hk12 2 (by decide) (by decide)
    have e1 := h3 k hk12
    have e0 : a 0 = m 0 := h1 0 (by omega)
    have s8 : ∀ d, d < 12 → d ≠ k → (d < k + 1 ↔ d < k) := fun d _ hne => by omega
    by_cases q2 : cr a k 2 = iN c
    · rw [if_pos q2]
      by_cases q1 : opb a k = true
      · rw [if_pos q1]
        refine ⟨⟨h1, h2⟩, h3, fun d hd => ?_⟩
        rw [h4 d hd]
        by_cases e : d = k
        · subst e
          have : (if d = c then (1 : Int32) else cr m d 1) = 1 := by
            rw [← e1]; unfold opb at q1; split at q1; assumption; cases q1
          rw [if_neg (fun q => q.2.2 this), if_neg (fun q => q.2.2 this)]
        · simp only [s8 d hd e]
      · rw [if_neg q1]
        have n1 : ¬ (if k = c then (1 : Int32) else cr m k 1) = 1 := by
          rw [← e1]; intro w; exact q1 (by unfold opb; rw [if_pos w])
        refine ⟨⟨fun x hx => (uN (by omega)).trans (h1 x hx), fun d hd j hj hj1 => (show upd a _ _ _ = _ from uN (by omega)).trans (h2 d hd j hj hj1)⟩, fun d hd => (show upd a _ _ _ = _ from uN (by omega)).trans (h3 d hd), fun d hd => ?_⟩
        by_cases e : d = k
        · subst e
          rw [if_pos ⟨Nat.lt_succ_self _, e2.symm.trans q2, n1⟩]
          exact uS.trans e0
        · rw [show cr (upd a (145 + 9 * k + 8) (a 0)) d 8 = cr a d 8 from uN (by omega), h4 d hd]
          simp only [s8 d hd e]
    · rw [if_neg q2]
      refine ⟨⟨h1, h2⟩, h3, fun d hd => ?_⟩
      rw [h4 d hd]
      by_cases e : d = k
      · subst e
        rw [if_neg (fun q => q2 (e2.trans q.2.1)), if_neg (fun q => q2 (e2.trans q.2.1))]
      · simp only [s8 d hd e]
theorem opq.n {a : Nat → Int32} (h : opq m a) : nV a = nV m ∧ nC a = nC m ∧ nW a = nW m ∧ nK a = nK m ∧ tm a = tm m := ns_of (fun x _ hx => h.1 x (by omega))
theorem opq.wk {a : Nat → Int32} (h : opq m a) (i j : Nat) : wk a i j = wk m i j := h.1 _ (by omega)
theorem opq.vn {a : Nat → Int32} (h : opq m a) {v j : Nat} (hv : v < 8) (hj : j < 13) : vn a v j = vn m v j := h.1 _ (by omega)
theorem opq.vof {a : Nat → Int32} (h : opq m a) (hI : Iv T z m) {c : Nat} (hc : c < nC m) : vof a c = vof m c := by
  have h12 := hI.ic12
  exact vof_cg hI (fun d hd => h.2 d hd 2 (by decide) (by decide)) (fun d hd => h.2 d (by omega) 3 (by decide) (by decide)) hc
theorem j_dOpens (hI : Iv T z m) (hJ : Jv m) {c : Nat} (hc : c < nC m) : Jv (dOpens m c) := by
  have h12 := hI.ic12
  obtain ⟨hq, h1, h8⟩ := dOpens_q (m := m) (c := c) (by omega) h12
  obtain ⟨n1, n2, n3, n4, n5⟩ := hq.n
  refine hJ.fr n1 n2 n3 n5 (fun i _ => hq.wk i 2) (fun i _ => hq.wk i 6) (fun i hi => wat_cg hI hi (hq.wk i 4) (hq.wk i 5) (fun d hd => hq.vof hI hd)) (fun d hd hj => fun q => ?_) (hq.1 5 (by omega)) (hq.1 6 (by omega)) (fun v h => hq.vn h (by decide)) hI.iv8 (fun l h => ⟨hq.1 _ (by omega), hq.1 _ (by omega)⟩)
  rw [h1 d (by omega)] at q
  rw [h8 d (by omega), n5]
  by_cases e : d = c
  · rw [if_pos e] at q; exact absurd q (by decide)
  · rw [if_neg e] at q ⊢
    by_cases w : d < nC m ∧ cr m d 2 = iN c ∧ ¬ cr m d 1 = 1
    · rw [if_pos w]; exact ⟨tm m, Nat.le_refl _, hI.it⟩
    · rw [if_neg w]; exact hj q
theorem j_dPacks (hI : Iv T z m) (hJ : Jv m) {i c : Nat} (hi : i < nW m) (hc : c < nC m) (h : mPack m i c = true) : Jv (dPacks m i c) := by
  have h12 := hI.ic12
  have h16 := hI.iw16
  have he := dPacks_eqo (m := m) (i := i) (c := c)
  obtain ⟨n1, n2, n3, n4, n5⟩ := he.fn (by omega)
  have ho : ∀ k j, k ≠ i → j < 18 → wk (dPacks m i c) k j = wk m k j := fun k j hk hj => he _ (by omega)
  have hvo : ∀ d, d < nC m → vof (dPacks m i c) d = vof m d := fun d hd => vof_cg hI (fun e _ => he _ (by omega)) (fun e _ => he _ (by omega)) hd
  have hv : wk m i 4 = -1 ∧ vof m c = wk m i 5 := by
    unfold mPack at h
    by_cases e : wk m i 4 = -1
    · rw [if_pos e] at h
      exact ⟨e, (mUse_3 h).2.2⟩
    · rw [if_neg e] at h; cases h
  refine hJ.fr n1 n2 n3 n5 (fun k hk => ?_) (fun k hk => ?_) (fun k hk => ?_) (fun d hd hj => hj.cg (he _ (by omega)) (he _ (by omega)) n5) (he _ (by omega)) (he _ (by omega)) (fun v h => he.fv (by omega) h (by omega)) hI.iv8 (fun l h => ⟨he.fl (by omega) h (by omega), he.fl (by omega) h (by omega)⟩)
  · by_cases e : k = i
    · subst e; exact dPacks_f (by decide)
    · exact ho k 2 e (by decide)
  · by_cases e : k = i
    · subst e; exact dPacks_f (by decide)
    · exact ho k 6 e (by decide)
  · by_cases e : k = i
    · subst e
      rw [wat_in (by omega) dPacks_4, hvo c hc, wat_no hv.1, hv.2]
    · exact wat_cg hI hk (ho k 4 e (by decide)) (ho k 5 e (by decide)) hvo
theorem j_dUnpacks (hI : Iv T z m) (hJ : Jv m) {i : Nat} (hi : i < nW m) (h : mUnp m i = true) : Jv (dUnpacks m i) := by
  have h12 := hI.ic12
  have h16 := hI.iw16
  have he := dUnpacks_eqo (m := m) (i := i)
  obtain ⟨n1, n2, n3, n4, n5⟩ := he.fn (by omega)
  obtain ⟨c, hc, e4, hr⟩ := mUnp_of hI hi h
  have ho : ∀ k j, k ≠ i → j < 18 → wk (dUnpacks m i) k j = wk m k j := fun k j hk hj => he _ (by omega)
  have hvo : ∀ d, d < nC m → vof (dUnpacks m i) d = vof m d := fun d hd => vof_cg hI (fun e _ => he _ (by omega)) (fun e _ => he _ (by omega)) hd
  refine hJ.fr n1 n2 n3 n5 (fun k hk => ?_) (fun k hk => ?_) (fun k hk => ?_) (fun d hd hj => hj.cg (he _ (by omega)) (he _ (by omega)) n5) (he _ (by omega)) (he _ (by omega)) (fun v h => he.fv (by omega) h (by omega)) hI.iv8 (fun l h => ⟨he.fl (by omega) h (by omega), he.fl (by omega) h (by omega)⟩)
  · by_cases e : k = i
    · subst e; exact dUnpacks_f (by decide) (by decide)
    · exact ho k 2 e (by decide)
  · by_cases e : k = i
    · subst e; exact dUnpacks_f (by decide) (by decide)
    · exact ho k 6 e (by decide)
  · by_cases e : k = i
    · subst e
      rw [wat_no dUnpacks_4, dUnpacks_5, wat_in (by omega) e4, e4, iN_nat (by omega)]
    · exact wat_cg hI hk (ho k 4 e (by decide)) (ho k 5 e (by decide)) hvo
end KP
