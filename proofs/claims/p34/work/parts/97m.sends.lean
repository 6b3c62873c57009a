/-! SENDS -/
section SD
variable {T z : Nat} {m m' : Nat → Int32} {w : Wl}
theorem wrf_v {i v : Nat} : wrf m i v = 0 ∨ wrf m i v = 5 ∨ wrf m i v = 6 ∨ wrf m i v = 7 := by
  unfold wrf lrf
  cases lgo m i
  · rw [iF]
    cases brd m i v
    · rw [iF]
      cases sut m i v
      · rw [iF]; exact Or.inr (Or.inr (Or.inr rfl))
      · rw [iT]; exact Or.inl rfl
    · rw [iT]; exact Or.inr (Or.inr (Or.inl rfl))
  · rw [iT]; exact Or.inr (Or.inl rfl)
theorem wref_v {c v : Nat} : aWref m c v = 0 ∨ aWref m c v = 5 ∨ aWref m c v = 6 ∨ aWref m c v = 7 := by
  have key := fld_inv (f := fun i a => if isin m (wk m i 4) (iN c) = true then (if wrf m i v = 0 then a else if a ≤ wrf m i v then a else wrf m i v) else a)
    (fun _ (a : Int32) => a = 8 ∨ a = 5 ∨ a = 6 ∨ a = 7) (nW m) 0 8 (Or.inl rfl) (fun k a _ _ ha => ?_)
  · unfold aWref
    rcases key with q | q | q | q
    · simp only [q]; exact Or.inl (if_pos trivial)
    · simp only [q]; exact Or.inr (Or.inl (if_neg (by decide)))
    · simp only [q]; exact Or.inr (Or.inr (Or.inl (if_neg (by decide))))
    · simp only [q]; exact Or.inr (Or.inr (Or.inr (if_neg (by decide))))
  · split
    · split
      · exact ha
      · next n0 =>
        split
        · exact ha
        · exact Or.inr (wrf_v.resolve_left n0)
    · exact ha
def rl8 (r : Int32) : Prop := r = 0 ∨ r = 4 ∨ r = 5 ∨ r = 6 ∨ r = 7 ∨ r = 8 ∨ r = 9 ∨ r = 10
theorem reason_c (hI : Iv T z m) {c v : Nat} {x : Int32} (hc : c < nC m) : (cr m c 1 = 1 ∧ aReason m c v x = 1) ∨ (cr m c 1 = 0 ∧ ((¬ cr m c 2 = -1 ∧ aReason m c v x = 2) ∨ (cr m c 2 = -1 ∧ ((cr m c 3 = -1 ∧ aReason m c v x = 3) ∨ rl8 (aReason m c v x))))) := by
  unfold aReason
  rcases hI.iob hc with ⟨g, gb⟩ | ⟨g, gb⟩
  · right
    refine ⟨g, ?_⟩
    rw [gb, iF]
    by_cases h2 : cr m c 2 = -1
    · right
      refine ⟨h2, ?_⟩
      rw [if_pos h2]
      by_cases h3 : cr m c 3 = -1
      · exact Or.inl ⟨h3, if_pos h3⟩
      · right
        rw [if_neg h3]
        split
        · exact Or.inr (Or.inl rfl)
        · split
          · exact Or.inr (Or.inl rfl)
          · split
            · split
              · split
                · split
                  · exact Or.inr (Or.inr (Or.inr (Or.inr (Or.inr (Or.inr (Or.inl rfl))))))
                  · exact Or.inl rfl
                · split
                  · exact Or.inl rfl
                  · exact Or.inr (Or.inr (Or.inr (Or.inr (Or.inr (Or.inr (Or.inr rfl))))))
              · exact Or.inr (Or.inr (Or.inr (Or.inr (Or.inr (Or.inl rfl)))))
            · rcases wref_v (m := m) (c := c) (v := v) with q | q | q | q
              · exact Or.inl q
              · exact Or.inr (Or.inr (Or.inl q))
              · exact Or.inr (Or.inr (Or.inr (Or.inl q)))
              · exact Or.inr (Or.inr (Or.inr (Or.inr (Or.inl q))))
    · exact Or.inl ⟨h2, if_neg h2⟩
  · left
    refine ⟨g, ?_⟩
    rw [gb, iT]
theorem best_c {c : Nat} {x : Int32} : ((aBest m c x).1 = -1 ∧ ∀ u, u < nV m → ¬ aReason m c u x = 0) ∨ ∃ u, u < nV m ∧ (aBest m c x).1 = iN u ∧ aReason m c u x = 0 := by
  have key := fld_inv (f := fun v (s : Int32 × Int32) => if aReason m c v x = 0 then (if s.1 = -1 then (iN v, aBy m c v) else if s.2 ≤ aBy m c v then s else (iN v, aBy m c v)) else s)
    (fun k (s : Int32 × Int32) => (s.1 = -1 ∧ ∀ u, u < k → ¬ aReason m c u x = 0) ∨ ∃ u, u < k ∧ s.1 = iN u ∧ aReason m c u x = 0) (nV m) 0 (-1, 0) (Or.inl ⟨rfl, fun u hu => absurd hu (Nat.not_lt_zero u)⟩) (fun k s _ hk hs => ?_)
  · rw [Nat.zero_add] at key
    exact key
  · by_cases h : aReason m c k x = 0
    · rw [if_pos h]
      split
      · exact Or.inr ⟨k, Nat.lt_succ_self k, rfl, h⟩
      · next h1 =>
        split
        · rcases hs with ⟨e, -⟩ | ⟨u, hu, e⟩
          · exact (h1 e).elim
          · exact Or.inr ⟨u, by omega, e⟩
        · exact Or.inr ⟨k, Nat.lt_succ_self k, rfl, h⟩
    · rw [if_neg h]
      rcases hs with ⟨e, g⟩ | ⟨u, hu, e⟩
      · refine Or.inl ⟨e, fun u hu => ?_⟩
        by_cases q : u = k
        · rw [q]; exact h
        · exact g u (by omega)
      · exact Or.inr ⟨u, by omega, e⟩
theorem sd_sums {c v u : Nat} {x : Int32} (hI : Iv T 12 m) (hc : c < nC m) (hv : v < nV m) (hx : ptr (nK m) x) (h : aReason m c v x = 0) (hu : u < nV m) (hu3 : cr m c 3 = iN u) :
    aVto (dSend m c v x) (iN v) = aVto m (iN v) + aVin (dSend m c v x) (iN c) ∧ aVat (dSend m c v x) (iN u) = aVat m (iN u) - aVin (dSend m c v x) (iN c) := by
  have h12 := hI.ic12
  have h16 := hI.iw16
  have h8 := hI.iv8
  have h4 := hI.ik4
  obtain ⟨-, -, h2, -, -⟩ := reason0 hI hc hv h
  obtain ⟨f3, f4, f5, fo, fout, fv, fh⟩ := send_f hI hc hv hx h
  have hx' := dSend_x (m := m) (c := c) (v := v) h4 hx
  generalize dSend m c v x = m1 at f3 f4 f5 fo fout fv fh hx'
  have hW : nW m1 = nW m := congrArg Int32.toNatClampNeg (hx' 3 (by omega) (by omega))
  have hw : ∀ i j, wk m1 i j = wk m i j := fun i j => hx' _ (by omega) (by omega)
  have hin : ∀ i, isin m1 (wk m1 i 4) (iN c) = isin m (wk m i 4) (iN c) := fun i => by unfold isin; rw [fh, hw]
  have key : ∀ i, i < nW m → (isin m (wk m i 4) (iN c) = true ∧ wat m i = iN u ∧ wto m i = -1 ∧ wat m1 i = -1 ∧ wto m1 i = iN v) ∨ (isin m (wk m i 4) (iN c) = false ∧ wat m1 i = wat m i ∧ wto m1 i = wto m i) := fun i hi => by
    rcases hI.iwp hi with e | ⟨d, hd, e⟩
    · right
      refine ⟨by rw [e, isin_m1], ?_, ?_⟩
      · rw [wat_no e, wat_no ((hw i 4).trans e), hw]
      · rw [wto_no e, wto_no ((hw i 4).trans e)]
    · have io := isin_out hI hc h2 d hd
      by_cases q : out m d = c
      · left
        have hvd : vof m d = iN u := by unfold vof; rw [q, hu3]
        refine ⟨by rw [e]; exact io.mpr q, by rw [wat_in (by omega) e, hvd], ?_, ?_, ?_⟩
        · rw [wto_in (by omega) e]
          exact (cr_at hI hd (by rw [hvd]; exact iN_m1 (by omega))).choose_spec.2.2.1
        · rw [wat_in (by omega) ((hw i 4).trans e), fv d hd, if_pos q]
        · rw [wto_in (by omega) ((hw i 4).trans e), fout d hd, q, f4]
      · right
        refine ⟨by rw [e]; exact Bool.eq_false_iff.mpr (fun w => q (io.mp w)), ?_, ?_⟩
        · rw [wat_in (by omega) ((hw i 4).trans e), fv d hd, if_neg q, wat_in (by omega) e]
        · rw [wto_in (by omega) ((hw i 4).trans e), fout d hd, wto_in (by omega) e]
          exact fo _ 4 (by have := hI.iout hd; omega) (by decide) (Or.inl q)
  have e1 : aVto m1 (iN v) = aVto m (iN v) + aVin m1 (iN c) := by
    rw [aVto_sm, aVto_sm, aVin_sm, hW, ← sm_add]
    refine sm_congr _ fun i hi => ?_
    rw [hin, hw]
    rcases key i hi with ⟨a, -, b, -, d⟩ | ⟨a, -, b⟩
    · rw [a, b, d, if_pos rfl, if_neg (m1_iN (by omega)), if_pos rfl, Int32.zero_add]
    · rw [a, b, if_neg (show ¬ false = true by decide), Int32.add_zero]
  have e2 : aVat m (iN u) = aVat m1 (iN u) + aVin m1 (iN c) := by
    rw [aVat_sm, aVat_sm, aVin_sm, hW, ← sm_add]
    refine sm_congr _ fun i hi => ?_
    rw [hin, hw]
    rcases key i hi with ⟨a, b, -, d, -⟩ | ⟨a, b, -⟩
    · rw [a, b, d, if_pos rfl, if_neg (m1_iN (by omega)), if_pos rfl, Int32.zero_add]
    · rw [a, b, if_neg (show ¬ false = true by decide), Int32.add_zero]
  exact ⟨e1, by rw [e2, Int32.add_sub_cancel]⟩
theorem d168 {c v : Nat} {x s0 : Int32} (hS : ST T w m) (hJ : Jv m) (hc : c < nC m) (hv : v < nV m) (hx : ptr (nK m) x) (h0 : ∀ u, u < nV m → vof m c = iN u → s0 = aVat m (iN u)) : Res T m (sL_sends_168 w (iN c) (iN v) x (aReason m c v x) (vof m c) (aVto m (iN v)) s0) := by
  have hI := hS.2.1
  have h12 := hI.ic12
  have h8 := hI.iv8
  have h4 := hI.ik4
  have hT := hI.itT
  have hT9 := hI.iT9
  unfold sL_sends_168
  by_cases h : aReason m c v x = 0
  · obtain ⟨w1, a1, a2⟩ := u_send hS hc hv hx h
    have S1 := a2.st
    have R1 := S1.1
    have I1 := S1.2.1
    obtain ⟨op, c1, c2, ⟨u, a, hu, huv, hu3, ha1, ha2, hway⟩, -⟩ := reason0 hI hc hv h
    have hvc : vof m c = iN u := by rw [vof_top (by omega) c2, hu3]
    obtain ⟨s1, s2⟩ := sd_sums hI hc hv hx h hu hu3
    obtain ⟨f3, f4, f5, fo, fout, fv, fh⟩ := send_f hI hc hv hx h
    have hx' := dSend_x (m := m) (c := c) (v := v) h4 hx
    have hco : ∀ k, k < nK m → x = iN k → co (dSend m c v x) k = -1 := fun k hk e => by rw [e]; exact dSend_co hk h4
    have J1' := j_dSend hI hJ hc hv hx h
    have told : cr (sendM m c v) c 5 = iN (tm m + a) := by rw [sendM_0.2.2.2.2.2.1, hu3, iN_nat (by omega), hway, hI.it, iN_add]
    rw [told] at a1 f5
    generalize dSend m c v x = m1 at *
    have hC : nC m1 = nC m := congrArg Int32.toNatClampNeg (hx' 2 (by omega) (by omega))
    have hV : nV m1 = nV m := congrArg Int32.toNatClampNeg (hx' 1 (by omega) (by omega))
    have hW : nW m1 = nW m := congrArg Int32.toNatClampNeg (hx' 3 (by omega) (by omega))
    have hK : nK m1 = nK m := congrArg Int32.toNatClampNeg (hx' 4 (by omega) (by omega))
    have ot : out m c = c := out_top (by omega) c2
    have ot1 : out m1 c = c := (fout c hc).trans ot
    have vt1 : vof m1 c = -1 := by rw [fv c hc, if_pos ot]
    have hc' : c < nC m1 := by omega
    have L : Res T m (sL_sends_291 w1 (iN c) (iN v) x) := by
      unfold sL_sends_291
      rw [q_ref R1 I1 hc' (by omega) (by rw [hK]; exact hx), ob]
      have : aReason m1 c v x = 3 := by
        unfold aReason opb
        rw [fo c 1 (by omega) (by decide) (by omega), c1, if_neg (show ¬ (0 : Int32) = 1 by decide), iF, fo c 2 (by omega) (by decide) (by omega), if_pos c2, if_pos f3]
      rw [if_pos this]
      exact ⟨w1, m1, rfl, S1, J1', hV, hC, hW, hK⟩
    rw [show sL_send w (iN c) (iN v) x = _ from lW_s a1, ob, if_pos h, q_h0 R1 I1, ob, show m1 0 = m 0 from hx' 0 (by omega) (by omega), hI.it, if_neg (iN_nle (by omega) (by omega) (by omega)),
      q_c4 R1 I1 hc', ob, ot1, if_pos f4, q_c5 R1 I1 hc', ob, ot1, if_pos f5, q_c3 R1 I1 hc', ob, if_pos vt1, q_v5 R1 I1 (by omega), ob, q_c12 R1 I1 hc', ob, if_pos s1, hvc, q_v4 R1 I1 (by omega), ob, h0 u hu hvc, if_pos s2]
    rcases hx with e | ⟨k, hk, e⟩
    · rw [if_pos e]
      exact L
    · rw [e] at L ⊢
      rw [if_neg (iN_m1 (by omega)), q_courier R1 I1 (by omega), ob, if_pos (hco k hk e)]
      exact L
  · rw [t_send hS hc hv hx h, ob, if_neg h, if_pos rfl]
    exact ⟨w, m, rfl, hS, hJ, rfl, rfl, rfl, rfl⟩
theorem d103 {c v : Nat} {x : Int32} (hS : ST T w m) (hJ : Jv m) (hc : c < nC m) (hv : v < nV m) (hx : ptr (nK m) x) (h3 : aReason m c v x = 3 → vof m c = -1) : Res T m (sL_sends_103 w (iN c) (iN v) x (aReason m c v x) (aBest m c x).1 (vof m c)) := by
  have hI := hS.2.1
  have h8 := hI.iv8
  have d144 : Res T m (sL_sends_144 w (iN c) (iN v) x (aReason m c v x) (vof m c)) := by
    unfold sL_sends_144
    rw [q_v5 hS.1 hI hv, ob]
    rcases hI.ivof hc with e | ⟨u, hu, e⟩
    · have := d168 (s0 := 0) hS hJ hc hv hx (fun u hu q => by rw [e] at q; exact (m1_iN (by omega) q).elim)
      rw [e] at this ⊢
      rw [if_neg (by decide)]
      exact this
    · have := d168 (s0 := aVat m (iN u)) hS hJ hc hv hx (fun u' hu' q => by rw [e] at q; rw [q])
      rw [e] at this ⊢
      rw [if_pos (iN_ge (by omega)), q_v4 hS.1 hI hu, ob]
      exact this
  have d115 : Res T m (sL_sends_115 w (iN c) (iN v) x (aReason m c v x) (aBest m c x).1 (vof m c)) := by
    unfold sL_sends_115
    rcases best_c (m := m) (c := c) (x := x) with ⟨e, g⟩ | ⟨u, hu, e, g⟩
    · rw [e, if_pos (by decide)]
      unfold sL_sends_131
      rw [if_pos rfl, if_neg (g v hv)]
      exact d144
    · rw [e, if_neg (iN_neg (by omega)), q_ref hS.1 hI hc hu hx, ob, if_pos g]
      unfold sL_sends_131
      rw [if_neg (iN_m1 (by omega))]
      exact d144
  unfold sL_sends_103
  by_cases q : aReason m c v x = 3
  · rw [if_pos q, if_pos (h3 q)]
    exact d115
  · rw [if_neg q]
    exact d115
theorem p_sends {c v : Nat} {x : Int32} (hS : ST T w m) (hJ : Jv m) (hc : c < nC m) (hv : v < nV m) (hx : ptr (nK m) x) : Res T m (sL_sends w (iN c) (iN v) x) := by
  have hI := hS.2.1
  have h12 := hI.ic12
  obtain ⟨w1, b1, b2⟩ := q_best hS.1 hI hc hx
  have S1 := hS.fr b2
  unfold sL_sends
  rw [q_ref hS.1 hI hc hv hx, ob, b1, ob, q_c3 S1.1 hI hc, ob, q_c1 S1.1 hI hc, ob]
  have D := d103 S1 hJ hc hv hx
  rcases reason_c hI (v := v) (x := x) hc with ⟨g, e⟩ | ⟨g, h⟩
  · rw [g, if_pos rfl]
    have D := D (fun q => by rw [e] at q; exact absurd q (by decide))
    rw [e] at D ⊢
    unfold sL_sends_40
    rw [if_neg (by decide), if_neg (by decide), if_pos rfl]
    unfold sL_sends_65
    rw [if_pos rfl, if_neg (by decide)]
    exact D
  · rw [g, if_neg (by decide)]
    rcases h with ⟨h2, e⟩ | ⟨h2, h⟩
    · have D := D (fun q => by rw [e] at q; exact absurd q (by decide))
      rw [e] at D ⊢
      unfold sL_sends_40
      rw [if_neg (by decide), if_neg (by decide), if_neg (by decide)]
      unfold sL_sends_65
      rw [if_pos rfl, if_pos rfl, if_pos rfl]
      unfold sL_sends_86
      rw [q_c2 S1.1 hI hc, ob]
      rcases hI.ihp hc with q | ⟨f, hf, q⟩
      · exact (h2 q).elim
      · rw [q, if_neg (iN_neg (by omega)), if_pos rfl]
        exact D
    · have fin : ∀ R : Int32, ¬ R < 0 → ¬ (10 : Int32) < R → ¬ R = 1 → ¬ R = 2 → Res T m (sL_sends_103 w1 (iN c) (iN v) x R (aBest m c x).1 (vof m c)) → Res T m (sL_sends_40 w1 (iN c) (iN v) x R (aBest m c x).1 (vof m c) 0) := fun R r1 r2 r3 r4 D => by
        unfold sL_sends_40
        rw [if_neg r1, if_neg r2, if_neg r3]
        unfold sL_sends_65
        rw [if_pos rfl, if_pos rfl, if_neg r4]
        unfold sL_sends_86
        rw [q_c2 S1.1 hI hc, ob, h2, if_pos (by decide), if_pos rfl]
        exact D
      rcases h with ⟨h3, e⟩ | h
      · have D := D (fun _ => by rw [vof_top (by omega) h2, h3])
        rw [e] at D ⊢
        exact fin 3 (by decide) (by decide) (by decide) (by decide) D
      · have n3 : ¬ aReason m c v x = 3 := by
          rcases h with e | e | e | e | e | e | e | e <;> rw [e] <;> decide
        have D := D (fun q => (n3 q).elim)
        rcases h with e | e | e | e | e | e | e | e <;> (rw [e] at D ⊢; exact fin _ (by decide) (by decide) (by decide) (by decide) D)
end SD
