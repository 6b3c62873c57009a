/-! A STEP OF THE LAW: which one; all steps -/
section SF
variable {T n : Nat} {m m' : Nat → Int32} {w w' : Wl} {lo : Int32 → Option Int32}
theorem iN_le' {a : Nat} {b : Nat} {B : Int32} (hB : B = iN b) (ha : a < 2147483648) (hb : b < 2147483648) : B ≤ iN a ↔ b ≤ a := by rw [hB]; exact iN_le hb ha
theorem iN_eq' {a : Nat} {b : Nat} {B : Int32} (hB : B = iN b) (ha : a < 2147483648) (hb : b < 2147483648) : iN a = B ↔ a = b := by rw [hB]; exact iN_eq ha hb
theorem lend1 : ∀ k, k < 8 → ∃ a, a ≤ 255 ∧ ((1 : Int32) <<< (iN k &&& 31)) = iN a ∧ leB (iN 3) (iN a) = true := by
  intro k hk
  refine ⟨2 ^ k, ?_, ?_, ?_⟩
  · exact (by decide : ∀ k, k < 8 → 2 ^ k ≤ 255) k hk
  · exact (by decide +kernel : ∀ k, k < 8 → ((1 : Int32) <<< (iN k &&& 31)) = iN (2 ^ k)) k hk
  · exact (by decide +kernel : ∀ k, k < 8 → leB (iN 3) (iN (2 ^ k)) = true) k hk
theorem lend2 : ∀ k, k < 41 → leB (iN 2) (iN (50 + k)) = true := by decide +kernel
theorem e216 {y : Int32} {v c i k : Nat} (hS : ST T w m) (hJ : Jv m) (hT : T + 480 ≤ 1000000000) (hk : k < 22) (hn : n < 76) (hC : Cn n m)
    (hnk : (n < 3 ∧ k = 0) ∨ (3 ≤ n ∧ n < 8 ∧ k = 1) ∨ (8 ≤ n ∧ n < 13 ∧ k = 2) ∨ (13 ≤ n ∧ n < 19 ∧ k = 3) ∨ (19 ≤ n ∧ n < 21 ∧ k = 4) ∨ 21 ≤ n) (hv : 0 < nV m → v < nV m) (hc : 0 < nC m → c < nC m) (hi : 0 < nW m → i < nW m) :
    Fin1 (T + 480) (n + 1) (sL_step_216 lo (iN n) w y (iN (nV m)) (iN (nC m)) (iN (nW m)) (iN (nK m)) (iN k) (iN v) (iN c) (iN i)) := by
  have hI := hS.2.1
  have h8 := hI.iv8
  have h12 := hI.ic12
  have h16 := hI.iw16
  have h4 := hI.ik4
  obtain ⟨hC1, hC2, hC3⟩ := hC
  have same : ¬ n < 3 → (n < 8 ∨ 21 ≤ n ∨ k = 4) → ∀ m', nV m' = nV m → nC m' = nC m → nW m' = nW m → Cn (n + 1) m' := fun a b m' q1 q2 q3 => ⟨by omega, by omega, by omega⟩
  have up : ∀ o, Fin1 T (n + 1) o → Fin1 (T + 480) (n + 1) o := fun o h => h.mT (by omega) hT
  have k32 : k < 2147483648 := by omega
  unfold sL_step_216
  by_cases k0 : k = 0
  · rw [if_pos (show iN k = 0 by rw [k0]; rfl)]
    refine up _ ?_
    obtain ⟨r1, hr1, e1⟩ := p_low (w := w) y (N := 51) (by decide) (by decide)
    obtain ⟨r2, hr2, e2⟩ := p_low (w := w) (y >>> ((6 : Int32) &&& 31)) (N := 71) (by decide) (by decide)
    obtain ⟨r3, hr3, e3⟩ := p_low (w := w) (y >>> ((13 : Int32) &&& 31)) (N := 501) (by decide) (by decide)
    obtain ⟨r4, hr4, e4⟩ := p_low (w := w) (y >>> ((22 : Int32) &&& 31)) (N := 3) (by decide) (by decide)
    have cn : ∀ m', nV m ≤ nV m' → (nV m' = nV m + 1 ∨ nV m = 8) → nC m' = nC m → nW m' = nW m → Cn (n + 1) m' := fun m' q1 q2 q3 q4 => ⟨by omega, by omega, by omega⟩
    have cl : clB (iN r1 - 10) ((20 : Int32) + iN r2) = true := by unfold clB; rw [rng_cl.1 r1 hr1, rng_cl.2.1 r2 hr2]; rfl
    have lw : ∀ w' : Wl, ∃ k, sL_low w' y 51 = some k ∧ iN r1 - 10 = k - 10 := fun w' => ⟨iN r1, e1, rfl⟩
    rw [show sL_low w y 51 = _ from e1, ob, show sL_low w (y >>> ((6 : Int32) &&& 31)) 71 = _ from e2, ob, show sL_low w (y >>> ((13 : Int32) &&& 31)) 501 = _ from e3, ob, show sL_low w (y >>> ((22 : Int32) &&& 31)) 3 = _ from e4, ob]
    by_cases q : iN r4 = 0
    · rw [if_pos q]; exact e_venue hS hJ cn cl (rng_cl.2.2.2 r3 hr3) (by decide) lw
    · rw [if_neg q]; exact e_venue hS hJ cn cl (rng_cl.2.2.2 r3 hr3) (by decide) lw
  have n3 : ¬ n < 3 := by omega
  have hV : 0 < nV m := by omega
  have hv := hv hV
  rw [if_neg (show ¬ iN k = 0 from fun q => k0 ((iN_eq' (b := 0) rfl k32 (by decide)).mp q))]
  by_cases k1 : k = 1
  · rw [if_pos (show iN k = 1 by rw [k1]; rfl)]
    refine up _ ?_
    obtain ⟨b, hb, e1⟩ := p_low (w := w) y hV (show nV m < 2147483648 by omega)
    obtain ⟨r2, hr2, e2⟩ := p_low (w := w) (y >>> ((4 : Int32) &&& 31)) (N := 40) (by decide) (by decide)
    rw [e1, ob, show sL_low w (y >>> ((4 : Int32) &&& 31)) 40 = _ from e2, ob]
    exact e_way (y := y) hS hJ (same n3 (by omega)) hv hb hr2
  rw [if_neg (show ¬ iN k = 1 from fun q => k1 ((iN_eq' (b := 1) rfl k32 (by decide)).mp q))]
  by_cases k2 : k = 2
  · rw [if_pos (show iN k = 2 by rw [k2]; rfl)]
    refine up _ ?_
    have cn : ∀ m', nV m' = nV m → nC m ≤ nC m' → (nC m' = nC m + 1 ∨ nC m = 12) → nW m' = nW m → Cn (n + 1) m' := fun m' q1 q2 q3 q4 => ⟨by omega, by omega, by omega⟩
    by_cases q : (13 : Int32) ≤ iN n
    · rw [if_pos q]; exact e_crate hS hJ cn hv
    · rw [if_neg q]; exact e_crate (v := 0) hS hJ cn hV
  rw [if_neg (show ¬ iN k = 2 from fun q => k2 ((iN_eq' (b := 2) rfl k32 (by decide)).mp q))]
  by_cases k3 : k = 3
  · rw [if_pos (show iN k = 3 by rw [k3]; rfl)]
    refine up _ ?_
    have cn : ∀ m', nV m' = nV m → nC m' = nC m → nW m ≤ nW m' → (nW m' = nW m + 1 ∨ nW m = 16) → Cn (n + 1) m' := fun m' q1 q2 q3 q4 => ⟨by omega, by omega, by omega⟩
    by_cases q : (19 : Int32) ≤ iN n
    · rw [if_pos q]; exact e_work hS hJ cn hv
    · rw [if_neg q]; exact e_work (v := 0) hS hJ cn hV
  rw [if_neg (show ¬ iN k = 3 from fun q => k3 ((iN_eq' (b := 3) rfl k32 (by decide)).mp q))]
  by_cases k4 : k = 4
  · rw [if_pos (show iN k = 4 by rw [k4]; rfl)]
    refine up _ ?_
    exact e_courier hS hJ (same n3 (Or.inr (Or.inr k4))) hv
  have n21 : 21 ≤ n := by omega
  have hC' : 0 < nC m := by omega
  have hW' : 0 < nW m := by omega
  have hc := hc hC'
  have hi := hi hW'
  have same := same n3 (Or.inr (Or.inl n21))
  rw [if_neg (show ¬ iN k = 4 from fun q => k4 ((iN_eq' (b := 4) rfl k32 (by decide)).mp q))]
  by_cases k5 : k = 5
  · rw [if_pos (show iN k = 5 by rw [k5]; rfl)]
    refine up _ ?_
    exact e_climate hS hJ same hv
  rw [if_neg (show ¬ iN k = 5 from fun q => k5 ((iN_eq' (b := 5) rfl k32 (by decide)).mp q))]
  by_cases k6 : k = 6
  · rw [if_pos (show iN k = 6 by rw [k6]; rfl)]
    refine up _ ?_
    obtain ⟨r1, hr1, e1⟩ := p_low (w := w) y (N := 4) (by decide) (by decide)
    obtain ⟨l, hl, e2⟩ := p_low (w := w) (y >>> ((2 : Int32) &&& 31)) (N := 6) (by decide) (by decide)
    obtain ⟨r3, hr3, e3⟩ := p_low (w := w) (y >>> ((5 : Int32) &&& 31)) (N := 8) (by decide) (by decide)
    obtain ⟨r4, hr4, e4⟩ := p_low (w := w) (y >>> ((5 : Int32) &&& 31)) (N := 41) (by decide) (by decide)
    rw [show sL_low w y 4 = _ from e1, ob]
    by_cases q : iN r1 = 0
    · obtain ⟨a, ha, ea, eb⟩ := lend1 r3 hr3
      rw [if_pos q, show sL_low w (y >>> ((2 : Int32) &&& 31)) 6 = _ from e2, ob, show sL_low w (y >>> ((5 : Int32) &&& 31)) 8 = _ from e3, ob, ea]
      exact e_lender (j := 3) hS hJ same hl (Or.inl rfl) ha eb
    · rw [if_neg q, show sL_low w (y >>> ((2 : Int32) &&& 31)) 6 = _ from e2, ob, show sL_low w (y >>> ((5 : Int32) &&& 31)) 41 = _ from e4, ob, show (50 : Int32) + iN r4 = iN (50 + r4) from iN_add 50 r4]
      exact e_lender (j := 2) hS hJ same hl (Or.inr rfl) (by omega) (lend2 r4 hr4)
  rw [if_neg (show ¬ iN k = 6 from fun q => k6 ((iN_eq' (b := 6) rfl k32 (by decide)).mp q))]
  by_cases k11 : 11 ≤ k
  · rw [if_pos ((iN_le' (B := 11) (b := 11) rfl k32 (by decide)).mpr k11)]
    by_cases k15 : 15 ≤ k
    · rw [if_pos ((iN_le' (B := 15) (b := 15) rfl k32 (by decide)).mpr k15)]
      by_cases k18 : 18 ≤ k
      · rw [if_pos ((iN_le' (B := 18) (b := 18) rfl k32 (by decide)).mpr k18)]
        obtain ⟨r1, hr1, e1⟩ := p_low (w := w) (y >>> ((10 : Int32) &&& 31)) (N := 5) (by decide) (by decide)
        obtain ⟨r2, hr2, e2⟩ := p_low (w := w) y (N := 240) (by decide) (by decide)
        obtain ⟨r3, hr3, e3⟩ := p_low (w := w) y (N := 26) (by decide) (by decide)
        have pas : ∀ h, 1 ≤ h → h ≤ 240 → Fin1 (T + 480) (n + 1) ((sL_passes w (iN h)).bind (fun r3 => (if r3.1 = true then sL_step_1044 lo (iN n) r3.2 else none))) := fun h a b =>
          (eRes (p_passes hS hJ a b (by omega)) same).mT (by omega) hT
        rw [show sL_low w (y >>> ((10 : Int32) &&& 31)) 5 = _ from e1, ob]
        by_cases q : iN r1 = 0
        · rw [if_pos q]
          unfold sL_step_1032
          rw [show sL_low w y 240 = _ from e2, ob, show (1 : Int32) + iN r2 = iN (1 + r2) from iN_add 1 r2]
          exact pas _ (by omega) (by omega)
        · rw [if_neg q]
          unfold sL_step_1032
          rw [show sL_low w y 26 = _ from e3, ob, show (1 : Int32) + iN r3 = iN (1 + r3) from iN_add 1 r3]
          exact pas _ (by omega) (by omega)
      · rw [if_neg (fun q => k18 ((iN_le' (B := 18) (b := 18) rfl k32 (by decide)).mp q))]
        refine up _ ?_
        obtain ⟨r1, hr1, e1⟩ := p_low (w := w) y (N := nK m + 1) (by omega) (by omega)
        rw [iN_s, e1, ob]
        refine eRes (p_sends hS hJ hc hv ?_) same
        cases r1 with
        | zero => exact Or.inl (by decide)
        | succ r => exact Or.inr ⟨r, by omega, iN_p r⟩
    · rw [if_neg (fun q => k15 ((iN_le' (B := 15) (b := 15) rfl k32 (by decide)).mp q))]
      refine up _ ?_
      obtain ⟨r1, hr1, e1⟩ := p_low (w := w) (y >>> ((8 : Int32) &&& 31)) hC' (show nC m < 2147483648 by omega)
      rw [e1, ob]
      exact eRes (p_moves hS hJ hc hr1 hi y) same
  · rw [if_neg (fun q => k11 ((iN_le' (B := 11) (b := 11) rfl k32 (by decide)).mp q))]
    refine up _ ?_
    exact eRes (p_boxes hS hJ hc y) same
theorem e157 {x y : Int32} {k : Nat} (hS : ST T w m) (hJ : Jv m) (hT : T + 480 ≤ 1000000000) (hk : k < 22) (hn : n < 76) (hC : Cn n m)
    (hnk : (n < 3 ∧ k = 0) ∨ (3 ≤ n ∧ n < 8 ∧ k = 1) ∨ (8 ≤ n ∧ n < 13 ∧ k = 2) ∨ (13 ≤ n ∧ n < 19 ∧ k = 3) ∨ (19 ≤ n ∧ n < 21 ∧ k = 4) ∨ 21 ≤ n) :
    Fin1 (T + 480) (n + 1) (sL_step_157 lo (iN n) w x y (iN (nV m)) (iN (nC m)) (iN (nW m)) (iN (nK m)) (iN k)) := by
  have hI := hS.2.1
  have h8 := hI.iv8
  have h12 := hI.ic12
  have h16 := hI.iw16
  have z0 : (0 : Int32) = iN 0 := rfl
  have s3 : ∀ v c, (0 < nV m → v < nV m) → (0 < nC m → c < nC m) → Fin1 (T + 480) (n + 1) (sL_step_196 lo (iN n) w x y (iN (nV m)) (iN (nC m)) (iN (nW m)) (iN (nK m)) (iN k) (iN v) (iN c)) := fun v c hv hc => by
    unfold sL_step_196
    by_cases q : nW m = 0
    · rw [if_pos (show iN (nW m) = 0 by rw [q]; rfl)]
      exact e216 (i := 0) hS hJ hT hk hn hC hnk hv hc (fun w => by omega)
    · obtain ⟨i, hi, e⟩ := p_low (w := w) (x >>> ((12 : Int32) &&& 31)) (show 0 < nW m by omega) (show nW m < 2147483648 by omega)
      rw [if_neg (show ¬ iN (nW m) = 0 from fun w => q ((iN_eq' (b := 0) rfl (by omega) (by decide)).mp w)), e, ob]
      exact e216 hS hJ hT hk hn hC hnk hv hc (fun _ => hi)
  have s2 : ∀ v, (0 < nV m → v < nV m) → Fin1 (T + 480) (n + 1) (sL_step_176 lo (iN n) w x y (iN (nV m)) (iN (nC m)) (iN (nW m)) (iN (nK m)) (iN k) (iN v)) := fun v hv => by
    unfold sL_step_176
    by_cases q : nC m = 0
    · rw [if_pos (show iN (nC m) = 0 by rw [q]; rfl)]
      exact s3 v 0 hv (fun w => by omega)
    · obtain ⟨i, hi, e⟩ := p_low (w := w) (x >>> ((8 : Int32) &&& 31)) (show 0 < nC m by omega) (show nC m < 2147483648 by omega)
      rw [if_neg (show ¬ iN (nC m) = 0 from fun w => q ((iN_eq' (b := 0) rfl (by omega) (by decide)).mp w)), e, ob]
      exact s3 v i hv (fun _ => hi)
  unfold sL_step_157
  by_cases q : nV m = 0
  · rw [if_pos (show iN (nV m) = 0 by rw [q]; rfl)]
    exact s2 0 (fun w => by omega)
  · obtain ⟨i, hi, e⟩ := p_low (w := w) (x >>> ((5 : Int32) &&& 31)) (show 0 < nV m by omega) (show nV m < 2147483648 by omega)
    rw [if_neg (show ¬ iN (nV m) = 0 from fun w => q ((iN_eq' (b := 0) rfl (by omega) (by decide)).mp w)), e, ob]
    exact s2 i (fun _ => hi)
/-- a step -/
theorem p_step (hlo : ∀ k, k < 2147483648 → ∃ x, lo (iN k) = some x) (hS : ST T w m) (hJ : Jv m) (hT : T + 480 ≤ 1000000000) (hn : n < 76) (hC : Cn n m) : Fin1 (T + 480) (n + 1) (sL_step lo (iN n) w) := by
  have hR := hS.1
  have hI := hS.2.1
  obtain ⟨x, hx⟩ := hlo (2 * n) (by omega)
  obtain ⟨y, hy⟩ := hlo (2 * n + 1) (by omega)
  have n32 : n < 2147483648 := by omega
  unfold sL_step
  rw [show (2 : Int32) * iN n = iN (2 * n) from iN_mul 2 n, hx, ob, iN_s, hy, ob, q_h1 hR hI, ob, q_h2 hR hI, ob, q_h3 hR hI, ob, q_h4 hR hI, ob]
  by_cases n3 : 3 ≤ n
  · rw [if_pos ((iN_le' (B := 3) (b := 3) rfl n32 (by decide)).mpr n3)]
    by_cases n8 : 8 ≤ n
    · rw [if_pos ((iN_le' (B := 8) (b := 8) rfl n32 (by decide)).mpr n8)]
      by_cases n13 : 13 ≤ n
      · rw [if_pos ((iN_le' (B := 13) (b := 13) rfl n32 (by decide)).mpr n13)]
        by_cases n19 : 19 ≤ n
        · rw [if_pos ((iN_le' (B := 19) (b := 19) rfl n32 (by decide)).mpr n19)]
          by_cases n21 : 21 ≤ n
          · obtain ⟨k, hk, e⟩ := p_low (w := w) x (N := 22) (by decide) (by decide)
            rw [if_pos ((iN_le' (B := 21) (b := 21) rfl n32 (by decide)).mpr n21), show sL_low w x 22 = _ from e, ob]
            exact e157 hS hJ hT hk hn hC (by omega)
          · rw [if_neg (fun q => n21 ((iN_le' (B := 21) (b := 21) rfl n32 (by decide)).mp q))]
            exact e157 (k := 4) hS hJ hT (by decide) hn hC (by omega)
        · rw [if_neg (fun q => n19 ((iN_le' (B := 19) (b := 19) rfl n32 (by decide)).mp q))]
          exact e157 (k := 3) hS hJ hT (by decide) hn hC (by omega)
      · rw [if_neg (fun q => n13 ((iN_le' (B := 13) (b := 13) rfl n32 (by decide)).mp q))]
        exact e157 (k := 2) hS hJ hT (by decide) hn hC (by omega)
    · rw [if_neg (fun q => n8 ((iN_le' (B := 8) (b := 8) rfl n32 (by decide)).mp q))]
      exact e157 (k := 1) hS hJ hT (by decide) hn hC (by omega)
  · rw [if_neg (fun q => n3 ((iN_le' (B := 3) (b := 3) rfl n32 (by decide)).mp q))]
    exact e157 (k := 0) hS hJ hT (by decide) hn hC (by omega)
theorem j0 : Jv (mI 6) := by
  obtain ⟨a1, a2, a3, a4, a5⟩ := n0
  refine ⟨fun i hi => ?_, fun c hc => ?_, ?_, ?_, fun v _ hv => (by decide +kernel : ∀ v, v < 8 → vn (mI 6) v 4 = 0) v hv, fun l hl => ⟨⟨0, by decide, ?_⟩, ⟨90, by decide, ?_⟩⟩⟩
  · rw [a3] at hi; exact absurd hi (Nat.not_lt_zero i)
  · rw [a2] at hc; exact absurd hc (Nat.not_lt_zero c)
  · rw [a3]; decide +kernel
  · rw [a1]; decide +kernel
  · revert l; decide +kernel
  · revert l; decide +kernel
theorem st0 : ST 0 w0 (mI 6) :=
  ⟨rl0, iv0, ⟨0, fun j => j, fun _ => mI 6, ⟨by decide, by decide +kernel, by decide +kernel, fun i j _ _ h => h, fun j hj => absurd hj (Nat.not_lt_zero j)⟩, fun j hj => absurd hj (Nat.not_lt_zero j)⟩, by decide +kernel, 0, by decide, by decide +kernel⟩
/-- the beginning -/
theorem p_pro {ln : Int32} : ∃ w', sL_pro lo ln w0 = some w' ∧ ST 36000 w' (mI 6) := by
  have hU0 : w0 78 1 = 0 := by decide +kernel
  obtain ⟨w1, a1, a2⟩ := p_refuses st0
  have S1 := st0.fr a2
  obtain ⟨w2, b1, b2, b3⟩ : ∃ w2, sL_sound w1 = some (true, w2) ∧ ST 0 w2 (mI 6) ∧ ∀ r, r ≠ 77 → w2 r = w1 r := by
    have h16 := S1.2.1.iw16
    obtain ⟨w', h1, h2⟩ := s26 S1.1 S1.2.1 j0 (nW (mI 6)) 0 FU w1 (Nat.zero_add _) (by show nW (mI 6) < 4096; omega) (fun _ _ => rfl)
    refine ⟨w', ?_, S1.fr h2, h2⟩
    unfold sL_sound
    rw [q_h2 S1.1 S1.2.1, ob, q_h3 S1.1 S1.2.1, ob]
    exact h1
  obtain ⟨w3, c1, c2, c3⟩ := p_run b2 (by decide) (by rw [b3 78 (by decide), a2 78 (by decide)]; exact hU0)
  obtain ⟨w4, d1, d2⟩ := u_undo1 c2 c3
  refine ⟨w4, ?_, d2⟩
  have hu1 : w1 78 1 = 0 := by rw [a2 78 (by decide)]; exact hU0
  unfold sL_pro
  rw [a1, ob, if_pos rfl, t_undo hu1, ob, if_pos rfl, b1, ob, if_pos rfl, c1, ob, if_pos rfl, show sO_undo w3 = _ from okS_s d1, ob, if_pos rfl]
end SF
