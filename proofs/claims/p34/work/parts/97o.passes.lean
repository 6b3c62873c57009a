/-! PASSES: hours -/
section PS
variable {T z : Nat} {m m' a : Nat → Int32} {w : Wl}
theorem hours_f (hI : Iv T 12 m) (hJ : Jv m) : ∀ (h : Nat), T + h ≤ 1000000000 →
    Iv (T + h) 12 (dHours m h) ∧ Jv (dHours m h) ∧ (nV (dHours m h) = nV m ∧ nC (dHours m h) = nC m ∧ nW (dHours m h) = nW m ∧ nK (dHours m h) = nK m ∧ tm (dHours m h) = tm m + h) ∧
    dHours m h 7 = m 7 + ar m (iN (tm m + h)) ∧ (∀ x, tm m + h ≤ x → x < 2147483648 → ar m (iN x) = ar (dHours m h) (iN x) + ar m (iN (tm m + h))) ∧
    ((∀ j, 1 ≤ j → j ≤ h → ¬ (tm m + j) % 24 = 0) → dHours m h 5 = m 5) ∧
    ((∃ j, 1 ≤ j ∧ j ≤ h ∧ (tm m + j) % 24 = 0) → ∀ i, i < nW m → (∃ g, 1 ≤ g ∧ g ≤ 10 ∧ wk (dHours m h) i 7 = iN g) ∧ ∃ q, q ≤ 8 ∧ wk (dHours m h) i 8 = iN q) ∧
    (1 ≤ h → (tm m + h) % 24 = 0 → ∀ i, i < nW m → wk (dHours m h) i 8 = (if wat (dHours m h) i = -1 then 8 else wat (dHours m h) i)) := by
  have h12 := hI.ic12
  have h8 := hI.iv8
  have hT1 := hI.itT
  intro h
  induction h with
  | zero =>
    intro hT
    have hz : ar m (iN (tm m)) = 0 := by
      refine sm_0 _ fun c hc => ?_
      unfold arc
      by_cases e2 : cr m c 2 = -1
      · rw [if_pos e2]
        by_cases e3 : cr m c 3 = -1
        · rw [if_pos e3]
          obtain ⟨-, -, -, α, ha1, ha2, ha5⟩ := cr_go hI hc ((vof_top (by omega) e2).trans e3)
          rw [out_top (by omega) e2] at ha5
          rw [ha5, if_pos ((iN_lt (by omega) (by omega)).mpr ha1)]
        · rw [if_neg e3]
      · rw [if_neg e2]
    show Iv T 12 m ∧ Jv m ∧ _
    refine ⟨hI, hJ, ⟨rfl, rfl, rfl, rfl, rfl⟩, ?_, fun x _ _ => ?_, fun _ => rfl, (fun q => by obtain ⟨j, j1, j2, -⟩ := q; omega), (fun q => by omega)⟩
    · show m 7 = m 7 + ar m (iN (tm m))
      rw [hz, Int32.add_zero]
    · show ar m (iN x) = ar m (iN x) + ar m (iN (tm m))
      rw [hz, Int32.add_zero]
  | succ h ih =>
    intro hT
    obtain ⟨i1, i2, ⟨i31, i32, i33, i34, i35⟩, i4, i5, i6, i7, i8⟩ := ih (by omega)
    obtain ⟨f1, f2, ⟨f31, f32, f33, f34, f35⟩, f4, f5, f6, f7⟩ := dHour_f i1 i2 (by omega)
    have e : dHours m (h + 1) = dHour (dHours m h) := fld_s h m
    rw [e]
    generalize dHours m h = a at *
    rw [i35] at f4 f5 f6 f7 f35
    refine ⟨f1, f2, ⟨by omega, by omega, by omega, by omega, by omega⟩, ?_, fun x hx hx2 => ?_, fun q => ?_, fun q i hi => ?_, fun _ q i hi => ?_⟩
    · rw [f4, i4, Int32.add_assoc]
      congr 1
      rw [show tm m + (h + 1) = tm m + h + 1 by omega, i5 (tm m + h + 1) (by omega) (by omega), Int32.add_comm]
    · rw [i5 x (by omega) hx2, f5 x (by omega) hx2, show tm m + (h + 1) = tm m + h + 1 by omega, i5 (tm m + h + 1) (by omega) (by omega), Int32.add_assoc]
    · rw [(f6 (q (h + 1) (by omega) (Nat.le_refl _))).1]
      exact i6 fun j j1 j2 => q j j1 (by omega)
    · by_cases hd : (tm m + h + 1) % 24 = 0
      · obtain ⟨g1, g2⟩ := f7 hd i (by omega)
        refine ⟨g1, ?_⟩
        rw [g2]
        rcases wat_ptr f1 (show i < nW (dHour a) by omega) with w0 | ⟨v, hv, w0⟩
        · rw [if_pos w0]; exact ⟨8, Nat.le_refl _, rfl⟩
        · rw [w0, if_neg (iN_m1 (by omega))]; exact ⟨v, by omega, rfl⟩
      · obtain ⟨g1, g2⟩ := (f6 hd).2 i (by omega)
        rw [g1, g2]
        obtain ⟨j, j1, j2, j3⟩ := q
        refine i7 ⟨j, j1, ?_, j3⟩ i hi
        have : j ≠ h + 1 := fun w => hd (by rw [w] at j3; exact j3)
        omega
    · exact (f7 q i (by omega)).2
theorem rem24 {n : Nat} (hn : n < 2147483648) : iN n - iN n / 24 * 24 = iN (n % 24) := by
  have hle : n / 24 * 24 ≤ n := Nat.div_mul_le_self _ _
  have hda := Nat.div_add_mod n 24
  have hd : iN n / iN 24 = iN (n / 24) := (Int32.ofNat_div (by omega) (by decide)).symm
  rw [show (24 : Int32) = iN 24 from rfl, hd, iN_mul, iN_sub hle]
  congr 1
  omega
theorem p155 {h : Nat} {w1 : Wl} (hI : Iv T 12 m) (hJ : Jv m) (h1 : 1 ≤ h) (h2 : h ≤ 240) (hT : T + h + h ≤ 1000000000) (hd : ∃ j, 1 ≤ j ∧ j ≤ h ∧ (tm m + j) % 24 = 0) (hU : SU (T + h) w1 (dHours m h) m) :
    ∀ (j i n : Nat), i + j = nW m → j < n → Res (T + h + h) m (sL_passes_155 n w1 (iN h) (m 0) (dHours m h 7 - m 7) (m 5) (iN i)) := by
  have h16 := hI.iw16
  have h8 := hI.iv8
  have hT1 := hI.itT
  obtain ⟨i1, i2, ⟨i31, i32, i33, i34, i35⟩, i4, i5, i6, i7, i8⟩ := hours_f hI hJ h (by omega)
  have S1 := hU.st
  obtain ⟨n0, w2, hn3, hu, S2⟩ := u_undo hU
  obtain ⟨w3, a1, a2⟩ := u_advance S2 h1 h2 hT
  have R1 := S1.1
  have I1 := S1.2.1
  intro j
  induction j with
  | zero =>
    intro i n hi hn
    obtain ⟨n, rfl⟩ : ∃ q, n = q + 1 := ⟨n - 1, by omega⟩
    obtain rfl : i = nW m := by omega
    rw [sL_passes_155.eq_2, q_h3 R1 I1, ob, i33, if_pos (Int32.le_refl _), show sO_undo w1 = _ from okS_s hu, ob, if_neg (iN_neg (by omega)), q_h0 S2.1 S2.2.1, ob, if_pos rfl, q_h5 S2.1 S2.2.1, ob, if_pos rfl, show sO_advance w2 (iN h) = _ from okS_s a1, ob, if_pos rfl]
    exact ⟨w3, _, rfl, a2.st, i2, i31, i32, i33, i34⟩
  | succ j ih =>
    intro i n hi hn
    obtain ⟨n, rfl⟩ : ∃ q, n = q + 1 := ⟨n - 1, by omega⟩
    have hi' : i < nW (dHours m h) := by omega
    obtain ⟨⟨g, g1, g2, g3⟩, q, q1, q2⟩ := i7 hd i (by omega)
    have n0' : aNoted (dHours m h) i 0 = iN q := by
      unfold aNoted
      rw [g3, if_neg (iN_pos g1 (by omega))]
      exact q2
    have n10 : aNoted (dHours m h) i 10 = -1 := by
      unfold aNoted
      rw [g3, if_pos (show iN g ≤ 10 from (iN_le (b := 10) (by omega) (by decide)).mpr g2)]
    have L : Res (T + h + h) m (sL_passes_222 (fun w l1 l2 l4 l5 l6 => sL_passes_155 n w l1 l2 l4 l5 l6) w1 (iN h) (m 0) (dHours m h 7 - m 7) (m 5) (iN i)) := by
      unfold sL_passes_222
      rw [q_noted R1 I1 hi' (by decide), ob, n10, if_pos rfl, iN_s]
      exact ih (i + 1) n (by omega) (by omega)
    rw [sL_passes_155.eq_2, q_h3 R1 I1, ob, i33, if_neg (iN_nle (by omega) (by omega) (by omega)), q_w5 R1 I1 hi', ob, q_noted R1 I1 hi' (by decide), ob, n0', if_neg (iN_neg (by omega)), if_neg (fun w => by have := (iN_lt (a := 8) (by decide) (by omega)).mp w; omega), hI.it, iN_add, rem24 (by omega)]
    rw [hI.it] at L
    by_cases e : (tm m + h) % 24 = 0
    · rw [if_pos (show iN ((tm m + h) % 24) = 0 by rw [e]; rfl)]
      have hw := i8 h1 e i (by omega)
      rw [q2] at hw
      by_cases e3 : wat (dHours m h) i = -1
      · rw [if_pos e3] at hw ⊢
        rw [if_pos hw]
        exact L
      · rw [if_neg e3] at hw ⊢
        rw [if_pos hw]
        exact L
    · rw [if_neg (show ¬ iN ((tm m + h) % 24) = 0 from fun w => e ((iN_eq (b := 0) (by omega) (by decide)).mp w))]
      exact L
theorem p19 {h : Nat} (hS : ST T w m) (hJ : Jv m) (h1 : 1 ≤ h) (h2 : h ≤ 240) (hT : T + h + h ≤ 1000000000) :
    ∀ (j i n : Nat), i + j = nC m → j < n → Res (T + h + h) m (sL_passes_19 n w (iN h) (m 0) (m 7) (sm (arc m (iN (tm m + h))) i) (iN i)) := by
  have hR := hS.1
  have hI := hS.2.1
  have h12 := hI.ic12
  have h16 := hI.iw16
  have hT1 := hI.itT
  intro j
  induction j with
  | zero =>
    intro i n hi hn
    obtain ⟨n, rfl⟩ : ∃ q, n = q + 1 := ⟨n - 1, by omega⟩
    obtain rfl : i = nC m := by omega
    obtain ⟨i1, i2, ⟨i31, i32, i33, i34, i35⟩, i4, i5, i6, i7, i8⟩ := hours_f hI hJ h (by omega)
    obtain ⟨w1, a1, a2⟩ := u_advance hS h1 h2 (by omega)
    have S1 := a2.st
    have told : dHours m h 7 - m 7 = sm (arc m (iN (tm m + h))) (nC m) := by
      rw [i4, Int32.add_comm, Int32.add_sub_cancel]
      rfl
    rw [sL_passes_19.eq_2, q_h2 hR hI, ob, if_pos (Int32.le_refl _), q_h5 hR hI, ob, show sO_advance w (iN h) = _ from okS_s a1, ob, if_pos told, q_h0 S1.1 S1.2.1, ob, S1.2.1.it, i35, hI.it, if_pos (iN_add _ _).symm, q_h7 S1.1 S1.2.1, ob, if_pos (show dHours m h 7 = m 7 + sm (arc m (iN (tm m + h))) (nC m) from i4), iN_add]
    have d1 : iN (tm m + h) / 24 = iN ((tm m + h) / 24) := (Int32.ofNat_div (by omega) (by decide)).symm
    have d2 : iN (tm m) / 24 = iN (tm m / 24) := (Int32.ofNat_div (by omega) (by decide)).symm
    rw [d1, d2]
    by_cases e : (tm m + h) / 24 = tm m / 24
    · rw [if_pos (by rw [e]), q_h5 S1.1 S1.2.1, ob, if_pos (i6 fun j j1 j2 j3 => by omega)]
      exact ⟨w1, _, rfl, S1.mT (by omega) hT, i2, i31, i32, i33, i34⟩
    · rw [if_neg (fun q => e ((iN_eq (by omega) (by omega)).mp q))]
      have := p155 hI hJ h1 h2 hT ⟨24 * (tm m / 24 + 1) - tm m, by omega, by omega, by omega⟩ a2 (nW m) 0 FU (Nat.zero_add _) (by show nW m < 4096; omega)
      rw [told, hI.it] at this
      exact this
  | succ j ih =>
    intro i n hi hn
    obtain ⟨n, rfl⟩ : ∃ q, n = q + 1 := ⟨n - 1, by omega⟩
    have hi' : i < nC m := by omega
    have nx := ih (i + 1) n (by omega) (by omega)
    have es : sm (arc m (iN (tm m + h))) (i + 1) = sm (arc m (iN (tm m + h))) i + arc m (iN (tm m + h)) i := rfl
    rw [es] at nx
    rw [sL_passes_19.eq_2, q_h2 hR hI, ob, if_neg (iN_nle (by omega) (by omega) (by omega)), q_c2 hR hI hi', ob, iN_s]
    unfold arc at nx
    by_cases e2 : cr m i 2 = -1
    · rw [if_pos e2] at nx ⊢
      rw [q_c3 hR hI hi', ob, vof_top (by omega) e2]
      by_cases e3 : cr m i 3 = -1
      · rw [if_pos e3] at nx ⊢
        rw [q_c5 hR hI hi', ob, out_top (by omega) e2, show m 0 + iN h = iN (tm m + h) by rw [hI.it, iN_add]]
        by_cases e5 : iN (tm m + h) < cr m i 5
        · rw [if_pos e5] at nx ⊢
          exact nx
        · rw [if_neg e5] at nx ⊢
          exact nx
      · rw [if_neg e3] at nx ⊢
        exact nx
    · rw [if_neg e2] at nx ⊢
      exact nx
theorem p_passes {h : Nat} (hS : ST T w m) (hJ : Jv m) (h1 : 1 ≤ h) (h2 : h ≤ 240) (hT : T + h + h ≤ 1000000000) : Res (T + h + h) m (sL_passes w (iN h)) := by
  have h12 := hS.2.1.ic12
  unfold sL_passes
  rw [q_h0 hS.1 hS.2.1, ob, q_h7 hS.1 hS.2.1, ob]
  exact p19 hS hJ h1 h2 hT (nC m) 0 FU (Nat.zero_add _) (by show nC m < 4096; omega)
end PS
