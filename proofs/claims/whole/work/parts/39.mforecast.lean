/-! THE FORECASTS: the model's, and of a sending -/
def sendM (m : Nat → Int32) (c v : Nat) : Nat → Int32 := upd (upd (upd m (145 + 9 * c + 5) (m 0 + vn m (cr m c 3).toNatClampNeg (5 + v))) (145 + 9 * c + 4) (iN v)) (145 + 9 * c + 3) (-1)
def aBy (m : Nat → Int32) (c v : Nat) : Int32 := if aWin (sendM m c v) (iN c) = 0 then cr (sendM m c v) c 5 else aAll (sendM m c v) (iN c)
def aBest (m : Nat → Int32) (c : Nat) (x : Int32) : Int32 × Int32 := fld (fun v (s : Int32 × Int32) => if aReason m c v x = 0 then (if s.1 = -1 then (iN v, aBy m c v) else if s.2 ≤ aBy m c v then s else (iN v, aBy m c v)) else s) (nV m) 0 (-1, 0)
theorem sendM_eqo {m : Nat → Int32} {c v : Nat} : eqo (145 + 9 * c) (154 + 9 * c) m (sendM m c v) := ((eqo.rf.upd1 (by omega) (by omega)).upd1 (by omega) (by omega)).upd1 (by omega) (by omega)
theorem sendM_0 {m : Nat → Int32} {c v : Nat} : cr (sendM m c v) c 0 = cr m c 0 ∧ cr (sendM m c v) c 1 = cr m c 1 ∧ cr (sendM m c v) c 2 = cr m c 2 ∧ cr (sendM m c v) c 3 = -1 ∧ cr (sendM m c v) c 4 = iN v ∧ cr (sendM m c v) c 5 = m 0 + vn m (cr m c 3).toNatClampNeg (5 + v) ∧ cr (sendM m c v) c 6 = cr m c 6 ∧ cr (sendM m c v) c 7 = cr m c 7 ∧ cr (sendM m c v) c 8 = cr m c 8 := by
  unfold sendM
  refine ⟨?_, ?_, ?_, ?_, ?_, ?_, ?_, ?_, ?_⟩
  · show upd _ _ _ _ = _; rw [uN (by omega), uN (by omega), uN (by omega)]; rfl
  · show upd _ _ _ _ = _; rw [uN (by omega), uN (by omega), uN (by omega)]; rfl
  · show upd _ _ _ _ = _; rw [uN (by omega), uN (by omega), uN (by omega)]; rfl
  · show upd _ _ _ _ = _; rw [uS]
  · show upd _ _ _ _ = _; rw [uN (by omega), uS]
  · show upd _ _ _ _ = _; rw [uN (by omega), uN (by omega), uS]
  · show upd _ _ _ _ = _; rw [uN (by omega), uN (by omega), uN (by omega)]; rfl
  · show upd _ _ _ _ = _; rw [uN (by omega), uN (by omega), uN (by omega)]; rfl
  · show upd _ _ _ _ = _; rw [uN (by omega), uN (by omega), uN (by omega)]; rfl
theorem sendM_hol {m : Nat → Int32} {c v : Nat} : hol (sendM m c v) = hol m := by
  funext d
  unfold hol
  by_cases h : d < 12
  · rw [if_pos h, if_pos h]
    by_cases e : d = c
    · subst e; exact sendM_0.2.2.1
    · exact sendM_eqo.fr e (by decide)
  · rw [if_neg h, if_neg h]
section MF
variable {T z : Nat} {m : Nat → Int32} {w : Wl}
/-- what may be sent -/
theorem reason0 (hI : Iv T z m) {c v : Nat} {x : Int32} (hc : c < nC m) (hv : v < nV m) (h : aReason m c v x = 0) : opb m c = false ∧ cr m c 1 = 0 ∧ cr m c 2 = -1 ∧ (∃ u a, u < nV m ∧ u ≠ v ∧ cr m c 3 = iN u ∧ 1 ≤ a ∧ a ≤ 200 ∧ vn m u (5 + v) = iN a) ∧ (¬ x = -1 → co m x.toNatClampNeg = cr m c 3) := by
  have h12 := hI.ic12
  have h8 := hI.iv8
  unfold aReason at h
  rcases hI.iob hc with ⟨o1, o2⟩ | ⟨o1, o2⟩
  · rw [o2] at h
    simp only [iF] at h
    refine ⟨o2, o1, ?_⟩
    by_cases h2 : cr m c 2 = -1
    · refine ⟨h2, ?_⟩
      rw [if_pos h2] at h
      rcases hI.iat hc with h3 | ⟨u, hu, h3⟩
      · rw [if_pos h3] at h; exact absurd h (by decide)
      · rw [h3, if_neg (iN_m1 (by omega))] at h
        by_cases h5 : iN u = iN v
        · rw [if_pos h5] at h; exact absurd h (by decide)
        · rw [if_neg h5, iN_nat (by omega)] at h
          by_cases h6 : vn m u (5 + v) = 0
          · rw [if_pos h6] at h; exact absurd h (by decide)
          · rw [if_neg h6] at h
            obtain ⟨a, ha, ea⟩ := hI.iwy u (by omega) v (by omega)
            refine ⟨⟨u, a, hu, fun e => h5 (by rw [e]), h3, ?_, ha, ea⟩, fun hx => ?_⟩
            · cases a with
              | zero => exact (h6 ea).elim
              | succ a => omega
            · by_cases h7 : aWref m c v = 0
              · rw [if_pos h7] at h
                by_cases h8' : lg_cmp (aVfor m c v) (vn m v 3).toInt64 ≤ 0
                · rw [if_pos h8', if_neg hx] at h
                  by_cases h9 : co m x.toNatClampNeg = iN u
                  · rw [h3]; exact h9
                  · rw [if_neg h9] at h; exact absurd h (by decide)
                · rw [if_neg h8'] at h; exact absurd h (by decide)
              · rw [if_neg h7] at h; exact absurd h h7
    · rw [if_neg h2] at h; exact absurd h (by decide)
  · rw [o2] at h
    simp only [iT, if_true] at h
    exact absurd h (by decide)
theorem Iv.isnd (hI : Iv T z m) {c v : Nat} {x : Int32} (hc : c < nC m) (hv : v < nV m) (h : aReason m c v x = 0) : Iv T z (sendM m c v) := by
  have h12 := hI.ic12
  have h8 := hI.iv8
  obtain ⟨o2, o1, h2, ⟨u, a, hu, hne, h3, ha1, ha2, ea⟩, -⟩ := reason0 hI hc hv h
  obtain ⟨s0, s1, s2, s3, s4, s5, s6, s7, s8⟩ := sendM_0 (m := m) (c := c) (v := v)
  refine hI.crateH hc sendM_eqo (fun d _ q => q) ?_ (fun d hd _ _ q => by rw [o1] at q; exact absurd q (by decide)) (fun k hk _ _ => s3) s2
  obtain ⟨-, c2, -, -, c5⟩ := hI.ico c hc
  unfold COk
  rw [s0, s1, s2, s3, s4, s5, s6, s7]
  refine ⟨Or.inl o1, c2, Or.inl h2, Or.inl ⟨rfl, h2, o1, ⟨v, hv, rfl⟩, tm m + a, ?_, by omega, fun _ => by omega, by omega⟩, c5⟩
  rw [h3, iN_nat (by omega), ea, hI.it, iN_add]
theorem l13_fill : ∀ (k n a : Nat) (x : Int32) (w : Wl), Iv T z (w 372) → ptr (nC (w 372)) x → dp (hol (w 372)) k x → a + k ≤ 12 → k < n → ∃ w', sX13_ready_9 n w (iN a) x = sX13_ready_50 FU w' (iN (a + k)) (w 372 0) (0 : Int32) (iN (a + k) - 1) ∧ (∀ r, r ≠ 375 → w' r = w r) ∧ (∀ j, j < k → w' 375 (a + j) = upk (hol (w 372)) j x) ∧ ∀ j, j < a → w' 375 j = w 375 j := by
  intro k
  induction k with
  | zero =>
    intro n a x w hI hx hd ha hn
    obtain ⟨n, rfl⟩ : ∃ q, n = q + 1 := ⟨n - 1, by omega⟩
    refine ⟨w, ?_, fun _ _ => rfl, fun j hj => by omega, fun _ _ => rfl⟩
    rw [sX13_ready_9.eq_2, if_pos (show x = -1 from hd)]
    rfl
  | succ k ih =>
    intro n a x w hI hx hd ha hn
    obtain ⟨n, rfl⟩ : ∃ q, n = q + 1 := ⟨n - 1, by omega⟩
    have h12 := hI.ic12
    rcases hx with e | ⟨c, hc, rfl⟩
    · exact (hd.1 e).elim
    have h2 := hd.2
    rw [iN_nat (by omega)] at h2
    have e372 : wst w 375 a (iN c) 372 = w 372 := wN (by decide)
    obtain ⟨w', q1, q2, q3, q4⟩ := ih n (a + 1) (hol (w 372) c) (wst w 375 a (iN c)) (by rw [e372]; exact hI) (by rw [e372]; exact hI.ich c hc) (by rw [e372]; exact h2) (by omega) (by omega)
    rw [e372] at q1 q3
    refine ⟨w', ?_, fun r hr => (q2 r hr).trans (wN hr), fun j hj => ?_, fun j hj => ?_⟩
    · rw [sX13_ready_9.eq_2, if_neg (iN_m1 (by omega)), idx_iN (by omega) (by decide), ob, e13_of2 (by omega), ob, e372, ← hol_c (by omega), iN_s, q1, show a + 1 + k = a + (k + 1) by omega]
    · cases j with
      | zero => rw [Nat.add_zero, q4 a (by omega), wS, uS]; rfl
      | succ j =>
        have := q3 j (by omega)
        rw [show a + 1 + j = a + (j + 1) by omega] at this
        rw [this]
        show _ = upk (hol (w 372)) j (hol (w 372) (iN c).toNatClampNeg)
        rw [iN_nat (by omega)]
    · rw [q4 j (by omega), wS, uN (by omega)]
theorem e13_greater (a b : Int32) : sX13_greater w a b = some (mx a b) := by
  unfold sX13_greater mx
  by_cases h : a < b
  · rw [if_pos h, if_pos (Int32.le_of_lt h)]
  · rw [if_neg h]
    by_cases h2 : a ≤ b
    · rw [if_pos h2, Int32.le_antisymm h2 (Int32.not_lt.mp h)]
    · rw [if_neg h2]
theorem l13_time (hI : Iv T z (w 372)) {v k o : Nat} {x a : Int32} {g : Bool} {s0 : Int32 × Bool} (hv : v < nV (w 372)) (hk : k ≤ 12) (hx : ptr (nC (w 372)) x) (hd : dp (hol (w 372)) k x) (hrow : ∀ j, j < k → w 375 j = upk (hol (w 372)) j x) (ho : o < nC (w 372)) (hlast : 1 ≤ k → w 375 (k - 1) = iN o) (hg : (cr (w 372) o 3 = -1 ∧ g = true ∧ cr (w 372) o 4 = iN v ∧ cr (w 372) o 5 = a) ∨ (cr (w 372) o 3 = iN v ∧ g = false)) :
    ∀ (i n : Nat) (t : Int32) (b : Bool), i ≤ k → i < n → rG (hol (w 372)) (stM (w 372) v g a) s0 (k - i) (upk (hol (w 372)) i x) = (t, b) → sX13_ready_50 n w (iN k) t (bI b) (iN i - 1) = some ((rG (hol (w 372)) (stM (w 372) v g a) s0 k x).1, w) := by
  have h12 := hI.ic12
  have h8 := hI.iv8
  intro i
  induction i with
  | zero =>
    intro n t b hi hn hs
    obtain ⟨n, rfl⟩ : ∃ q, n = q + 1 := ⟨n - 1, by omega⟩
    rw [sX13_ready_50.eq_2, if_pos (by decide)]
    have hs : rG (hol (w 372)) (stM (w 372) v g a) s0 k x = (t, b) := hs
    rw [hs]
  | succ i ih =>
    intro n t b hi hn hs
    obtain ⟨n, rfl⟩ : ∃ q, n = q + 1 := ⟨n - 1, by omega⟩
    have p1 := upk_ptr (i := i) (r := k - i) (by omega) hI.ich hx (by rwa [show i + (k - i) = k by omega])
    have p2 := dp_up (i := i) (r := k - i) (show dp (hol (w 372)) (i + (k - i)) x by rwa [show i + (k - i) = k by omega])
    rw [show k - i = (k - (i + 1)) + 1 by omega] at p2
    rcases p1 with e | ⟨c, hc, ec⟩
    · exact (p2.1 e).elim
    have hst : rG (hol (w 372)) (stM (w 372) v g a) s0 (k - i) (upk (hol (w 372)) i x) = stM (w 372) v g a c (t, b) := by
      rw [show k - i = (k - (i + 1)) + 1 by omega]
      show (if upk (hol (w 372)) i x = -1 then s0 else stM (w 372) v g a (upk (hol (w 372)) i x).toNatClampNeg (rG (hol (w 372)) (stM (w 372) v g a) s0 (k - (i + 1)) (hol (w 372) (upk (hol (w 372)) i x).toNatClampNeg))) = _
      rw [if_neg p2.1, ← upk_s (h := hol (w 372)), hs, ec, iN_nat (by omega)]
    have next : ∀ t' b', stM (w 372) v g a c (t, b) = (t', b') → sX13_ready_50 n w (iN k) t' (bI b') (iN i + (-1)) = some ((rG (hol (w 372)) (stM (w 372) v g a) s0 k x).1, w) := fun t' b' e => by
      have := ih n t' b' (by omega) (by omega) (hst.trans e)
      rwa [Int32.sub_eq_add_neg] at this
    have ek : iN k - 1 = iN (k - 1) := by
      have := iN_p (k - 1)
      rwa [show k - 1 + 1 = k by omega] at this
    have k158 : ∀ (s l10 : Int32), l10 = iN v → opb (w 372) c = false → stM (w 372) v g a c (t, b) = (mx t (s + nd (w 372) c v), true) → sX13_ready_158 (fun w l2 l4 l5 l6 => sX13_ready_50 n w l2 l4 l5 l6) w (iN k) t (iN i) (iN c) l10 s = some ((rG (hol (w 372)) (stM (w 372) v g a) s0 k x).1, w) := fun s l10 e o2 hq => by
      unfold sX13_ready_158
      rw [e, e13_needs (by omega) (by omega), ob, e13_greater, ob]
      exact next _ true hq
    have k114 : ∀ gi : Bool, gi = g → sX13_ready_114 (fun w l2 l4 l5 l6 => sX13_ready_50 n w l2 l4 l5 l6) w (iN k) t (bI b) (iN i) (iN c) (iN o) (bI gi) (iN v) = some ((rG (hol (w 372)) (stM (w 372) v g a) s0 k x).1, w) := fun gi eg => by
      unfold sX13_ready_114
      rw [e13_isOpen (by omega), ob]
      cases o2 : opb (w 372) c
      · simp only [iF]
        cases b
        · rw [if_pos (show bI false = 0 from rfl)]
          rcases hg with ⟨g3, g1, g4, g5⟩ | ⟨g3, g1⟩
          · rw [eg.trans g1, if_neg (show ¬ bI true = 0 by decide), e13_of5 (by omega), ob]
            refine k158 _ _ rfl o2 ?_
            unfold stM
            rw [o2, g1, g5]
            simp only [iF, iT, if_true]
          · rw [eg.trans g1, if_pos (show bI false = 0 from rfl), e13_of8 (by omega), ob]
            refine k158 _ _ rfl o2 ?_
            unfold stM
            rw [o2, g1]
            simp only [iF]
        · rw [if_neg (show ¬ bI true = 0 by decide)]
          refine k158 _ _ rfl o2 ?_
          unfold stM
          rw [o2]
          simp only [iF, iT, if_true]
      · simp only [iT, if_true]
        refine next t b ?_
        unfold stM
        rw [o2]
        simp only [iT, if_true]
    rw [sX13_ready_50.eq_2, iN_p, if_neg (iN_neg (by omega)), idx_iN (by omega) (by decide), ob, ek, idx_iN (by omega) (by decide), ob, hlast (by omega), e13_of3 (by omega), ob, hrow i (by omega), ec]
    unfold sX13_ready_90
    rcases hg with ⟨g3, g1, g4, g5⟩ | ⟨g3, g1⟩
    · rw [if_pos g3, if_neg (show ¬ (1 : Int32) = 0 by decide), e13_of4 (by omega), ob, g4]
      exact k114 true g1.symm
    · rw [if_neg (by rw [g3]; exact iN_m1 (by omega)), if_pos (show (0 : Int32) = 0 from rfl), e13_of3 (by omega), ob, g3]
      exact k114 false g1.symm
theorem e13_ready (hI : Iv T z (w 372)) {i : Nat} (hi : i < nW (w 372)) : ∃ w', sX13_ready w (iN i) = some (aReady (w 372) i, w') ∧ ∀ r, r ≠ 375 → w' r = w r := by
  have h12 := hI.ic12
  have h8 := hI.iv8
  have h16 := hI.iw16
  unfold sX13_ready
  rw [e13_wk4 (by omega), ob]
  obtain ⟨k, k1, k2⟩ := hI.idx (hI.iwp hi)
  obtain ⟨w', q1, q2, q3, -⟩ := l13_fill k FU 0 _ w hI (hI.iwp hi) k2 (by omega) (by show k < 4096; omega)
  rw [Nat.zero_add] at q1
  have q1' : sX13_ready_9 FU w (0 : Int32) (wk (w 372) i 4) = _ := q1
  rw [q1']
  have hm : w' 372 = w 372 := q2 372 (by decide)
  have hI' : Iv T z (w' 372) := by rw [hm]; exact hI
  refine ⟨w', ?_, q2⟩
  unfold aReady
  rcases hI.iwp hi with e | ⟨c, hc, e⟩
  · rw [e] at k2 ⊢
    have hk : k = 0 := dp_fun k2 (show dp (hol (w 372)) 0 (-1) from rfl)
    subst hk
    rw [if_pos rfl]
    show sX13_ready_50 4096 w' (iN 0) (w 372 0) 0 (iN 0 - 1) = _
    rw [sX13_ready_50.eq_2, if_pos (by decide)]
  · rw [e] at k2 q3 ⊢
    cases k with
    | zero => exact (iN_m1 (by omega) k2).elim
    | succ k =>
      have ho := hI.iout hc
      have hlast : w' 375 k = iN (out (w 372) c) := by
        have := q3 k (by omega)
        rw [Nat.zero_add] at this
        rw [this, upk_oN (by omega) hI.ich hc k2]
        unfold out
        rw [oN_st (by omega) hI.ich hc k2 (by omega : k ≤ 12)]
      rw [if_neg (iN_m1 (by omega)), iN_nat (by omega)]
      simp only [rG_st k2 k1]
      have fin : ∀ (v : Nat) (g : Bool) (a : Int32), v < nV (w 372) → ((cr (w 372) (out (w 372) c) 3 = -1 ∧ g = true ∧ cr (w 372) (out (w 372) c) 4 = iN v ∧ cr (w 372) (out (w 372) c) 5 = a) ∨ (cr (w 372) (out (w 372) c) 3 = iN v ∧ g = false)) → sX13_ready_50 FU w' (iN (k + 1)) (w 372 0) (0 : Int32) (iN (k + 1) - 1) = some ((rG (hol (w 372)) (stM (w 372) v g a) (w 372 0, false) (k + 1) (iN c)).1, w') := fun v g a hv hg => by
        have := l13_time (w := w') (s0 := (w 372 0, false)) hI' (v := v) (k := k + 1) (o := out (w 372) c) (x := iN c) (a := a) (g := g) (by rw [hm]; exact hv) k1 (by rw [hm]; exact Or.inr ⟨c, hc, rfl⟩) (by rw [hm]; exact k2) (fun j hj => by have := q3 j hj; rw [Nat.zero_add] at this; rw [hm]; exact this) (by rw [hm]; exact ho) (fun _ => hlast) (by rw [hm]; exact hg) (k + 1) FU (w 372 0) false (Nat.le_refl _) (by show k + 1 < 4096; omega) (by rw [Nat.sub_self]; rfl)
        rw [hm] at this
        exact this
      rcases (hI.ico _ ho).2.2.2.1 with ⟨g3, -, -, ⟨v, hv, g4⟩, -⟩ | ⟨⟨v, hv, g3⟩, -, -⟩
      · rw [if_pos g3, g4, iN_nat (by omega)]
        exact fin v true _ hv (Or.inl ⟨g3, rfl, g4, rfl⟩)
      · rw [if_neg (by rw [g3]; exact iN_m1 (by omega)), g3, iN_nat (by omega)]
        exact fin v false 0 hv (Or.inr ⟨g3, rfl⟩)
theorem e13_allReady (hI : Iv T z (w 372)) {c : Nat} (hc : c < nC (w 372)) : ∃ w', sX13_allReady w (iN c) = some (aAll (w 372) (iN c), w') ∧ ∀ r, r ≠ 375 → w' r = w r := by
  have h16 := hI.iw16
  unfold sX13_allReady aAll
  have A0 : ∀ (n : Nat) (a : Int32) (s : Int32 × Wl), (s.1 = a ∧ ∀ r, r ≠ 375 → s.2 r = w r) → sX13_allReady_4 (n + 1) s.2 (iN c) s.1 (iN (nW (w 372))) = some s := by
    intro n a s hs
    rw [sX13_allReady_4.eq_2, hs.2 372 (by decide), hI.iw, if_pos ((iN_le (by omega) (by omega)).mpr (Nat.le_refl _))]
  have A1 : ∀ (n : Nat) (a : Int32) (s : Int32 × Wl) (i : Nat), i < nW (w 372) → (s.1 = a ∧ ∀ r, r ≠ 375 → s.2 r = w r) → ∃ s' : Int32 × Wl, (s'.1 = (if isin (w 372) (wk (w 372) i 4) (iN c) = true then mx a (aReady (w 372) i) else a) ∧ ∀ r, r ≠ 375 → s'.2 r = w r) ∧ sX13_allReady_4 (n + 1) s.2 (iN c) s.1 (iN i) = sX13_allReady_4 n s'.2 (iN c) s'.1 (iN (i + 1)) := by
    intro n a s i hi hs
    obtain ⟨hs1, hs2⟩ := hs
    have hm := hs2 372 (by decide)
    have hI' : Iv T z (s.2 372) := by rw [hm]; exact hI
    rw [sX13_allReady_4.eq_2, hm, hI.iw, if_neg (show ¬ iN (nW (w 372)) ≤ iN i from fun q => by have := (iN_le (by omega) (by omega)).mp q; omega), e13_wk4 (by omega), ob, hm, e13_isWithin hI' (by rw [hm]; exact hI.iwp hi) (by rw [hm]; exact hc), ob, hm, iN_s]
    cases hin : isin (w 372) (wk (w 372) i 4) (iN c)
    · simp only [iF]
      exact ⟨s, ⟨hs1, hs2⟩, rfl⟩
    · simp only [iT, if_true]
      obtain ⟨w2, e1, e2⟩ := e13_ready (w := s.2) hI' (by rw [hm]; exact hi)
      rw [e1, ob, e13_greater, ob, hm]
      exact ⟨(mx s.1 (aReady (w 372) i), w2), ⟨by show mx s.1 _ = _; rw [hs1], fun r hr => (e2 r hr).trans (hs2 r hr)⟩, rfl⟩
  obtain ⟨s', ⟨h1, h2⟩, h3⟩ := loopA (L := fun n (s : Int32 × Wl) l => sX13_allReady_4 n s.2 (iN c) s.1 l) (N := nW (w 372)) (fin := fun s => some s) (f := fun i a => if isin (w 372) (wk (w 372) i 4) (iN c) = true then mx a (aReady (w 372) i) else a) (fun _ a s => s.1 = a ∧ ∀ r, r ≠ 375 → s.2 r = w r) A0 A1 (nW (w 372)) 0 (-1) (-1, w) FU (by omega) (by show _ < 4096; omega) ⟨rfl, fun _ _ => rfl⟩
  refine ⟨s'.2, ?_, h2⟩
  rw [← h1]
  exact h3
end MF
