/-! THE DIGEST: the model's -/
section DM
variable {w : Wl} {T z : Nat}
def MH (w s : Wl) (h : Int64) : Prop := lofW (s 371 10) (s 371 11) = h ∧ (∀ r, r ≠ 371 → r ≠ 375 → s r = w r) ∧ ∀ j, j ≠ 10 → j ≠ 11 → s 371 j = w 371 j
theorem MH.set {s : Wl} {h : Int64} (v : Int64) (hs : MH w s h) : MH w (wrow s 371 (upd (upd (s 371) 10 (hiW v)) 11 (loW v))) v := by
  obtain ⟨a, b, c⟩ := hs
  refine ⟨?_, fun r h1 h2 => by rw [rN h1]; exact b r h1 h2, fun j h1 h2 => by rw [rS, uN h2, uN h1]; exact c j h1 h2⟩
  rw [rS, uN (by decide), uS, uS, lofW_hl]
theorem MH.fr {s s' : Wl} {h : Int64} (hs : MH w s h) (h1 : ∀ r, r ≠ 375 → s' r = s r) : MH w s' h := by
  obtain ⟨a, b, c⟩ := hs
  refine ⟨by rw [h1 371 (by decide)]; exact a, fun r g1 g2 => (h1 r g2).trans (b r g1 g2), fun j g1 g2 => by rw [h1 371 (by decide)]; exact c j g1 g2⟩
theorem MH.mem {s : Wl} {h : Int64} (hs : MH w s h) : s 372 = w 372 := hs.2.1 372 (by decide) (by decide)
theorem e13_mix {s : Wl} {h : Int64} (hs : MH w s h) (x : Int32) : ∃ s', sX13_mix s x.toInt64 = some s' ∧ MH w s' (mixI h x) := by
  refine ⟨_, rfl, ?_⟩
  have := hs.set ((31 : Int64) * lofW (s 371 10) (s 371 11) + x.toInt64)
  rw [hs.1] at this ⊢
  exact this
theorem e13_mixWork (hI : Iv T z (w 372)) {s : Wl} {h : Int64} (hs : MH w s h) {i : Nat} (hi : i < nW (w 372)) : ∃ s', sX13_mixWork s (iN i) = some s' ∧ MH w s' (dgW1 (w 372) i h) := by
  have Is : ∀ {s : Wl} {h : Int64}, MH w s h → Iv T z (s 372) := fun hs => by rw [hs.mem]; exact hI
  unfold sX13_mixWork dgW1
  have C : ∀ (s : Wl) (a : Int64), MH w s a → ∃ s', sX13_mixWork_27 FU s (iN i) (0 : Int32) = some s' ∧ MH w s' (mixI (fld (fun j a => mixI a (aNoted (w 372) i (iN j))) 10 0 a) (aReady (w 372) i)) := fun s a hs => by
    have B0 : ∀ (n : Nat) (a : Int64) (s : Wl), MH w s a → sX13_mixWork_27 (n + 1) s (iN i) (iN 10) = ((sX13_ready s (iN i)).bind (fun r2 => (sX13_mix r2.2 r2.1.toInt64).bind (fun r6 => some r6))) := fun n a s _ => by
      rw [sX13_mixWork_27.eq_2, if_pos (by decide)]
    have B1 : ∀ (n : Nat) (a : Int64) (s : Wl) (j : Nat), j < 10 → MH w s a → ∃ s', MH w s' (mixI a (aNoted (w 372) i (iN j))) ∧ sX13_mixWork_27 (n + 1) s (iN i) (iN j) = sX13_mixWork_27 n s' (iN i) (iN (j + 1)) := fun n a s j hj hs => by
      obtain ⟨s', e1, e2⟩ := e13_mix hs (aNoted (w 372) i (iN j))
      refine ⟨s', e2, ?_⟩
      rw [sX13_mixWork_27.eq_2, if_neg (show ¬ (10 : Int32) ≤ iN j from fun q => by have := (iN_le (a := 10) (by decide) (by omega)).mp q; omega), e13_notedOf (Is hs) (by rw [hs.mem]; exact hi) (iN_neg (by omega)), ob, hs.mem, e1, ob, iN_s]
    obtain ⟨s1, q1, q2⟩ := loopB (L := fun n s l => sX13_mixWork_27 n s (iN i) l) (N := 10) (fin := fun _ s => (sX13_ready s (iN i)).bind (fun r2 => (sX13_mix r2.2 r2.1.toInt64).bind (fun r6 => some r6))) (f := fun j a => mixI a (aNoted (w 372) i (iN j))) (fun _ a s => MH w s a) B0 B1 10 0 a s FU (by decide) (by decide) hs
    obtain ⟨s2, r1, r2⟩ := e13_ready (Is q1) (show i < nW (s1 372) by rw [q1.mem]; exact hi)
    have q3 := q1.fr r2
    obtain ⟨s3, t1, t2⟩ := e13_mix q3 (aReady (w 372) i)
    refine ⟨s3, ?_, t2⟩
    refine q2.trans ?_
    rw [r1, ob, q1.mem, t1, ob]
  have B0 : ∀ (n : Nat) (a : Int64) (s : Wl), MH w s a → sX13_mixWork_2 (n + 1) s (iN i) (iN 8) = sX13_mixWork_27 FU s (iN i) (0 : Int32) := fun n a s _ => by
    rw [sX13_mixWork_2.eq_2, if_pos (by decide)]
  have B1 : ∀ (n : Nat) (a : Int64) (s : Wl) (j : Nat), j < 8 → MH w s a → ∃ s', MH w s' (mixI a (aWork (w 372) i (iN j))) ∧ sX13_mixWork_2 (n + 1) s (iN i) (iN j) = sX13_mixWork_2 n s' (iN i) (iN (j + 1)) := fun n a s j hj hs => by
    obtain ⟨s', e1, e2⟩ := e13_mix hs (aWork (w 372) i (iN j))
    refine ⟨s', e2, ?_⟩
    rw [sX13_mixWork_2.eq_2, if_neg (show ¬ (8 : Int32) ≤ iN j from fun q => by have := (iN_le (a := 8) (by decide) (by omega)).mp q; omega), e13_workOf (Is hs) (by rw [hs.mem]; exact hi) hj, ob, hs.mem, e1, ob, iN_s]
  obtain ⟨s1, q1, q2⟩ := loopB (L := fun n s l => sX13_mixWork_2 n s (iN i) l) (N := 8) (fin := fun _ s => sX13_mixWork_27 FU s (iN i) (0 : Int32)) (f := fun j a => mixI a (aWork (w 372) i (iN j))) (fun _ a s => MH w s a) B0 B1 8 0 h s FU (by decide) (by decide) hs
  obtain ⟨s2, r1, r2⟩ := C s1 _ q1
  exact ⟨s2, q2.trans r1, r2⟩
theorem e13_dg170 (hI : Iv T z (w 372)) {s : Wl} {h : Int64} (hs : MH w s h) : ∃ s', sX13_digest_170 FU s (0 : Int32) = some (dgK (w 372) h, s') ∧ MH w s' (dgK (w 372) h) := by
  have h4 := hI.ik4
  have B0 : ∀ (n : Nat) (a : Int64) (s : Wl), MH w s a → sX13_digest_170 (n + 1) s (iN (nK (w 372))) = some (a, s) := fun n a s hs => by
    rw [sX13_digest_170.eq_2, hs.mem, hI.ik, if_pos ((iN_le (by omega) (by omega)).mpr (Nat.le_refl _)), hs.1]
  have B1 : ∀ (n : Nat) (a : Int64) (s : Wl) (k : Nat), k < nK (w 372) → MH w s a → ∃ s', MH w s' (mixI a (co (w 372) k)) ∧ sX13_digest_170 (n + 1) s (iN k) = sX13_digest_170 n s' (iN (k + 1)) := fun n a s k hk hs => by
    obtain ⟨s', e1, e2⟩ := e13_mix hs (co (w 372) k)
    refine ⟨s', e2, ?_⟩
    rw [sX13_digest_170.eq_2, hs.mem, hI.ik, if_neg (fun q => by have := (iN_le (by omega) (by omega)).mp q; omega), ix_co (by omega), ob, show w 372 (137 + 2 * k) = co (w 372) k from rfl, e1, ob, iN_s]
  obtain ⟨s1, q1, q2⟩ := loopB (L := fun n s l => sX13_digest_170 n s l) (N := nK (w 372)) (fin := fun a s => some (a, s)) (f := fun k a => mixI a (co (w 372) k)) (fun _ a s => MH w s a) B0 B1 (nK (w 372)) 0 h s FU (by omega) (by show _ < 4096; omega) hs
  exact ⟨s1, q2, q1⟩
theorem e13_dg147 (hI : Iv T z (w 372)) {s : Wl} {h : Int64} (hs : MH w s h) : ∃ s', sX13_digest_147 FU s (0 : Int32) = some (dgK (w 372) (dgW (w 372) h), s') ∧ MH w s' (dgK (w 372) (dgW (w 372) h)) := by
  have h16 := hI.iw16
  have B0 : ∀ (n : Nat) (a : Int64) (s : Wl), MH w s a → sX13_digest_147 (n + 1) s (iN (nW (w 372))) = sX13_digest_170 FU s (0 : Int32) := fun n a s hs => by
    rw [sX13_digest_147.eq_2, hs.mem, hI.iw, if_pos ((iN_le (by omega) (by omega)).mpr (Nat.le_refl _))]
  have B1 : ∀ (n : Nat) (a : Int64) (s : Wl) (k : Nat), k < nW (w 372) → MH w s a → ∃ s', MH w s' (dgW1 (w 372) k a) ∧ sX13_digest_147 (n + 1) s (iN k) = sX13_digest_147 n s' (iN (k + 1)) := fun n a s k hk hs => by
    obtain ⟨s', e1, e2⟩ := e13_mixWork hI hs hk
    refine ⟨s', e2, ?_⟩
    rw [sX13_digest_147.eq_2, hs.mem, hI.iw, if_neg (fun q => by have := (iN_le (by omega) (by omega)).mp q; omega), e1, ob, iN_s]
  obtain ⟨s1, q1, q2⟩ := loopB (L := fun n s l => sX13_digest_147 n s l) (N := nW (w 372)) (fin := fun _ s => sX13_digest_170 FU s (0 : Int32)) (f := dgW1 (w 372)) (fun _ a s => MH w s a) B0 B1 (nW (w 372)) 0 h s FU (by omega) (by show _ < 4096; omega) hs
  obtain ⟨s2, r1, r2⟩ := e13_dg170 hI q1
  exact ⟨s2, q2.trans r1, r2⟩
theorem e13_dg94 (hI : Iv T z (w 372)) {s : Wl} {h : Int64} (hs : MH w s h) : ∃ s', sX13_digest_94 FU s (0 : Int32) = some (dgK (w 372) (dgW (w 372) (dgC (w 372) h)), s') ∧ MH w s' (dgK (w 372) (dgW (w 372) (dgC (w 372) h))) := by
  have h12 := hI.ic12
  have Is : ∀ {s : Wl} {h : Int64}, MH w s h → Iv T z (s 372) := fun hs => by rw [hs.mem]; exact hI
  have B0 : ∀ (n : Nat) (a : Int64) (s : Wl), MH w s a → sX13_digest_94 (n + 1) s (iN (nC (w 372))) = sX13_digest_147 FU s (0 : Int32) := fun n a s hs => by
    rw [sX13_digest_94.eq_2, hs.mem, hI.ic, if_pos ((iN_le (by omega) (by omega)).mpr (Nat.le_refl _))]
  have B1 : ∀ (n : Nat) (a : Int64) (s : Wl) (c : Nat), c < nC (w 372) → MH w s a → ∃ s', MH w s' (dgC1 (w 372) c a) ∧ sX13_digest_94 (n + 1) s (iN c) = sX13_digest_94 n s' (iN (c + 1)) := fun n a s c hc hs => by
    have C0 : ∀ (k : Nat) (a : Int64) (s : Wl), MH w s a → sX13_digest_106 (fun w l1 => sX13_digest_94 n w l1) (k + 1) s (iN c) (iN 14) = (sX13_allReady s (iN c)).bind (fun r2 => (sX13_mix r2.2 r2.1.toInt64).bind (fun r6 => sX13_digest_94 n r6 (iN c + 1))) := fun k a s _ => by
      rw [sX13_digest_106.eq_2, if_pos (by decide)]
    have C1 : ∀ (k : Nat) (a : Int64) (s : Wl) (j : Nat), j < 14 → MH w s a → ∃ s', MH w s' (mixI a (aCrate (w 372) c (iN j))) ∧ sX13_digest_106 (fun w l1 => sX13_digest_94 n w l1) (k + 1) s (iN c) (iN j) = sX13_digest_106 (fun w l1 => sX13_digest_94 n w l1) k s' (iN c) (iN (j + 1)) := fun k a s j hj hs => by
      obtain ⟨s', e1, e2⟩ := e13_mix hs (aCrate (w 372) c (iN j))
      refine ⟨s', e2, ?_⟩
      rw [sX13_digest_106.eq_2, if_neg (show ¬ (14 : Int32) ≤ iN j from fun q => by have := (iN_le (a := 14) (by decide) (by omega)).mp q; omega), e13_crateOf (Is hs) (by rw [hs.mem]; exact hc), ob, hs.mem, e1, ob, iN_s]
    obtain ⟨s1, q1, q2⟩ := loopB (L := fun k s l => sX13_digest_106 (fun w l1 => sX13_digest_94 n w l1) k s (iN c) l) (N := 14) (fin := fun _ s => (sX13_allReady s (iN c)).bind (fun r2 => (sX13_mix r2.2 r2.1.toInt64).bind (fun r6 => sX13_digest_94 n r6 (iN c + 1)))) (f := fun j a => mixI a (aCrate (w 372) c (iN j))) (fun _ a s => MH w s a) C0 C1 14 0 a s FU (by decide) (by decide) hs
    obtain ⟨s2, r1, r2⟩ := e13_allReady (Is q1) (show c < nC (s1 372) by rw [q1.mem]; exact hc)
    obtain ⟨s3, t1, t2⟩ := e13_mix (q1.fr r2) (aAll (w 372) (iN c))
    refine ⟨s3, t2, ?_⟩
    rw [sX13_digest_94.eq_2, hs.mem, hI.ic, if_neg (fun q => by have := (iN_le (by omega) (by omega)).mp q; omega)]
    refine q2.trans ?_
    rw [r1, ob, q1.mem, t1, ob, iN_s]
  obtain ⟨s1, q1, q2⟩ := loopB (L := fun n s l => sX13_digest_94 n s l) (N := nC (w 372)) (fin := fun _ s => sX13_digest_147 FU s (0 : Int32)) (f := dgC1 (w 372)) (fun _ a s => MH w s a) B0 B1 (nC (w 372)) 0 h s FU (by omega) (by show _ < 4096; omega) hs
  obtain ⟨s2, r1, r2⟩ := e13_dg147 hI q1
  exact ⟨s2, q2.trans r1, r2⟩
theorem fld_add {α : Type} {f : Nat → α → α} : ∀ (a b i : Nat) (x : α), fld f (a + b) i x = fld f b (i + a) (fld f a i x)
  | 0, b, i, x => by rw [Nat.zero_add]; rfl
  | a + 1, b, i, x => by
    rw [show a + 1 + b = (a + b) + 1 by omega]
    show fld f (a + b) (i + 1) (f i x) = fld f b (i + (a + 1)) (fld f a (i + 1) (f i x))
    rw [fld_add a b (i + 1), show i + 1 + a = i + (a + 1) by omega]
theorem fld_shift {α : Type} {f g : Nat → α → α} (s : Nat) : ∀ (k i : Nat) (x : α), (∀ j, i ≤ j → j < i + k → ∀ b, f (s + j) b = g j b) → fld f k (s + i) x = fld g k i x
  | 0, _, _, _ => rfl
  | k + 1, i, x, h => by
    show fld f k (s + i + 1) (f (s + i) x) = fld g k (i + 1) (g i x)
    rw [h i (Nat.le_refl _) (by omega)]
    exact fld_shift s k (i + 1) _ (fun j h1 h2 => h j (by omega) (by omega))
theorem fld_nine {α : Type} (F : Nat → Nat → α → α) (h : α) (N : Nat) : fld (fun k a => F (k / 9) (k % 9) a) (9 * N) 0 h = fld (fun v a => fld (fun j a => F v j a) 9 0 a) N 0 h := by
  induction N with
  | zero => rw [Nat.mul_zero]; rfl
  | succ N ih =>
    have e := fld_last (f := fun v a => fld (fun j a => F v j a) 9 0 a) N 0 h
    rw [Nat.zero_add] at e
    rw [e, show 9 * (N + 1) = 9 * N + 9 by omega, fld_add, ih, Nat.zero_add]
    generalize fld (fun v a => fld (fun j a => F v j a) 9 0 a) N 0 h = x
    have e3 : fld (fun k a => F (k / 9) (k % 9) a) 9 (9 * N + 0) x = fld (fun j a => F N j a) 9 0 x := fld_shift (9 * N) 9 0 x (fun j _ hj b => by
      rw [show (9 * N + j) / 9 = N by omega, show (9 * N + j) % 9 = j by omega])
    rw [Nat.add_zero] at e3
    rw [e3]
theorem dgV_flat (m : Nat → Int32) (N : Nat) (h : Int64) : fld (fun k a => mixI a (aVenue m (k / 9) (iN (k % 9)))) (9 * N) 0 h = fld (dgV1 m) N 0 h :=
  fld_nine (fun v j a => mixI a (aVenue m v (iN j))) h N
theorem div9 : ∀ k, k < 72 → iN k / 9 = iN (k / 9) ∧ iN k - iN (k / 9) * 9 = iN (k % 9) := by decide
theorem e13_dg56 (hI : Iv T z (w 372)) {s : Wl} {h : Int64} (hs : MH w s h) : ∃ s', sX13_digest_56 FU s (0 : Int32) = some (dgK (w 372) (dgW (w 372) (dgC (w 372) (dgV (w 372) h))), s') ∧ MH w s' (dgK (w 372) (dgW (w 372) (dgC (w 372) (dgV (w 372) h)))) := by
  have h8 := hI.iv8
  have Is : ∀ {s : Wl} {h : Int64}, MH w s h → Iv T z (s 372) := fun hs => by rw [hs.mem]; exact hI
  have e9 : (9 : Int32) * iN (nV (w 372)) = iN (9 * nV (w 372)) := iN_mul 9 _
  have B0 : ∀ (n : Nat) (a : Int64) (s : Wl), MH w s a → sX13_digest_56 (n + 1) s (iN (9 * nV (w 372))) = sX13_digest_94 FU s (0 : Int32) := fun n a s hs => by
    rw [sX13_digest_56.eq_2, hs.mem, hI.iv, e9, if_pos ((iN_le (by omega) (by omega)).mpr (Nat.le_refl _))]
  have B1 : ∀ (n : Nat) (a : Int64) (s : Wl) (k : Nat), k < 9 * nV (w 372) → MH w s a → ∃ s', MH w s' (mixI a (aVenue (w 372) (k / 9) (iN (k % 9)))) ∧ sX13_digest_56 (n + 1) s (iN k) = sX13_digest_56 n s' (iN (k + 1)) := fun n a s k hk hs => by
    obtain ⟨s', e1, e2⟩ := e13_mix hs (aVenue (w 372) (k / 9) (iN (k % 9)))
    refine ⟨s', e2, ?_⟩
    obtain ⟨d1, d2⟩ := div9 k (by omega)
    rw [sX13_digest_56.eq_2, hs.mem, hI.iv, e9, if_neg (fun q => by have := (iN_le (by omega) (by omega)).mp q; omega), d1, d2, e13_venueOfWhat (Is hs) (show k / 9 < nV (s 372) by rw [hs.mem]; omega) (Nat.mod_lt _ (by decide)), ob, hs.mem, e1, ob, iN_s]
  obtain ⟨s1, q1, q2⟩ := loopB (L := fun n s l => sX13_digest_56 n s l) (N := 9 * nV (w 372)) (fin := fun _ s => sX13_digest_94 FU s (0 : Int32)) (f := fun k a => mixI a (aVenue (w 372) (k / 9) (iN (k % 9)))) (fun _ a s => MH w s a) B0 B1 (9 * nV (w 372)) 0 h s FU (by omega) (by show _ < 4096; omega) hs
  rw [dgV_flat] at q1
  obtain ⟨s2, r1, r2⟩ := e13_dg94 hI q1
  exact ⟨s2, q2.trans r1, r2⟩
/-- the model's digest -/
theorem e13_digest (hI : Iv T z (w 372)) : ∃ s', sX13_digest w = some (dg (w 372) (w 371 2) (w 371 4), s') ∧ s' 371 5 = 0 ∧ (∀ r, r ≠ 371 → r ≠ 375 → s' r = w r) ∧ ∀ j, j ≠ 5 → j ≠ 10 → j ≠ 11 → s' 371 j = w 371 j := by
  unfold sX13_digest
  have H0 : MH (wst w 371 5 (0 : Int32)) (wst w 371 5 (0 : Int32)) (lofW ((wst w 371 5 (0 : Int32)) 371 10) ((wst w 371 5 (0 : Int32)) 371 11)) := ⟨rfl, fun _ _ _ => rfl, fun _ _ _ => rfl⟩
  have H1 := H0.set (43003 : Int64)
  have f1 : ∀ r, r ≠ 371 → wst w 371 5 (0 : Int32) r = w r := fun r h => wN h
  have f2 : ∀ j, j ≠ 5 → wst w 371 5 (0 : Int32) 371 j = w 371 j := fun j h => by rw [wS, uN h]
  have f3 : wst w 371 5 (0 : Int32) 371 5 = 0 := by rw [wS, uS]
  generalize wrow (wst w 371 5 (0 : Int32)) 371 (upd (upd ((wst w 371 5 (0 : Int32)) 371) 10 (hiW (43003 : Int64))) 11 (loW (43003 : Int64))) = s at H1
  clear H0
  generalize wst w 371 5 (0 : Int32) = w0 at H1 f1 f2 f3
  have I0 : Iv T z (w0 372) := by rw [f1 372 (by decide)]; exact hI
  have em : w0 372 = w 372 := f1 372 (by decide)
  have Is : ∀ {s : Wl} {h : Int64}, MH w0 s h → Iv T z (s 372) := fun hs => by rw [hs.mem]; exact I0
  obtain ⟨s1, a1, a2⟩ := e13_mix H1 (s 371 2)
  rw [a1, ob]
  obtain ⟨s2, b1, b2⟩ := e13_mix a2 (s1 371 4)
  rw [b1, ob]
  have e2 : s 371 2 = w 371 2 := (H1.2.2 2 (by decide) (by decide)).trans (f2 2 (by decide))
  have e4 : s1 371 4 = w 371 4 := (a2.2.2 4 (by decide) (by decide)).trans (f2 4 (by decide))
  rw [e2, e4] at b2
  have B0 : ∀ (n : Nat) (a : Int64) (s : Wl), MH w0 s a → sX13_digest_32 (n + 1) s (iN 10) = sX13_digest_56 FU s (0 : Int32) := fun n a s hs => by
    rw [sX13_digest_32.eq_2, if_pos (by decide)]
  have B1 : ∀ (n : Nat) (a : Int64) (s : Wl) (j : Nat), j < 10 → MH w0 s a → ∃ s', MH w0 s' (mixI a (aWhole (w0 372) (iN j))) ∧ sX13_digest_32 (n + 1) s (iN j) = sX13_digest_32 n s' (iN (j + 1)) := fun n a s j hj hs => by
    obtain ⟨s', e1, e2⟩ := e13_mix hs (aWhole (w0 372) (iN j))
    refine ⟨s', e2, ?_⟩
    rw [sX13_digest_32.eq_2, if_neg (show ¬ (10 : Int32) ≤ iN j from fun q => by have := (iN_le (a := 10) (by decide) (by omega)).mp q; omega), e13_wholeOf (Is hs) hj, ob, hs.mem, e1, ob, iN_s]
  obtain ⟨s3, q1, q2⟩ := loopB (L := fun n s l => sX13_digest_32 n s l) (N := 10) (fin := fun _ s => sX13_digest_56 FU s (0 : Int32)) (f := fun j a => mixI a (aWhole (w0 372) (iN j))) (fun _ a s => MH w0 s a) B0 B1 10 0 _ s2 FU (by decide) (by decide) b2
  obtain ⟨s4, r1, r2⟩ := e13_dg56 I0 q1
  refine ⟨s4, ?_, (r2.2.2 5 (by decide) (by decide)).trans f3, fun r h1 h2 => (r2.2.1 r h1 h2).trans (f1 r h1), fun j h1 h2 h3 => (r2.2.2 j h2 h3).trans (f2 j h1)⟩
  refine q2.trans (r1.trans ?_)
  rw [em]
  rfl
end DM
