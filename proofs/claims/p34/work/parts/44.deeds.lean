/-! DEEDS: opening, closing, nesting, taking out, packing, unpacking -/
def dOpens (m : Nat → Int32) (c : Nat) : Nat → Int32 := fld (fun k a => if cr a k 2 = iN c then (if opb a k = true then a else upd a (145 + 9 * k + 8) (a 0)) else a) (nC m) 0 (upd m (145 + 9 * c + 1) 1)
def dCloses (m : Nat → Int32) (c : Nat) : Nat → Int32 := upd (upd (upd (upd m (145 + 9 * c + 1) 0) (145 + 9 * c + 6) (vn m (vof m c).toNatClampNeg 0)) (145 + 9 * c + 7) (vn m (vof m c).toNatClampNeg 1)) (145 + 9 * c + 8) (m 0)
def dNests (m : Nat → Int32) (c d : Nat) : Nat → Int32 := upd m (145 + 9 * c + 2) (iN d)
def dTakes (m : Nat → Int32) (c : Nat) : Nat → Int32 := upd (upd m (145 + 9 * c + 3) (vof m c)) (145 + 9 * c + 2) (-1)
def dPacks (m : Nat → Int32) (i c : Nat) : Nat → Int32 := upd m (253 + 18 * i + 4) (iN c)
def dUnpacks (m : Nat → Int32) (i : Nat) : Nat → Int32 := upd (upd m (253 + 18 * i + 5) (vof m (wk m i 4).toNatClampNeg)) (253 + 18 * i + 4) (-1)
/-- the world is the same but for the model's memory -/
def only372 (w w' : Wl) : Prop := ∀ r, r ≠ 372 → w' r = w r
theorem loopB {σ α β : Type} {L : Nat → σ → Int32 → Option β} {N : Nat} {fin : α → σ → Option β} {f : Nat → α → α} (R : Nat → α → σ → Prop)
    (h0 : ∀ n a s, R N a s → L (n + 1) s (iN N) = fin a s)
    (h1 : ∀ n a s i, i < N → R i a s → ∃ s', R (i + 1) (f i a) s' ∧ L (n + 1) s (iN i) = L n s' (iN (i + 1))) :
    ∀ (k i : Nat) (a : α) (s : σ) (n : Nat), i + k = N → k < n → R i a s → ∃ s', R N (fld f k i a) s' ∧ L n s (iN i) = fin (fld f k i a) s'
  | 0, i, a, s, n, hi, hn, hp => by
    obtain ⟨n, rfl⟩ : ∃ m, n = m + 1 := ⟨n - 1, by omega⟩
    have e : i = N := by omega
    subst e
    exact ⟨s, hp, h0 n a s hp⟩
  | k + 1, i, a, s, n, hi, hn, hp => by
    obtain ⟨n, rfl⟩ : ∃ m, n = m + 1 := ⟨n - 1, by omega⟩
    obtain ⟨s', hs, e⟩ := h1 n a s i (by omega) hp
    obtain ⟨s2, h2, e2⟩ := loopB R h0 h1 k (i + 1) (f i a) s' n (by omega) (by omega) hs
    exact ⟨s2, h2, e.trans e2⟩
section DE
variable {T z : Nat} {m m' : Nat → Int32} {w w' : Wl}
theorem Iv.work (hI : Iv T z m) {i : Nat} (hi : i < nW m) (he : eqo (253 + 18 * i) (253 + 18 * i + 18) m m') (hW : WOk (nV m) (nC m) (wk m' i)) : Iv T z m' := by
  obtain ⟨n1, n2, n3, n4, n5⟩ := he.fn (by omega)
  refine hI.mk0 (fun x _ _ => he x (by omega)) (jV1 hI n1 (fun x _ _ => he x (by omega))) (jV2 hI (fun x _ _ => he x (by omega))) (jV3 hI (fun x _ _ => he x (by omega))) (jC hI (by omega) n2 n5 (fun x _ _ => he x (by omega))) (jD hI n2 (fun x _ _ => he x (by omega))) (fun d hd => ?_) (jK hI (by omega) (by omega) n4 (fun x _ _ => he x (by omega)))
  rw [n1, n2]
  by_cases e : d = i
  · subst e; exact hW
  · exact (hI.iwo d (by omega)).congr (Nat.le_refl _) (Nat.le_refl _) (fun j hj => he _ (by omega))
theorem Rl.work (hR : Rl w 1 m) (hI : Iv T z m) {i : Nat} (hi : i < nW m) (hw : ∀ r, r ≠ 41 + 2 * i → r ≠ 42 + 2 * i → w' r = w r) (he : eqo (253 + 18 * i) (253 + 18 * i + 18) m m') (hE : w' (41 + 2 * i) 3 = 0 ∨ w' (41 + 2 * i) 3 = 1) (hP : ∀ j, j < 10 → w' (42 + 2 * i) j = wk m' i (8 + j)) (hW : RlW (w' (41 + 2 * i)) (wk m' i)) : Rl w' 1 m' := by
  obtain ⟨n1, n2, n3, n4, n5⟩ := he.fn (by omega)
  have h16 := hI.iw16
  refine ⟨sS hR (hw 1 (by omega) (by omega)) (fun x _ _ => he x (by omega)), sV hR (fun r _ _ => hw r (by omega) (by omega)) (fun x _ _ => he x (by omega)), sA hR (fun r _ _ => hw r (by omega) (by omega)) (fun x _ _ => he x (by omega)), sC hR (fun r _ _ => hw r (by omega) (by omega)) (fun x _ _ => he x (by omega)) n2 hI.ic12 n4 hI.ik4, fun d hd => ?_, fun d hd => ?_, fun d h1 hd => ?_, sL hR (fun r _ _ => hw r (by omega) (by omega)) (fun x _ _ => he x (by omega)), sK hR (hw _ (by omega) (by omega)) (fun x _ _ => he x (by omega))⟩
  · by_cases e : d = i
    · subst e
      rw [show 1 + 40 + 2 * d = 41 + 2 * d by omega, show 41 + 2 * d + 1 = 42 + 2 * d by omega]
      exact ⟨hE, hP⟩
    · rw [hw _ (by omega) (by omega), hw _ (by omega) (by omega)]
      refine ⟨(hR.2.2.2.2.1 d hd).1, fun j hj => ?_⟩
      rw [(hR.2.2.2.2.1 d hd).2 j hj]; exact (he _ (by omega)).symm
  · by_cases e : d = i
    · subst e
      rw [show 1 + 40 + 2 * d = 41 + 2 * d by omega]
      exact hW
    · exact (hR.2.2.2.2.2.1 d (by omega)).of (hw _ (by omega) (by omega)) (fun j hj => he _ (by omega))
  · rw [hw _ (by omega) (by omega)]
    exact hR.2.2.2.2.2.2.1 d (by omega) hd
theorem COk.congr8 {nv nc t : Nat} {s : Prop} {o o' f f' : Nat → Int32} (h : COk nv nc t s o f) (hf : ∀ j, j < 8 → f' j = f j) (ho : ∀ d, d < nc → f 2 = iN d → f 1 = 1 → o d = 1 → o' d = 1) : COk nv nc t s o' f' := by
  obtain ⟨h1, h2, h3, h4, h5⟩ := h
  unfold COk
  rw [hf 0 (by decide), hf 1 (by decide), hf 2 (by decide), hf 3 (by decide), hf 4 (by decide), hf 5 (by decide), hf 6 (by decide), hf 7 (by decide)]
  refine ⟨h1, h2, ?_, h4, h5⟩
  rcases h3 with e | ⟨d, hd, e, q⟩
  · exact Or.inl e
  · exact Or.inr ⟨d, hd, e, fun p => ho d hd e p (q p)⟩
/-- a chain over holders that are changed at one crate -/
theorem dp_re {n c : Nat} {h h' : Nat → Int32} (hn : n ≤ 2147483648) (hc : Ch n h) (he : ∀ d, d < n → d ≠ c → h' d = h d) (hd : ∃ k, dp h' k (h' c)) : ∀ (k : Nat) (x : Int32), ptr n x → dp h k x → ∃ k', dp h' k' x
  | 0, x, _, p => ⟨0, p⟩
  | k + 1, x, hx, p => by
    rcases hx with e | ⟨d, hdn, rfl⟩
    · exact (p.1 e).elim
    · have p2 := p.2
      rw [iN_nat (by omega)] at p2
      by_cases e : d = c
      · subst e
        obtain ⟨k', hk'⟩ := hd
        exact ⟨k' + 1, p.1, by rw [iN_nat (by omega)]; exact hk'⟩
      · obtain ⟨k', hk'⟩ := dp_re hn hc he hd k (h d) (hc d hdn) p2
        exact ⟨k' + 1, p.1, by rw [iN_nat (by omega), he d hdn e]; exact hk'⟩
theorem dp_av {n c : Nat} {h h' o : Nat → Int32} (hn : n ≤ 2147483648) (hc : Ch n h) (he : ∀ d, d < n → d ≠ c → h' d = h d) (ho : ¬ o c = 1) : ∀ (k : Nat) (x : Int32), ptr n x → dp h k x → aoN h o k x = true → dp h' k x
  | 0, x, _, p, _ => p
  | k + 1, x, hx, p, q => by
    rcases hx with e | ⟨d, hdn, rfl⟩
    · exact (p.1 e).elim
    · have p2 := p.2
      rw [iN_nat (by omega)] at p2
      have q : (if iN d = -1 then true else if o (iN d).toNatClampNeg = 1 then aoN h o k (h (iN d).toNatClampNeg) else false) = true := q
      rw [if_neg p.1, iN_nat (by omega)] at q
      by_cases h1 : o d = 1
      · rw [if_pos h1] at q
        have hne : d ≠ c := fun e => ho (e ▸ h1)
        refine ⟨p.1, ?_⟩
        rw [iN_nat (by omega), he d hdn hne]
        exact dp_av hn hc he ho k (h d) (hc d hdn) p2 q
      · rw [if_neg h1] at q; cases q
/-- within reach: all around are open -/
theorem reach_ao (hI : Iv T z m) {c k : Nat} (hc : c < nC m) (hd : dp (hol m) (k + 1) (iN c)) (hk : k + 1 ≤ 12) (hr : reach m c = true) : aoN (hol m) (opn m) k (hol m c) = true := by
  have h12 := hI.ic12
  unfold reach at hr
  rw [rcN_st (by omega) hI.ich hc hd hk, rc_ao (w := fun _ => m) hI k c hc hd] at hr
  exact (Bool.and_eq_true_iff.mp hr).2
theorem reach_hol (hI : Iv T z m) {c d : Nat} (hc : c < nC m) (hr : reach m c = true) (h : cr m c 2 = iN d) (hd : d < nC m) : cr m d 1 = 1 := by
  have h12 := hI.ic12
  obtain ⟨k, k1, k2⟩ := hI.idc hc
  have := reach_ao hI hc k2 k1 hr
  have k3 := k2.2
  rw [iN_nat (by omega), hol_c (by omega), h] at k3
  rw [hol_c (by omega), h] at this
  cases k with
  | zero => exact (iN_m1 (by omega) k3).elim
  | succ k =>
    have q : (if iN d = -1 then true else if opn m (iN d).toNatClampNeg = 1 then aoN (hol m) (opn m) k (hol m (iN d).toNatClampNeg) else false) = true := this
    rw [if_neg k3.1, iN_nat (by omega), opn_c (by omega)] at q
    by_cases h1 : cr m d 1 = 1
    · exact h1
    · rw [if_neg h1] at q; cases q
theorem reach_at (hI : Iv T z m) {c : Nat} (hc : c < nC m) (hr : reach m c = true) : ∃ v, v < nV m ∧ cr m c 3 = iN v := by
  have h12 := hI.ic12
  rcases (hI.ico c hc).2.2.2.1 with ⟨q3, q2, -⟩ | ⟨q, -, -⟩
  · exfalso
    obtain ⟨v, hv, e⟩ := hI.irv hc hr
    have ho : out m c = c := by
      unfold out
      show (if hol m c = -1 then c else _) = c
      rw [hol_c (by omega), if_pos q2]
    unfold vof at e
    rw [ho, q3] at e
    exact m1_iN (by have := hI.iv8; omega) e
  · exact q
theorem no_tag (hI : Iv T z m) {c : Nat} (hc : c < nC m) (ha : ¬ cr m c 3 = -1) : ∀ k, k < nK m → ¬ tg m k = iN c := fun k hk e => by
  have h12 := hI.ic12
  rcases (hI.iko k hk).2.1 with e' | ⟨c', hc', e', q⟩
  · exact m1_iN (by omega) (e'.symm.trans e)
  · have := (iN_eq (by omega) (by omega)).mp (e'.symm.trans e)
    subst this
    rw [atv_c (by omega)] at q
    exact ha q
-- opening
theorem i_open1 (hI : Iv T z m) {c : Nat} (hc : c < nC m) (hr : reach m c = true) : Iv T z (upd m (145 + 9 * c + 1) 1) := by
  have h12 := hI.ic12
  have he : eqo (145 + 9 * c) (154 + 9 * c) m (upd m (145 + 9 * c + 1) 1) := eqo.rf.upd1 (by omega) (by omega)
  have hf : ∀ j, j ≠ 1 → cr (upd m (145 + 9 * c + 1) 1) c j = cr m c j := fun j hj => by unfold cr; rw [uN (by omega)]
  have h1 : cr (upd m (145 + 9 * c + 1) 1) c 1 = 1 := by unfold cr; rw [uS]
  obtain ⟨v, hv, ev⟩ := reach_at hI hc hr
  obtain ⟨-, a2, a3, a4, a5⟩ := hI.ico c hc
  refine hI.crateH hc he (fun _ _ q => q) ?_ (fun _ _ _ _ _ => h1) (fun k hk e q => by rw [hf 3 (by decide)]; exact q) (hf 2 (by decide))
  unfold COk
  rw [h1, hf 0 (by decide), hf 2 (by decide), hf 3 (by decide), hf 4 (by decide), hf 5 (by decide)]
  refine ⟨Or.inr rfl, a2, ?_, Or.inr ?_, fun q => absurd q (by decide)⟩
  · rcases a3 with e | ⟨d, hd, e, -⟩
    · exact Or.inl e
    · refine Or.inr ⟨d, hd, e, fun _ => ?_⟩
      rw [opn_c (by omega)]
      by_cases e' : d = c
      · subst e'; exact h1
      · rw [he.fr e' (by decide)]; exact reach_hol hI hc hr e hd
  · rcases a4 with q | q
    · exact (iN_m1 (by have := hI.iv8; omega) (ev.symm.trans q.1)).elim
    · exact q
theorem r_open1 (hR : Rl w 1 m) (hI : Iv T z m) {c : Nat} (hc : c < nC m) : Rl (wst w (29 + c) 1 1) 1 (upd m (145 + 9 * c + 1) 1) := by
  have h12 := hI.ic12
  have hf : ∀ j, j ≠ 1 → cr (upd m (145 + 9 * c + 1) 1) c j = cr m c j := fun j hj => by unfold cr; rw [uN (by omega)]
  have h1 : cr (upd m (145 + 9 * c + 1) 1) c 1 = 1 := by unfold cr; rw [uS]
  refine hR.crate (c := c) h12 hI.iw16 hI.ik4 (by omega) (fun r hr => wN (by omega)) (eqo.rf.upd1 (by omega) (by omega)) ?_ (fun _ => ?_)
  · obtain ⟨b1, b2, b3, b4, b5⟩ := hR.a (by omega : c < 12)
    rw [show 1 + 28 + c = 29 + c by omega, wS]
    unfold RlA
    rw [h1, hf 0 (by decide), hf 6 (by decide), hf 7 (by decide)]
    simp (disch := omega) only [uS, uN]
    exact ⟨b1, trivial, Or.inr trivial, b4, b5⟩
  · obtain ⟨b1, b2, b3, b4, b5, b6, b7⟩ := hR.c hc
    rw [show 1 + 28 + c = 29 + c by omega, wS]
    unfold RlC
    rw [h1, hf 2 (by decide), hf 3 (by decide), hf 4 (by decide), hf 5 (by decide)]
    simp (disch := omega) only [uS, uN]
    exact ⟨b1, b2, b3, b4, fun q => absurd q (by decide), b6, b7⟩
theorem i_since (hI : Iv T z m) {k : Nat} (hk : k < nC m) (t : Int32) : Iv T z (upd m (145 + 9 * k + 8) t) := by
  have h12 := hI.ic12
  have he : eqo (145 + 9 * k) (154 + 9 * k) m (upd m (145 + 9 * k + 8) t) := eqo.rf.upd1 (by omega) (by omega)
  have hf : ∀ j, j ≠ 8 → cr (upd m (145 + 9 * k + 8) t) k j = cr m k j := fun j hj => by unfold cr; rw [uN (by omega)]
  refine hI.crateH hk he (fun _ _ q => q) ((hI.ico k hk).congr8 (fun j hj => hf j (by omega)) (fun d hd _ _ p => ?_)) (fun d hd _ _ q => by rw [hf 1 (by decide)]; exact q) (fun _ _ _ q => by rw [hf 3 (by decide)]; exact q) (hf 2 (by decide))
  rw [opn_c (by omega)] at p ⊢
  by_cases e' : d = k
  · subst e'; rw [hf 1 (by decide)]; exact p
  · rw [he.fr e' (by decide)]; exact p
theorem r_since (hR : Rl w 1 m) (hI : Iv T z m) {k : Nat} (hk : k < nC m) (t : Int32) : Rl (wst w (29 + k) 9 t) 1 (upd m (145 + 9 * k + 8) t) := by
  have h12 := hI.ic12
  have hf : ∀ j, j ≠ 8 → cr (upd m (145 + 9 * k + 8) t) k j = cr m k j := fun j hj => by unfold cr; rw [uN (by omega)]
  have h8 : cr (upd m (145 + 9 * k + 8) t) k 8 = t := by unfold cr; rw [uS]
  refine hR.crate (c := k) h12 hI.iw16 hI.ik4 (by omega) (fun r hr => wN (by omega)) (eqo.rf.upd1 (by omega) (by omega)) ?_ (fun _ => ?_)
  · obtain ⟨b1, b2, b3, b4, b5⟩ := hR.a (by omega : k < 12)
    rw [show 1 + 28 + k = 29 + k by omega, wS]
    unfold RlA
    rw [hf 0 (by decide), hf 1 (by decide), hf 6 (by decide), hf 7 (by decide)]
    simp (disch := omega) only [uS, uN]
    exact ⟨b1, b2, b3, b4, b5⟩
  · obtain ⟨b1, b2, b3, b4, b5, b6, b7⟩ := hR.c hk
    rw [show 1 + 28 + k = 29 + k by omega, wS]
    unfold RlC
    rw [h8, hf 1 (by decide), hf 2 (by decide), hf 3 (by decide), hf 4 (by decide), hf 5 (by decide)]
    simp (disch := omega) only [uS, uN]
    exact ⟨b1, b2, b3, b4, fun _ => trivial, b6, b7⟩
theorem upd_n {k : Nat} {v : Int32} (hk : 9 ≤ k) : nV (upd m k v) = nV m ∧ nC (upd m k v) = nC m ∧ nW (upd m k v) = nW m ∧ nK (upd m k v) = nK m ∧ tm (upd m k v) = tm m :=
  ns_of (fun x _ _ => uN (by omega))
theorem c_openCrate (hR : Rl w 1 m) (hI : Iv T z m) {c : Nat} (hc : c < nC m) (hr : reach m c = true) : ∃ w', sX4_openCrate w (iN c) = some (aDirW (dOpens m c) (iN c), w') ∧ Rl w' 1 (dOpens m c) ∧ outb w w' ∧ Iv T z (dOpens m c) := by
  have h12 := hI.ic12
  unfold sX4_openCrate dOpens
  rw [idx_iN (by omega) (by decide), ob]
  have A0 : ∀ (n : Nat) (a : Nat → Int32) (s : Wl), (Rl s 1 a ∧ Iv T z a ∧ nC a = nC m ∧ outb w s) → sX4_openCrate_15 (n + 1) s (iN c) (iN (nC m)) = some (aDirW a (iN c), s) := by
    intro n a s ⟨r1, r2, r3, r4⟩
    rw [sX4_openCrate_15.eq_2, r1.r6 r2, r3, if_pos ((iN_le (by omega) (by omega)).mpr (Nat.le_refl _)), e6_worksDirectlyIn r1 r2, ob]
  have A1 : ∀ (n : Nat) (a : Nat → Int32) (s : Wl) (i : Nat), i < nC m → (Rl s 1 a ∧ Iv T z a ∧ nC a = nC m ∧ outb w s) → ∃ s' : Wl, (Rl s' 1 (if cr a i 2 = iN c then (if opb a i = true then a else upd a (145 + 9 * i + 8) (a 0)) else a) ∧ Iv T z (if cr a i 2 = iN c then (if opb a i = true then a else upd a (145 + 9 * i + 8) (a 0)) else a) ∧ nC (if cr a i 2 = iN c then (if opb a i = true then a else upd a (145 + 9 * i + 8) (a 0)) else a) = nC m ∧ outb w s') ∧ sX4_openCrate_15 (n + 1) s (iN c) (iN i) = sX4_openCrate_15 n s' (iN c) (iN (i + 1)) := by
    intro n a s i hi ⟨r1, r2, r3, r4⟩
    have hi' : i < nC a := by omega
    rw [sX4_openCrate_15.eq_2, r1.r6 r2, r3, if_neg (show ¬ iN (nC m) ≤ iN i from fun q => by have := (iN_le (by omega) (by omega)).mp q; omega), idx_iN (by omega) (by decide), ob, (r1.c hi').1, (r1.a (by omega : i < 12)).2.1, iN_s, r1.s.1]
    by_cases h : cr a i 2 = iN c
    · simp only [if_pos h]
      rcases r2.iob hi' with ⟨o1, o2⟩ | ⟨o1, o2⟩
      · rw [o1, o2, if_pos rfl]
        simp only [iF]
        exact ⟨_, ⟨r_since r1 r2 hi' _, i_since r2 hi' _, (upd_n (by omega)).2.1.trans r3, fun r hr => (wN (by omega)).trans (r4 r hr)⟩, rfl⟩
      · rw [o1, o2, if_neg (show ¬ (1 : Int32) = 0 by decide)]
        simp only [iT, if_true]
        exact ⟨s, ⟨r1, r2, r3, r4⟩, rfl⟩
    · simp only [if_neg h]
      exact ⟨s, ⟨r1, r2, r3, r4⟩, rfl⟩
  obtain ⟨s', ⟨q1, q2, q3, q4⟩, q5⟩ := loopB (L := fun n s l => sX4_openCrate_15 n s (iN c) l) (N := nC m) (fin := fun a s => some (aDirW a (iN c), s)) (f := fun k a => if cr a k 2 = iN c then (if opb a k = true then a else upd a (145 + 9 * k + 8) (a 0)) else a) (fun i a s => Rl s 1 a ∧ Iv T z a ∧ nC a = nC m ∧ outb w s) A0 A1 (nC m) 0 (upd m (145 + 9 * c + 1) 1) (wst w (29 + c) 1 1) FU (by omega) (by show _ < 4096; omega) ⟨r_open1 hR hI hc, i_open1 hI hc hr, (upd_n (by omega)).2.1, fun r hr => wN (by omega)⟩
  exact ⟨s', q5, q1, q4, q2⟩
-- closing
theorem dCloses_eqo {c : Nat} : eqo (145 + 9 * c) (154 + 9 * c) m (dCloses m c) := (((eqo.rf.upd1 (by omega) (by omega)).upd1 (by omega) (by omega)).upd1 (by omega) (by omega)).upd1 (by omega) (by omega)
theorem dCloses_c {c : Nat} : cr (dCloses m c) c 0 = cr m c 0 ∧ cr (dCloses m c) c 1 = 0 ∧ cr (dCloses m c) c 2 = cr m c 2 ∧ cr (dCloses m c) c 3 = cr m c 3 ∧ cr (dCloses m c) c 4 = cr m c 4 ∧ cr (dCloses m c) c 5 = cr m c 5 ∧ cr (dCloses m c) c 6 = vn m (vof m c).toNatClampNeg 0 ∧ cr (dCloses m c) c 7 = vn m (vof m c).toNatClampNeg 1 ∧ cr (dCloses m c) c 8 = m 0 := by
  unfold dCloses
  generalize vn m (vof m c).toNatClampNeg 0 = p
  generalize vn m (vof m c).toNatClampNeg 1 = q
  unfold cr
  simp (disch := omega) only [uS, uN]
  exact ⟨trivial, trivial, trivial, trivial, trivial, trivial, trivial, trivial, trivial⟩
theorem i_dCloses (hI : Iv T z m) {c : Nat} (hc : c < nC m) (h : mClose m c = true) : Iv T z (dCloses m c) := by
  have h12 := hI.ic12
  have h8 := hI.iv8
  obtain ⟨c0, c1, c2, c3, c4, c5, c6, c7, c8⟩ := dCloses_c (m := m) (c := c)
  unfold mClose at h
  cases ho : opb m c
  · rw [ho] at h; cases h
  cases hr : reach m c
  · rw [ho, hr] at h; cases h
  rw [ho, hr] at h
  simp only [iT, if_true] at h
  obtain ⟨v, hv, ev⟩ := reach_at hI hc hr
  obtain ⟨u, hu, eu⟩ := hI.irv hc hr
  obtain ⟨-, a2, a3, a4, a5⟩ := hI.ico c hc
  refine hI.crateH hc dCloses_eqo (fun _ _ q => q) ?_ (fun d hd e1 e2 _ => ?_) (fun k hk e q => by rw [c3]; exact q) c2
  · unfold COk
    rw [c0, c1, c2, c3, c4, c5, c6, c7, eu, iN_nat (by omega)]
    refine ⟨Or.inl rfl, a2, ?_, Or.inr ?_, fun _ => hI.icl u hu⟩
    · rcases a3 with e | ⟨d, hd, e, -⟩
      · exact Or.inl e
      · exact Or.inr ⟨d, hd, e, fun q => absurd q (by decide)⟩
    · rcases a4 with q | q
      · exact (iN_m1 (by omega) (ev.symm.trans q.1)).elim
      · exact q
  · exfalso
    have : aHop m (iN c) = true := (anyN_t _ _).mpr ⟨d, Nat.zero_le _, by omega, by
      rw [if_pos e1]
      unfold opb
      rw [e2]; rfl⟩
    rw [this] at h
    cases h
theorem c_closeCrate (hR : Rl w 1 m) (hI : Iv T z m) {c : Nat} (hc : c < nC m) (h : mClose m c = true) : ∃ w', sX4_closeCrate w (iN c) = some (aWin (dCloses m c) (iN c), w') ∧ Rl w' 1 (dCloses m c) ∧ outb w w' := by
  have h12 := hI.ic12
  have h8 := hI.iv8
  have hI' := i_dCloses hI hc h
  obtain ⟨c0, c1, c2, c3, c4, c5, c6, c7, c8⟩ := dCloses_c (m := m) (c := c)
  have hr : reach m c = true := by
    unfold mClose at h
    cases ho : opb m c
    · rw [ho] at h; cases h
    cases hr : reach m c
    · rw [ho, hr] at h; cases h
    rfl
  obtain ⟨u, hu, eu⟩ := hI.irv hc hr
  rw [eu, iN_nat (by omega)] at c6 c7
  unfold sX4_closeCrate
  rw [idx_iN (by omega) (by decide), ob, e6_venueOfCrate hR hI hc, ob, eu, e6_hasVenue hR hI, ob, ok_lt (by omega) hu]
  simp only [iT, if_true]
  rw [idx_iN (by omega) (by decide), ob]
  unfold sX4_closeCrate_62
  generalize hw' : wst (wst (wst (wst w (29 + c) 7 (w (13 + 2 * u) 0)) (29 + c) 8 (wst w (29 + c) 7 (w (13 + 2 * u) 0) (13 + 2 * u) 1)) (29 + c) 1 0) (29 + c) 9 _ = w'
  have hrow : ∀ r, r ≠ 29 + c → w' r = w r := fun r h1 => by rw [← hw']; simp (disch := omega) only [wN]
  have hcrow : w' (29 + c) = upd (upd (upd (upd (w (29 + c)) 7 (vn m u 0)) 8 (vn m u 1)) 1 0) 9 (m 0) := by
    rw [← hw']
    simp (disch := omega) only [wS, wN]
    rw [hR.v (by omega) (by decide), hR.v (by omega) (by decide), hR.s.1]
  have hR' : Rl w' 1 (dCloses m c) := by
    refine hR.crate (c := c) h12 hI.iw16 hI.ik4 (by omega) (fun r hr => hrow r (by omega)) dCloses_eqo ?_ (fun _ => ?_)
    · obtain ⟨b1, b2, b3, b4, b5⟩ := hR.a (by omega : c < 12)
      rw [show 1 + 28 + c = 29 + c by omega, hcrow]
      unfold RlA
      rw [c0, c1, c6, c7]
      simp (disch := omega) only [uS, uN]
      exact ⟨b1, trivial, Or.inl trivial, trivial, trivial⟩
    · obtain ⟨b1, b2, b3, b4, b5, b6, b7⟩ := hR.c hc
      rw [show 1 + 28 + c = 29 + c by omega, hcrow]
      unfold RlC
      rw [c1, c2, c3, c4, c5, c8]
      simp (disch := omega) only [uS, uN]
      exact ⟨b1, b2, b3, b4, fun _ => trivial, b6, b7⟩
  refine ⟨w', ?_, hR', fun r hr => hrow r (by omega)⟩
  rw [e6_worksInOrBelow hR' hI', ob]
theorem vof_congr {m m' : Nat → Int32} {c : Nat} (hh : hol m' = hol m) (ha : ∀ d, cr m' d 3 = cr m d 3) : vof m' c = vof m c := by
  unfold vof out
  rw [hh, ha]
theorem hol_upd {k : Nat} {v : Int32} (hk : ∀ c, c < 12 → k ≠ 145 + 9 * c + 2) : hol (upd m k v) = hol m := by
  funext d
  unfold hol
  by_cases h : d < 12
  · rw [if_pos h, if_pos h]
    unfold cr
    rw [uN (fun e => hk d h e.symm)]
  · rw [if_neg h, if_neg h]
end DE
