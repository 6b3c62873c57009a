/-! WHAT A CHANGE OF ONE THING LEAVES AS IT IS -/
theorem loopA {σ α β : Type} {L : Nat → σ → Int32 → Option β} {N : Nat} {fin : σ → Option β} {f : Nat → α → α} (R : Nat → α → σ → Prop)
    (h0 : ∀ n a s, R N a s → L (n + 1) s (iN N) = fin s)
    (h1 : ∀ n a s i, i < N → R i a s → ∃ s', R (i + 1) (f i a) s' ∧ L (n + 1) s (iN i) = L n s' (iN (i + 1))) :
    ∀ (k i : Nat) (a : α) (s : σ) (n : Nat), i + k = N → k < n → R i a s → ∃ s', R N (fld f k i a) s' ∧ L n s (iN i) = fin s'
  | 0, i, a, s, n, hi, hn, hp => by
    obtain ⟨n, rfl⟩ : ∃ m, n = m + 1 := ⟨n - 1, by omega⟩
    have e : i = N := by omega
    subst e
    exact ⟨s, hp, h0 n a s hp⟩
  | k + 1, i, a, s, n, hi, hn, hp => by
    obtain ⟨n, rfl⟩ : ∃ m, n = m + 1 := ⟨n - 1, by omega⟩
    obtain ⟨s', hs, e⟩ := h1 n a s i (by omega) hp
    obtain ⟨s2, h2, e2⟩ := loopA R h0 h1 k (i + 1) (f i a) s' n (by omega) (by omega) hs
    exact ⟨s2, h2, e.trans e2⟩
/-- the same outside of lo .. hi - 1 -/
def eqo (lo hi : Nat) (m m' : Nat → Int32) : Prop := ∀ a, a < lo ∨ hi ≤ a → m' a = m a
theorem eqo.upd1 {lo hi k : Nat} {m m' : Nat → Int32} {v : Int32} (h : eqo lo hi m m') (h1 : lo ≤ k) (h2 : k < hi) : eqo lo hi m (upd m' k v) := fun a ha => by rw [uN (by omega)]; exact h a ha
theorem eqo.rf {lo hi : Nat} {m : Nat → Int32} : eqo lo hi m m := fun _ _ => rfl
theorem eqo.tr {lo hi : Nat} {m m' m'' : Nat → Int32} (h : eqo lo hi m m') (h' : eqo lo hi m' m'') : eqo lo hi m m'' := fun a ha => (h' a ha).trans (h a ha)
section EO
variable {lo hi : Nat} {m m' : Nat → Int32}
theorem eqo.fn (h : eqo lo hi m m') (h9 : 9 ≤ lo) : nV m' = nV m ∧ nC m' = nC m ∧ nW m' = nW m ∧ nK m' = nK m ∧ tm m' = tm m := by
  unfold nV nC nW nK tm
  rw [h 1 (by omega), h 2 (by omega), h 3 (by omega), h 4 (by omega), h 0 (by omega)]
  exact ⟨rfl, rfl, rfl, rfl, rfl⟩
theorem eqo.fv (h : eqo lo hi m m') (h9 : 113 ≤ lo) {v j : Nat} (hv : v < 8) (hj : j < 13) : vn m' v j = vn m v j := h _ (Or.inl (by omega))
theorem eqo.fl (h : eqo lo hi m m') (h9 : 137 ≤ lo) {v j : Nat} (hv : v < 6) (hj : j < 4) : ln m' v j = ln m v j := h _ (Or.inl (by omega))
theorem eqo.fc (h : eqo lo hi m m') (h9 : 145 ≤ lo) {k : Nat} (hk : k < 4) : co m' k = co m k := h _ (Or.inl (by omega))
theorem eqo.ft (h : eqo lo hi m m') (h9 : 145 ≤ lo) {k : Nat} (hk : k < 4) : tg m' k = tg m k := h _ (Or.inl (by omega))
theorem eqo.fw (h : eqo lo hi m m') (h9 : hi ≤ 253) {i j : Nat} : wk m' i j = wk m i j := h _ (Or.inr (by omega))
theorem eqo.fr {c d j : Nat} (h : eqo (145 + 9 * c) (154 + 9 * c) m m') (hd : d ≠ c) (hj : j < 9) : cr m' d j = cr m d j := h _ (by omega)
theorem eqo.fr2 (h : eqo lo hi m m') (h9 : 253 ≤ lo ∨ hi ≤ 145) {d j : Nat} (hd : d < 12) (hj : j < 9) : cr m' d j = cr m d j := h _ (by omega)
end EO
/-- two predicates of a row hold alike where the row is alike -/
theorem COk.congr {nv nc t nv' nc' t' : Nat} {s s' : Prop} {o o' f f' : Nat → Int32} (h : COk nv nc t s o f) (e1 : nv ≤ nv') (e2 : nc ≤ nc') (e3 : t' = t) (e4 : s' → s) (hf : ∀ j, j < 9 → f' j = f j) (ho : ∀ d, d < nc → f 2 = iN d → f 1 = 1 → o d = 1 → o' d = 1) : COk nv' nc' t' s' o' f' := by
  subst e3
  obtain ⟨h1, h2, h3, h4, h5⟩ := h
  unfold COk
  rw [hf 0 (by decide), hf 1 (by decide), hf 2 (by decide), hf 3 (by decide), hf 4 (by decide), hf 5 (by decide), hf 6 (by decide), hf 7 (by decide)]
  refine ⟨h1, h2, ?_, ?_, h5⟩
  · rcases h3 with e | ⟨d, hd, e, q⟩
    · exact Or.inl e
    · exact Or.inr ⟨d, by omega, e, fun p => ho d hd e p (q p)⟩
  · rcases h4 with ⟨a, b, c, ⟨v, hv, ev⟩, x, hx, y1, y2, y3⟩ | ⟨⟨v, hv, ev⟩, b, c⟩
    · exact Or.inl ⟨a, b, c, ⟨v, by omega, ev⟩, x, hx, y1, fun q => y2 (e4 q), y3⟩
    · exact Or.inr ⟨⟨v, by omega, ev⟩, b, c⟩
theorem WOk.congr {nv nc nv' nc' : Nat} {f f' : Nat → Int32} (h : WOk nv nc f) (e1 : nv ≤ nv') (e2 : nc ≤ nc') (hf : ∀ j, j < 8 → f' j = f j) : WOk nv' nc' f' := by
  obtain ⟨h1, h2, h3, h4, h5, h6⟩ := h
  unfold WOk
  rw [hf 0 (by decide), hf 1 (by decide), hf 3 (by decide), hf 4 (by decide), hf 5 (by decide), hf 7 (by decide)]
  refine ⟨h1, h2, h3, ?_, fun e => ?_, h6⟩
  · rcases h4 with e | ⟨d, hd, e⟩
    · exact Or.inl e
    · exact Or.inr ⟨d, by omega, e⟩
  · obtain ⟨v, hv, ev⟩ := h5 e
    exact ⟨v, by omega, ev⟩
theorem KOk.congr {nv nc nv' nc' : Nat} {a a' : Nat → Int32} {x y : Int32} (h : KOk nv nc a x y) (e1 : nv ≤ nv') (e2 : nc ≤ nc') (ha : ∀ c, c < nc → y = iN c → a c = -1 → a' c = -1) : KOk nv' nc' a' x y := by
  obtain ⟨h1, h2, h3⟩ := h
  refine ⟨?_, ?_, h3⟩
  · rcases h1 with e | ⟨d, hd, e⟩
    · exact Or.inl e
    · exact Or.inr ⟨d, by omega, e⟩
  · rcases h2 with e | ⟨d, hd, e, q⟩
    · exact Or.inl e
    · exact Or.inr ⟨d, by omega, e, ha d hd e q⟩
/-- a chain is alike where the holders are alike -/
theorem dp_congr {n : Nat} {h h' : Nat → Int32} (hn : n ≤ 2147483648) (hc : Ch n h) (he : ∀ c, c < n → h' c = h c) : ∀ {k : Nat} {x : Int32}, ptr n x → dp h k x → dp h' k x
  | 0, _, _, p => p
  | k + 1, x, hx, p => by
    rcases hx with e | ⟨c, hcn, rfl⟩
    · exact (p.1 e).elim
    · have p2 := p.2
      rw [iN_nat (by omega)] at p2
      refine ⟨p.1, ?_⟩
      rw [iN_nat (by omega), he c hcn]
      exact dp_congr hn hc he (hc c hcn) p2
/-- a change of one crate -/
theorem Iv.crate {T z z' : Nat} {m m' : Nat → Int32} {c : Nat} (hI : Iv T z m) (hc : c < nC m) (he : eqo (145 + 9 * c) (154 + 9 * c) m m') (hz : ∀ d, d ≠ c → d < z' → d < z)
    (hC : COk (nV m) (nC m) (tm m) (c < z') (opn m') (cr m' c)) (ho : ∀ d, d < nC m → cr m d 2 = iN c → cr m d 1 = 1 → cr m c 1 = 1 → cr m' c 1 = 1)
    (ha : ∀ k, k < nK m → tg m k = iN c → cr m c 3 = -1 → cr m' c 3 = -1) (hd : ∀ d, d < nC m → ∃ k, dp (hol m') k (iN d)) : Iv T z' m' := by
  have h12 := hI.ic12
  have h8 := hI.iv8
  have h16 := hI.iw16
  have h4 := hI.ik4
  obtain ⟨n1, n2, n3, n4, n5⟩ := he.fn (by omega)
  unfold Iv
  rw [n1, n2, n3, n4, n5, he 0 (by omega), he 1 (by omega), he 2 (by omega), he 3 (by omega), he 4 (by omega)]
  refine ⟨⟨hI.it, hI.itT, hI.iT9⟩, ⟨hI.iv, h8⟩, ⟨hI.ic, h12⟩, ⟨hI.iw, h16⟩, ⟨hI.ik, h4⟩, fun v hv => ?_, fun v hv j hj => ?_, fun v hv => ?_, fun d hdn => ?_, hd, fun i hi => ?_, fun k hk => ?_⟩
  · rw [he.fv (by omega) (by omega) (by decide), he.fv (by omega) (by omega) (by decide)]; exact hI.icl v hv
  · rw [he.fv (by omega) hv (by omega)]; exact hI.iwy v hv j hj
  · rw [he.fv (by omega) hv (by omega)]; exact hI.iwd v hv
  · by_cases e : d = c
    · subst e; exact hC
    · refine (hI.ico d hdn).congr (Nat.le_refl _) (Nat.le_refl _) rfl (hz d e) (fun j hj => he.fr e hj) (fun d' hd' e2 e1 q => ?_)
      rw [opn_c (by omega)] at q ⊢
      by_cases e' : d' = c
      · subst e'; exact ho d hdn e2 e1 q
      · rw [he.fr e' (by decide)]; exact q
  · exact (hI.iwo i hi).congr (Nat.le_refl _) (Nat.le_refl _) (fun j _ => he.fw (by omega))
  · rw [he.fc (by omega) (by omega), he.ft (by omega) (by omega)]
    refine (hI.iko k hk).congr (Nat.le_refl _) (Nat.le_refl _) (fun d hdn e q => ?_)
    rw [atv_c (by omega)] at q ⊢
    by_cases e' : d = c
    · subst e'; exact ha k hk e q
    · rw [he.fr e' (by decide)]; exact q
/-- .. whose holder stays -/
theorem Iv.crateH {T z z' : Nat} {m m' : Nat → Int32} {c : Nat} (hI : Iv T z m) (hc : c < nC m) (he : eqo (145 + 9 * c) (154 + 9 * c) m m') (hz : ∀ d, d ≠ c → d < z' → d < z)
    (hC : COk (nV m) (nC m) (tm m) (c < z') (opn m') (cr m' c)) (ho : ∀ d, d < nC m → cr m d 2 = iN c → cr m d 1 = 1 → cr m c 1 = 1 → cr m' c 1 = 1)
    (ha : ∀ k, k < nK m → tg m k = iN c → cr m c 3 = -1 → cr m' c 3 = -1) (hh : cr m' c 2 = cr m c 2) : Iv T z' m' := by
  have h12 := hI.ic12
  refine hI.crate hc he hz hC ho ha (fun d hd => ?_)
  obtain ⟨k, hk⟩ := hI.idp d hd
  refine ⟨k, dp_congr (by omega) hI.ich (fun c' hc' => ?_) (Or.inr ⟨d, hd, rfl⟩) hk⟩
  rw [hol_c (by omega), hol_c (by omega)]
  by_cases e : c' = c
  · rw [e]; exact hh
  · exact he.fr e (by decide)
theorem RlA.of {f f' g g' : Nat → Int32} (h : RlA f g) (hf : f' = f) (hg : ∀ j, j < 9 → g' j = g j) : RlA f' g' := by
  subst hf
  unfold RlA
  rw [hg 0 (by decide), hg 1 (by decide), hg 6 (by decide), hg 7 (by decide)]
  exact h
theorem RlC.of {nk : Nat} {t t' : Nat → Int32} {c : Nat} {f f' g g' : Nat → Int32} (h : RlC nk t c f g) (hf : f' = f) (hg : ∀ j, j < 9 → g' j = g j) (ht : ∀ k, k < nk → (t' k = iN c ↔ t k = iN c)) : RlC nk t' c f' g' := by
  subst hf
  unfold RlC
  rw [hg 1 (by decide), hg 2 (by decide), hg 3 (by decide), hg 4 (by decide), hg 5 (by decide), hg 8 (by decide)]
  obtain ⟨h1, h2, h3, h4, h5, h6, h7⟩ := h
  exact ⟨h1, h2, h3, h4, h5, h6, fun k hk => (h7 k hk).trans (ht k hk).symm⟩
theorem RlW.of {f f' g g' : Nat → Int32} (h : RlW f g) (hf : f' = f) (hg : ∀ j, j < 8 → g' j = g j) : RlW f' g' := by
  subst hf
  unfold RlW
  rw [hg 0 (by decide), hg 1 (by decide), hg 2 (by decide), hg 3 (by decide), hg 4 (by decide), hg 5 (by decide), hg 6 (by decide), hg 7 (by decide)]
  exact h
/-- the relation looks at a block alone -/
theorem Rl.same {w w' : Wl} {q : Nat} {m : Nat → Int32} (hR : Rl w q m) (hw : ∀ r, q ≤ r → r < q + 72 → w' r = w r) (h12 : nC m ≤ 12) (h16 : nW m ≤ 16) : Rl w' q m := by
  obtain ⟨h1, h2, h3, h4, h5, h6, h7, h8, h9⟩ := hR
  refine ⟨?_, fun v hv => ?_, fun c hc => ?_, fun c hc => ?_, fun i hi => ?_, fun i hi => ?_, fun i h1 hi => ?_, fun l hl j hj => ?_, fun k hk => ?_⟩
  · rw [hw q (Nat.le_refl _) (by omega)]; exact h1
  · rw [hw _ (by omega) (by omega), hw _ (by omega) (by omega)]; exact h2 v hv
  · rw [hw _ (by omega) (by omega)]; exact h3 c hc
  · rw [hw _ (by omega) (by omega)]; exact h4 c hc
  · rw [hw _ (by omega) (by omega), hw _ (by omega) (by omega)]; exact h5 i hi
  · rw [hw _ (by omega) (by omega)]; exact h6 i hi
  · rw [hw _ (by omega) (by omega)]; exact h7 i h1 hi
  · rw [hw _ (by omega) (by omega)]; exact h8 l hl j hj
  · rw [hw _ (by omega) (by omega)]; exact h9 k hk
/-- a change of one crate on both sides -/
theorem Rl.crate {w w' : Wl} {q c : Nat} {m m' : Nat → Int32} (hR : Rl w q m) (h12 : nC m ≤ 12) (h16 : nW m ≤ 16) (h4 : nK m ≤ 4) (hc : c < 12) (hw : ∀ r, r ≠ q + 28 + c → w' r = w r) (he : eqo (145 + 9 * c) (154 + 9 * c) m m') (hA : RlA (w' (q + 28 + c)) (cr m' c)) (hC : c < nC m → RlC (nK m) (tg m) c (w' (q + 28 + c)) (cr m' c)) : Rl w' q m' := by
  obtain ⟨n1, n2, n3, n4, n5⟩ := he.fn (by omega)
  obtain ⟨h1, h2, h3, h4', h5, h6, h7, h8, h9⟩ := hR
  unfold Rl
  rw [n2, n3, n4]
  refine ⟨?_, fun v hv => ?_, fun d hd => ?_, fun d hd => ?_, fun i hi => ?_, fun i hi => ?_, fun i h1 hi => ?_, fun l hl j hj => ?_, fun k hk => ?_⟩
  · rw [hw q (by omega)]
    unfold RlS
    rw [he 0 (by omega), he 1 (by omega), he 2 (by omega), he 3 (by omega), he 4 (by omega), he 5 (by omega), he 6 (by omega), he 7 (by omega), he 8 (by omega)]
    exact h1
  · rw [hw _ (by omega), hw _ (by omega)]
    refine ⟨fun j hj => ?_, fun j hj => ?_⟩
    · rw [he.fv (by omega) hv (by omega)]; exact (h2 v hv).1 j hj
    · rw [he.fv (by omega) hv (by omega)]; exact (h2 v hv).2 j hj
  · by_cases e : d = c
    · subst e; exact hA
    · exact (h3 d hd).of (hw _ (by omega)) (fun j hj => he.fr e hj)
  · have ht : ∀ k, k < nK m → (tg m' k = iN d ↔ tg m k = iN d) := fun k hk => by rw [he.ft (by omega) (by omega)]
    by_cases e : d = c
    · subst e; exact (hC hd).of rfl (fun j hj => rfl) ht
    · exact (h4' d hd).of (hw _ (by omega)) (fun j hj => he.fr e hj) ht
  · rw [hw _ (by omega), hw _ (by omega)]
    refine ⟨(h5 i hi).1, fun j hj => ?_⟩
    rw [he.fw (by omega)]; exact (h5 i hi).2 j hj
  · exact (h6 i hi).of (hw _ (by omega)) (fun j hj => he.fw (by omega))
  · rw [hw _ (by omega)]; exact h7 i h1 hi
  · rw [hw _ (by omega), he.fl (by omega) hl hj]; exact h8 l hl j hj
  · rw [hw _ (by omega), he.fc (by omega) hk]; exact h9 k hk
