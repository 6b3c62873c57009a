/-! THE CALLS that change: the state between them, and what they leave -/
def TX (w : Wl) : Prop := w 368 1 = 0 ∧ ∃ d, d < 9 ∧ w 368 4 = iN d
/-- the state w of the class is m; the undo stack is whole; the text is empty -/
def ST (T : Nat) (w : Wl) (m : Nat → Int32) : Prop := Rl w 1 m ∧ Iv T 12 m ∧ (∃ n p P, UC w n p P ∧ ∀ j, j < n → Iv T 12 (P j)) ∧ TX w
/-- the same, with u saved last -/
def SU (T : Nat) (w : Wl) (m u : Nat → Int32) : Prop := Rl w 1 m ∧ Iv T 12 m ∧ (∃ n p P, UC w (n + 1) p P ∧ P n = u ∧ ∀ j, j < n + 1 → Iv T 12 (P j)) ∧ TX w
section AC
variable {T T' : Nat} {m m' u : Nat → Int32} {w w' : Wl}
theorem SU.st (h : SU T w m u) : ST T w m := by
  obtain ⟨a, b, ⟨n, p, P, c, -, d⟩, e⟩ := h
  exact ⟨a, b, ⟨n + 1, p, P, c, d⟩, e⟩
theorem TX.fr (h : TX w) (hw : w' 368 = w 368) : TX w' := by
  unfold TX
  rw [hw]
  exact h
theorem Iv.le' {n : Nat} {P : Nat → Nat → Int32} (h : ∀ j, j < n → Iv T 12 (P j)) : ∀ j, j < n → nC (P j) ≤ 12 ∧ nW (P j) ≤ 16 := fun j hj => ⟨(h j hj).ic12, (h j hj).iw16⟩
theorem ST.fr (h : ST T w m) (hw : ∀ r, r ≠ 77 → w' r = w r) : ST T w' m := by
  obtain ⟨a, b, ⟨n, p, P, c, d⟩, e⟩ := h
  exact ⟨a.sameI b hw, b, ⟨n, p, P, c.fr (fun r _ _ => hw r (by omega)) (Iv.le' d), d⟩, e.fr (hw 368 (by decide))⟩
theorem SU.fr (h : SU T w m u) (hw : ∀ r, r ≠ 77 → w' r = w r) : SU T w' m u := by
  obtain ⟨a, b, ⟨n, p, P, c, f, d⟩, e⟩ := h
  exact ⟨a.sameI b hw, b, ⟨n, p, P, c.fr (fun r _ _ => hw r (by omega)) (Iv.le' d), f, d⟩, e.fr (hw 368 (by decide))⟩
theorem ST.mT (h : ST T w m) (h1 : T ≤ T') (h2 : T' ≤ 1000000000) : ST T' w m := by
  obtain ⟨a, b, ⟨n, p, P, c, d⟩, e⟩ := h
  exact ⟨a, b.mT h1 h2, ⟨n, p, P, c, fun j hj => (d j hj).mT h1 h2⟩, e⟩
theorem SU.mT (h : SU T w m u) (h1 : T ≤ T') (h2 : T' ≤ 1000000000) : SU T' w m u := by
  obtain ⟨a, b, ⟨n, p, P, c, f, d⟩, e⟩ := h
  exact ⟨a, b.mT h1 h2, ⟨n, p, P, c, f, fun j hj => (d j hj).mT h1 h2⟩, e⟩
theorem push_top {n : Nat} {P : Nat → Nat → Int32} (h : n ≤ 4) : ∃ n', pushN n = n' + 1 ∧ pushP n P m n' = m := by
  unfold pushN pushP
  by_cases e : n = 4
  · exact ⟨3, by rw [if_pos e], by rw [if_pos e]; rfl⟩
  · exact ⟨n, by rw [if_neg e], by rw [if_neg e]; exact if_pos rfl⟩
theorem mu_ok {v : Int32} (hS : ST T w m) (hT : T ≤ T') (hI' : Iv T' 12 m') (D : Wl → Option (Int32 × Wl)) (hD : ∀ w3, Rl w3 1 m → ∃ w4, D w3 = some (v, w4) ∧ Rl w4 1 m' ∧ outb w3 w4) : ∃ w', (sX7_keep w 1).bind (fun r3 => (D r3).bind (fun r7 => some (Sum.inr (r7.1, r7.2) : Sum Int32 (Int32 × Wl)))) = some (.inr (v, w')) ∧ SU T' w' m' m := by
  obtain ⟨a, b, ⟨n, p, P, c, d⟩, e⟩ := hS
  obtain ⟨w3, p', k1, k2, k3⟩ := c_keep c a b.ic12 b.iw16 (Iv.le' d)
  have R3 : Rl w3 1 m := a.same (fun r g1 g2 => k3 r (Or.inl (by omega))) b.ic12 b.iw16
  obtain ⟨w4, d1, d2, d3⟩ := hD w3 R3
  obtain ⟨n', e1, e2⟩ := push_top (P := P) (m := m) c.1
  refine ⟨w4, by rw [k1, ob, d1, ob], d2, hI', ⟨n', p', pushP n P m, ?_, e2, ?_⟩, e.fr ((d3 368 (by omega)).trans (k3 368 (by omega)))⟩
  · rw [← e1]
    exact k2.fr (fun r g1 g2 => d3 r (by omega)) (push_all (Q := fun m => nC m ≤ 12 ∧ nW m ≤ 16) c.1 (Iv.le' d) ⟨b.ic12, b.iw16⟩)
  · rw [← e1]
    exact push_all (Q := fun m => Iv T' 12 m) c.1 (fun j hj => (d j hj).mT hT hI'.iT9) (b.mT hT hI'.iT9)
theorem lW_s {x : Option (Sum Int32 (Int32 × Wl))} {p : Int32 × Wl} {c1 c2 c3 : Option Int32} (h : x = some (.inr p)) : x.bind (lwW c1 c2 c3 w) = some p := by rw [h]; rfl
theorem th1 {β : Type} {A : Option (Sum Int32 β)} {r s : Bool} : tiw (f3 false r s) A = some (.inl 1) := rfl
theorem th2 {β : Type} {A : Option (Sum Int32 β)} {s : Bool} : tiw (f3 true false s) A = some (.inl 2) := by
  show tiw 2 A = _
  unfold tiw; rw [if_neg (by decide), if_pos rfl]
theorem t3 {β : Type} {A : Option (Sum Int32 β)} : tiw 3 A = some (.inl 3) := by
  unfold tiw; rw [if_neg (by decide), if_neg (by decide), if_pos rfl]
theorem th3 {β : Type} {A : Option (Sum Int32 β)} : tiw (f3 true true false) A = some (.inl 3) := t3
theorem tc1 {β : Type} {A : Option (Sum Int32 β)} {p : Bool} : tiw (cc3 false p) A = some (.inl 1) := rfl
theorem tc3 {β : Type} {A : Option (Sum Int32 β)} : tiw (cc3 true false) A = some (.inl 3) := t3
theorem tc0 {β : Type} {A : Option (Sum Int32 β)} : tiw (cc3 true true) A = A := tiw_0
theorem tf0 {β : Type} {A : Option (Sum Int32 β)} : tiw (f3 true true true) A = A := tiw_0
theorem ok_n {n : Nat} (hn : n < 2147483648) : ok n (iN n) = false := by
  unfold ok
  rw [if_neg (iN_neg hn), if_pos (Int32.le_refl _)]
-- makers
theorem u_addVenue (hS : ST T w m) (h8 : nV m < 8) {a b c d : Int32} (h1 : clB a b = true) (h2 : rng 0 500 c = true) (h3 : rng 0 10000000 d = true) : ∃ w', sX12_addVenue w a b c d = some (.inr (m 1, w')) ∧ SU T w' (dVenue m a b c d) m := by
  obtain ⟨w', e1, e2⟩ := mu_ok hS (Nat.le_refl _) (i_dVenue hS.2.1 h8 (clB_t h1)) (fun w3 => sX4_makeVenue w3 a b c d) (fun w3 h => c_makeVenue h hS.2.1 h8)
  refine ⟨w', ?_, e2⟩
  unfold sX12_addVenue
  rw [e1_newVenue hS.1 hS.2.1, ob, h1, h2, h3, show room (nV m) 8 = true from if_neg (by omega), show (true && (true && true)) = true from rfl, tf0]
  exact e1
theorem t_addVenue (hS : ST T w m) (h8 : nV m = 8) {a b c d : Int32} (h1 : clB a b = true) (h2 : rng 0 500 c = true) (h3 : rng 0 10000000 d = true) : sL_addVenue w a b c d = some (-90200, w) := by
  unfold sL_addVenue sX12_addVenue
  rw [e1_newVenue hS.1 hS.2.1, ob, h1, h2, h3, show room (nV m) 8 = false from if_pos (by omega), show (true && (true && true)) = true from rfl, th3]
  rfl
theorem r_addVenue (hS : ST T w m) {a b c d : Int32} (h : (clB a b && (rng 0 500 c && rng 0 10000000 d)) = false) : sL_addVenue w a b c d = some (-90100, w) := by
  unfold sL_addVenue sX12_addVenue
  rw [e1_newVenue hS.1 hS.2.1, ob, h, th2]
  rfl
theorem u_setClimate (hS : ST T w m) {v : Nat} (hv : v < nV m) {a b : Int32} (h1 : clB a b = true) : ∃ w', sX12_setClimate w (iN v) a b = some (.inr ((1000 : Int32) * vn m v 0 + vn m v 1, w')) ∧ SU T w' (dClimate m v a b) m := by
  have h8 := hS.2.1.iv8
  obtain ⟨w', e1, e2⟩ := mu_ok hS (Nat.le_refl _) (i_dClimate hS.2.1 hv (clB_t h1)) (fun w3 => sX4_changeClimate w3 (iN v) a b) (fun w3 h => c_changeClimate h hS.2.1 hv)
  refine ⟨w', ?_, e2⟩
  unfold sX12_setClimate
  rw [e1_ofClimate' hS.1 hS.2.1, ob, ok_lt (by omega) hv, h1, tf0]
  exact e1
theorem r_setClimate (hS : ST T w m) {a b : Int32} : sL_setClimate w (iN (nV m)) a b = some (-90300, w) := by
  have h8 := hS.2.1.iv8
  unfold sL_setClimate sX12_setClimate
  rw [e1_ofClimate' hS.1 hS.2.1, ob, ok_n (by omega), th1]
  rfl
theorem u_setWay (hS : ST T w m) {a b h : Nat} (ha : a < nV m) (hb : b < nV m) (hn : a ≠ b) (hh : h ≤ 200) : ∃ w', sX12_setWay w (iN a) (iN b) (iN h) = some (.inr (vn m a (5 + b), w')) ∧ SU T w' (dWay m a b (iN h)) m := by
  have h8 := hS.2.1.iv8
  obtain ⟨w', e1, e2⟩ := mu_ok hS (Nat.le_refl _) (i_dWay hS.2.1 ha hb hn hh) (fun w3 => sX4_changeWay w3 (iN a) (iN b) (iN h)) (fun w3 h => c_changeWay h hS.2.1 ha hb)
  refine ⟨w', ?_, e2⟩
  unfold sX12_setWay
  rw [e1_ofWay' hS.1 hS.2.1, ob, ok_lt (by omega) ha, ok_lt (by omega) hb, if_neg (fun q => hn ((iN_eq (by omega) (by omega)).mp q)), show rng 0 200 (iN h) = true from ?_, show (true && true) = true from rfl, tf0]
  · exact e1
  · unfold rng
    rw [if_neg (iN_neg (by omega)), if_neg (fun q => by have := (iN_lt (a := 200) (by decide) (by omega)).mp q; omega)]
theorem t_setWay (hS : ST T w m) {a : Nat} (ha : a < nV m) {h : Int32} : sL_setWay w (iN a) (iN a) h = some (-90100, w) := by
  have h8 := hS.2.1.iv8
  unfold sL_setWay sX12_setWay
  rw [e1_ofWay' hS.1 hS.2.1, ob, ok_lt (by omega) ha, if_pos rfl, show (true && true) = true from rfl, th2]
  rfl
theorem r_setWay (hS : ST T w m) {h : Int32} : sL_setWay w (iN (nV m)) (iN (nV m)) h = some (-90300, w) := by
  have h8 := hS.2.1.iv8
  unfold sL_setWay sX12_setWay
  rw [e1_ofWay' hS.1 hS.2.1, ob, ok_n (by omega), show (false && false) = false from rfl, th1]
  rfl
theorem u_setLender (hS : ST T w m) {l j : Nat} (hl : l < 6) (hj : j < 4) {a : Int32} (h : leB (iN j) a = true) : ∃ w', sX12_setLender w (iN l) (iN j) a = some (.inr (ln m l j, w')) ∧ SU T w' (dLender m l j a) m := by
  obtain ⟨w', e1, e2⟩ := mu_ok hS (Nat.le_refl _) (i_dLender hS.2.1 hl hj) (fun w3 => sX4_changeLender w3 (iN l) (iN j) a) (fun w3 h => c_changeLender h hS.2.1 hl hj)
  refine ⟨w', ?_, e2⟩
  unfold sX12_setLender
  rw [e1_ofLender', ob, h, show rng 0 5 (iN l) = true from (by decide : ∀ l, l < 6 → rng 0 5 (iN l) = true) l hl, show (true && true) = true from rfl, tf0]
  exact e1
theorem r_setLender : sL_setLender w (-1) 0 0 = some (-90100, w) := by
  unfold sL_setLender sX12_setLender
  rw [e1_ofLender', ob, show (rng 0 5 (-1) && leB 0 0) = false by decide, th2]
  rfl
theorem r_setWayRate : sL_setWayRate w (-1) = some (-90100, w) := by
  unfold sL_setWayRate sX12_setWayRate
  rw [e1_ofRate', ob, show rng 0 5000 (-1) = false by decide, th2]
  rfl
theorem u_addCourier (hS : ST T w m) {v : Nat} (hv : v < nV m) (h4 : nK m < 4) : ∃ w', sX12_addCourier w (iN v) = some (.inr (m 4, w')) ∧ SU T w' (dCourier m v) m := by
  have h8 := hS.2.1.iv8
  obtain ⟨w', e1, e2⟩ := mu_ok hS (Nat.le_refl _) (i_dCourier hS.2.1 hv h4) (fun w3 => sX4_makeCourier w3 (iN v)) (fun w3 h => c_makeCourier h hS.2.1 h4)
  refine ⟨w', ?_, e2⟩
  unfold sX12_addCourier
  rw [e1_newCourier hS.1 hS.2.1, ob, ok_lt (by omega) hv, show room (nK m) 4 = true from if_neg (by omega), tf0]
  exact e1
theorem t_addCourier (hS : ST T w m) {v : Nat} (hv : v < nV m) (h4 : nK m = 4) : sL_addCourier w (iN v) = some (-90200, w) := by
  have h8 := hS.2.1.iv8
  unfold sL_addCourier sX12_addCourier
  rw [e1_newCourier hS.1 hS.2.1, ob, ok_lt (by omega) hv, show room (nK m) 4 = false from if_pos (by omega), th3]
  rfl
theorem r_addCourier (hS : ST T w m) : sL_addCourier w (iN (nV m)) = some (-90300, w) := by
  have h8 := hS.2.1.iv8
  unfold sL_addCourier sX12_addCourier
  rw [e1_newCourier hS.1 hS.2.1, ob, ok_n (by omega), th1]
  rfl
theorem u_addCrate (hS : ST T w m) {v a : Nat} (hv : v < nV m) (h1 : 1 ≤ a) (h2 : a ≤ 4) (h12 : nC m < 12) : ∃ w', sX12_addCrate w (iN v) (iN a) = some (.inr (m 2, w')) ∧ SU T w' (dCrate m v (iN a)) m := by
  have h8 := hS.2.1.iv8
  obtain ⟨w', e1, e2⟩ := mu_ok hS (Nat.le_refl _) (i_dCrate hS.2.1 hv h1 h2 h12) (fun w3 => sX4_makeCrate w3 (iN v) (iN a)) (fun w3 h => c_makeCrate h hS.2.1 h12)
  refine ⟨w', ?_, e2⟩
  unfold sX12_addCrate
  rw [e1_newCrate hS.1 hS.2.1, ob, ok_lt (by omega) hv, show rng 1 4 (iN a) = true from (by decide : ∀ a, a < 5 → 1 ≤ a → rng 1 4 (iN a) = true) a (by omega) h1, show room (nC m) 12 = true from if_neg (by omega), tf0]
  exact e1
theorem t_addCrate (hS : ST T w m) {v a : Nat} (hv : v < nV m) (h1 : 1 ≤ a) (h2 : a ≤ 4) (h12 : nC m = 12) : sL_addCrate w (iN v) (iN a) = some (-90200, w) := by
  have h8 := hS.2.1.iv8
  unfold sL_addCrate sX12_addCrate
  rw [e1_newCrate hS.1 hS.2.1, ob, ok_lt (by omega) hv, show rng 1 4 (iN a) = true from (by decide : ∀ a, a < 5 → 1 ≤ a → rng 1 4 (iN a) = true) a (by omega) h1, show room (nC m) 12 = false from if_pos (by omega), th3]
  rfl
theorem r_addCrate (hS : ST T w m) {a : Int32} : sL_addCrate w (iN (nV m)) a = some (-90300, w) := by
  have h8 := hS.2.1.iv8
  unfold sL_addCrate sX12_addCrate
  rw [e1_newCrate hS.1 hS.2.1, ob, ok_n (by omega), th1]
  rfl
theorem u_addWork (hS : ST T w m) {v l a b : Nat} {e : Int32} (hv : v < nV m) (hl : l < 6) (h1 : 1 ≤ a) (h2 : a ≤ 1000000) (hb : b ≤ 20) (he : e = 0 ∨ e = 1) (h16 : nW m < 16) : ∃ w', sX12_addWork w (iN v) (iN l) (iN a) (iN b) e = some (.inr (m 3, w')) ∧ SU T w' (dWork m v (iN l) (iN a) (iN b) e) m := by
  have h8 := hS.2.1.iv8
  obtain ⟨w', e1, e2⟩ := mu_ok hS (Nat.le_refl _) (i_dWork (b := iN b) hS.2.1 hv hl h1 h2 he h16) (fun w3 => sX4_makeWork w3 (iN v) (iN l) (iN a) (iN b) e) (fun w3 h => c_makeWork h hS.2.1 he h16)
  refine ⟨w', ?_, e2⟩
  unfold sX12_addWork
  have r1 : rng 0 5 (iN l) = true := (by decide : ∀ l, l < 6 → rng 0 5 (iN l) = true) l hl
  have r2 : rng 1 1000000 (iN a) = true := by
    unfold rng
    rw [if_neg (fun q => by have := (iN_lt (b := 1) (by omega) (by decide)).mp q; omega), if_neg (fun q => by have := (iN_lt (a := 1000000) (by decide) (by omega)).mp q; omega)]
  have r3 : rng 0 20 (iN b) = true := (by decide : ∀ b, b < 21 → rng 0 20 (iN b) = true) b (by omega)
  rw [e1_newWork hS.1 hS.2.1, ob, ok_lt (by omega) hv, r1, r2, r3, show room (nW m) 16 = true from if_neg (by omega), show (true && (true && true)) = true from rfl, tf0]
  exact e1
theorem t_addWork (hS : ST T w m) {v l a b : Nat} {e : Int32} (hv : v < nV m) (hl : l < 6) (h1 : 1 ≤ a) (h2 : a ≤ 1000000) (hb : b ≤ 20) (h16 : nW m = 16) : sL_addWork w (iN v) (iN l) (iN a) (iN b) e = some (-90200, w) := by
  have h8 := hS.2.1.iv8
  unfold sL_addWork sX12_addWork
  have r1 : rng 0 5 (iN l) = true := (by decide : ∀ l, l < 6 → rng 0 5 (iN l) = true) l hl
  have r2 : rng 1 1000000 (iN a) = true := by
    unfold rng
    rw [if_neg (fun q => by have := (iN_lt (b := 1) (by omega) (by decide)).mp q; omega), if_neg (fun q => by have := (iN_lt (a := 1000000) (by decide) (by omega)).mp q; omega)]
  have r3 : rng 0 20 (iN b) = true := (by decide : ∀ b, b < 21 → rng 0 20 (iN b) = true) b (by omega)
  rw [e1_newWork hS.1 hS.2.1, ob, ok_lt (by omega) hv, r1, r2, r3, show room (nW m) 16 = false from if_pos (by omega), show (true && (true && true)) = true from rfl, th3]
  rfl
theorem r_addWork (hS : ST T w m) {a b c d : Int32} : sL_addWork w (-1) a b c d = some (-90300, w) := by
  unfold sL_addWork sX12_addWork
  rw [e1_newWork hS.1 hS.2.1, ob, ok_m1, th1]
  rfl
-- deeds
theorem mOpen_3 {c : Nat} (h : mOpen m c = true) : opb m c = false ∧ reach m c = true ∧ ¬ m 0 < cr m c 8 + nd m c (vof m c).toNatClampNeg := by
  unfold mOpen at h
  cases h1 : opb m c
  · rw [h1, iF] at h
    cases h2 : reach m c
    · rw [h2, iF] at h; cases h
    · rw [h2, iT] at h
      refine ⟨rfl, rfl, fun q => ?_⟩
      rw [if_pos q] at h; cases h
  · rw [h1, iT] at h; cases h
theorem u_open (hS : ST T w m) {c : Nat} (hc : c < nC m) (h : mOpen m c = true) : ∃ w', sX12_open w (iN c) = some (.inr (aDirW (dOpens m c) (iN c), w')) ∧ SU T w' (dOpens m c) m := by
  have h12 := hS.2.1.ic12
  have hr := (mOpen_3 h).2.1
  obtain ⟨-, -, -, -, hI'⟩ := c_openCrate hS.1 hS.2.1 hc hr
  obtain ⟨w', e1, e2⟩ := mu_ok hS (Nat.le_refl _) hI' (fun w3 => sX4_openCrate w3 (iN c)) (fun w3 h => by
    obtain ⟨w4, a, b, d, -⟩ := c_openCrate h hS.2.1 hc hr
    exact ⟨w4, a, b, d⟩)
  refine ⟨w', ?_, e2⟩
  unfold sX12_open
  rw [e1_ofOpening hS.1 hS.2.1, ob, ok_lt (by omega) hc, iN_nat (by omega), h, tc0]
  exact e1
theorem t_open (hS : ST T w m) {c : Nat} (hc : c < nC m) (h : mOpen m c = false) : sL_open w (iN c) = some (-90200, w) := by
  have h12 := hS.2.1.ic12
  unfold sL_open sX12_open
  rw [e1_ofOpening hS.1 hS.2.1, ob, ok_lt (by omega) hc, iN_nat (by omega), h, tc3]
  rfl
theorem r_open (hS : ST T w m) : sL_open w (iN (nC m)) = some (-90300, w) := by
  have h12 := hS.2.1.ic12
  unfold sL_open sX12_open
  rw [e1_ofOpening hS.1 hS.2.1, ob, ok_n (by omega), tc1]
  rfl
theorem u_close (hS : ST T w m) {c : Nat} (hc : c < nC m) (h : mClose m c = true) : ∃ w', sX12_close w (iN c) = some (.inr (aWin (dCloses m c) (iN c), w')) ∧ SU T w' (dCloses m c) m := by
  have h12 := hS.2.1.ic12
  obtain ⟨w', e1, e2⟩ := mu_ok hS (Nat.le_refl _) (i_dCloses hS.2.1 hc h) (fun w3 => sX4_closeCrate w3 (iN c)) (fun w3 h3 => c_closeCrate h3 hS.2.1 hc h)
  refine ⟨w', ?_, e2⟩
  unfold sX12_close
  rw [e1_ofClosing hS.1 hS.2.1, ob, ok_lt (by omega) hc, iN_nat (by omega), h, tc0]
  exact e1
theorem t_close (hS : ST T w m) {c : Nat} (hc : c < nC m) (h : mClose m c = false) : sL_close w (iN c) = some (-90200, w) := by
  have h12 := hS.2.1.ic12
  unfold sL_close sX12_close
  rw [e1_ofClosing hS.1 hS.2.1, ob, ok_lt (by omega) hc, iN_nat (by omega), h, tc3]
  rfl
theorem r_close (hS : ST T w m) : sL_close w (-1) = some (-90300, w) := by
  unfold sL_close sX12_close
  rw [e1_ofClosing hS.1 hS.2.1, ob, ok_m1, tc1]
  rfl
theorem u_nest (hS : ST T w m) {c d : Nat} (hc : c < nC m) (hd : d < nC m) (h : mNest m c d = true) : ∃ w', sX12_nest w (iN c) (iN d) = some (.inr (aDirC (dNests m c d) (iN d), w')) ∧ SU T w' (dNests m c d) m := by
  have h12 := hS.2.1.ic12
  obtain ⟨w', e1, e2⟩ := mu_ok hS (Nat.le_refl _) (i_dNests hS.2.1 hc hd h) (fun w3 => sX4_putCrateInto w3 (iN c) (iN d)) (fun w3 h3 => c_putCrateInto h3 hS.2.1 hc hd h)
  refine ⟨w', ?_, e2⟩
  unfold sX12_nest
  rw [e1_ofNesting hS.1 hS.2.1, ob, ok_lt (by omega) hc, ok_lt (by omega) hd, iN_nat (by omega), iN_nat (by omega), h, show (true && true) = true from rfl, tc0]
  exact e1
theorem t_nest (hS : ST T w m) {c d : Nat} (hc : c < nC m) (hd : d < nC m) (h : mNest m c d = false) : sL_nest w (iN c) (iN d) = some (-90200, w) := by
  have h12 := hS.2.1.ic12
  unfold sL_nest sX12_nest
  rw [e1_ofNesting hS.1 hS.2.1, ob, ok_lt (by omega) hc, ok_lt (by omega) hd, iN_nat (by omega), iN_nat (by omega), h, show (true && true) = true from rfl, tc3]
  rfl
theorem r_nest (hS : ST T w m) : sL_nest w (iN (nC m)) (iN (nC m)) = some (-90300, w) := by
  have h12 := hS.2.1.ic12
  unfold sL_nest sX12_nest
  rw [e1_ofNesting hS.1 hS.2.1, ob, ok_n (by omega), show (false && false) = false from rfl, tc1]
  rfl
theorem u_takeOut (hS : ST T w m) {c : Nat} (hc : c < nC m) (h : mTake m c = true) : ∃ w', sX12_takeOut w (iN c) = some (.inr (cr m c 2, w')) ∧ SU T w' (dTakes m c) m := by
  have h12 := hS.2.1.ic12
  obtain ⟨w', e1, e2⟩ := mu_ok hS (Nat.le_refl _) (i_dTakes hS.2.1 hc h) (fun w3 => sX4_takeCrateOut w3 (iN c)) (fun w3 h3 => c_takeCrateOut h3 hS.2.1 hc h)
  refine ⟨w', ?_, e2⟩
  unfold sX12_takeOut
  rw [e1_ofTakingOut hS.1 hS.2.1, ob, ok_lt (by omega) hc, iN_nat (by omega), h, tc0]
  exact e1
theorem t_takeOut (hS : ST T w m) {c : Nat} (hc : c < nC m) (h : mTake m c = false) : sL_takeOut w (iN c) = some (-90200, w) := by
  have h12 := hS.2.1.ic12
  unfold sL_takeOut sX12_takeOut
  rw [e1_ofTakingOut hS.1 hS.2.1, ob, ok_lt (by omega) hc, iN_nat (by omega), h, tc3]
  rfl
theorem r_takeOut (hS : ST T w m) : sL_takeOut w (iN (nC m)) = some (-90300, w) := by
  have h12 := hS.2.1.ic12
  unfold sL_takeOut sX12_takeOut
  rw [e1_ofTakingOut hS.1 hS.2.1, ob, ok_n (by omega), tc1]
  rfl
theorem u_pack (hS : ST T w m) {i c : Nat} (hi : i < nW m) (hc : c < nC m) (h : mPack m i c = true) : ∃ w', sX12_pack w (iN i) (iN c) = some (.inr (aDirW (dPacks m i c) (iN c), w')) ∧ SU T w' (dPacks m i c) m := by
  have h12 := hS.2.1.ic12
  have h16 := hS.2.1.iw16
  obtain ⟨w', e1, e2⟩ := mu_ok hS (Nat.le_refl _) (i_dPacks hS.2.1 hi hc) (fun w3 => sX4_packWork w3 (iN i) (iN c)) (fun w3 h3 => c_packWork h3 hS.2.1 hi hc)
  refine ⟨w', ?_, e2⟩
  unfold sX12_pack
  rw [e1_ofPacking hS.1 hS.2.1, ob, ok_lt (by omega) hi, ok_lt (by omega) hc, iN_nat (by omega), iN_nat (by omega), h, show (true && true) = true from rfl, tc0]
  exact e1
theorem t_pack (hS : ST T w m) {i c : Nat} (hi : i < nW m) (hc : c < nC m) (h : mPack m i c = false) : sL_pack w (iN i) (iN c) = some (-90200, w) := by
  have h12 := hS.2.1.ic12
  have h16 := hS.2.1.iw16
  unfold sL_pack sX12_pack
  rw [e1_ofPacking hS.1 hS.2.1, ob, ok_lt (by omega) hi, ok_lt (by omega) hc, iN_nat (by omega), iN_nat (by omega), h, show (true && true) = true from rfl, tc3]
  rfl
theorem r_pack (hS : ST T w m) {c : Int32} : sL_pack w (iN (nW m)) c = some (-90300, w) := by
  have h16 := hS.2.1.iw16
  unfold sL_pack sX12_pack
  rw [e1_ofPacking hS.1 hS.2.1, ob, ok_n (by omega), Bool.false_and, tc1]
  rfl
theorem u_unpack (hS : ST T w m) {i : Nat} (hi : i < nW m) (h : mUnp m i = true) : ∃ w', sX12_unpack w (iN i) = some (.inr (vof m (wk m i 4).toNatClampNeg, w')) ∧ SU T w' (dUnpacks m i) m := by
  have h16 := hS.2.1.iw16
  obtain ⟨w', e1, e2⟩ := mu_ok hS (Nat.le_refl _) (i_dUnpacks hS.2.1 hi h) (fun w3 => sX4_unpackWork w3 (iN i)) (fun w3 h3 => c_unpackWork h3 hS.2.1 hi h)
  refine ⟨w', ?_, e2⟩
  unfold sX12_unpack
  rw [e1_ofUnpacking hS.1 hS.2.1, ob, ok_lt (by omega) hi, iN_nat (by omega), h, tc0]
  exact e1
theorem t_unpack (hS : ST T w m) {i : Nat} (hi : i < nW m) (h : mUnp m i = false) : sL_unpack w (iN i) = some (-90200, w) := by
  have h16 := hS.2.1.iw16
  unfold sL_unpack sX12_unpack
  rw [e1_ofUnpacking hS.1 hS.2.1, ob, ok_lt (by omega) hi, iN_nat (by omega), h, tc3]
  rfl
theorem r_unpack (hS : ST T w m) : sL_unpack w (iN (nW m)) = some (-90300, w) := by
  have h16 := hS.2.1.iw16
  unfold sL_unpack sX12_unpack
  rw [e1_ofUnpacking hS.1 hS.2.1, ob, ok_n (by omega), tc1]
  rfl
theorem u_send (hS : ST T w m) {c v : Nat} {x : Int32} (hc : c < nC m) (hv : v < nV m) (hx : ptr (nK m) x) (h : aReason m c v x = 0) : ∃ w', sX12_send w (iN c) (iN v) x = some (.inr (cr (sendM m c v) c 5, w')) ∧ SU T w' (dSend m c v x) m := by
  have h12 := hS.2.1.ic12
  have h8 := hS.2.1.iv8
  have h4 := hS.2.1.ik4
  obtain ⟨w', e1, e2⟩ := mu_ok hS (Nat.le_refl _) (i_dSend hS.2.1 hc hv hx h) (fun w3 => sX4_sendCrate w3 (iN c) (iN v) x) (fun w3 h3 => c_sendCrate h3 hS.2.1 hc hv hx h)
  refine ⟨w', ?_, e2⟩
  unfold sX12_send
  rw [e1_ofSending hS.1 hS.2.1, ob, ok_lt (by omega) hc, ok_lt (by omega) hv, okx_p (by omega) hx, iN_nat (by omega), iN_nat (by omega), show mSend m c v x = true from if_pos h, show (true && (true && true)) = true from rfl, tc0]
  exact e1
theorem t_send (hS : ST T w m) {c v : Nat} {x : Int32} (hc : c < nC m) (hv : v < nV m) (hx : ptr (nK m) x) (h : ¬ aReason m c v x = 0) : sL_send w (iN c) (iN v) x = some (-90200, w) := by
  have h12 := hS.2.1.ic12
  have h8 := hS.2.1.iv8
  have h4 := hS.2.1.ik4
  unfold sL_send sX12_send
  rw [e1_ofSending hS.1 hS.2.1, ob, ok_lt (by omega) hc, ok_lt (by omega) hv, okx_p (by omega) hx, iN_nat (by omega), iN_nat (by omega), show mSend m c v x = false from if_neg h, show (true && (true && true)) = true from rfl, tc3]
  rfl
theorem r_send (hS : ST T w m) {v x : Int32} : sL_send w (iN (nC m)) v x = some (-90300, w) := by
  have h12 := hS.2.1.ic12
  unfold sL_send sX12_send
  rw [e1_ofSending hS.1 hS.2.1, ob, ok_n (by omega), Bool.false_and, tc1]
  rfl
theorem u_advance (hS : ST T w m) {h : Nat} (h1 : 1 ≤ h) (h2 : h ≤ 240) (hT : T + h ≤ 1000000000) : ∃ w', sX12_advance w (iN h) = some (.inr (dHours m h 7 - m 7, w')) ∧ SU (T + h) w' (dHours m h) m := by
  obtain ⟨-, -, -, -, hI'⟩ := c_letHoursPass hS.1 hS.2.1 h2 hT
  obtain ⟨w', e1, e2⟩ := mu_ok hS (Nat.le_add_right _ _) hI' (fun w3 => sX4_letHoursPass w3 (iN h)) (fun w3 h3 => by
    obtain ⟨w4, a, b, d, -⟩ := c_letHoursPass h3 hS.2.1 h2 hT
    exact ⟨w4, a, b, d⟩)
  refine ⟨w', ?_, e2⟩
  unfold sX12_advance
  rw [e1_ofWaiting, ob, if_pos ((by decide +kernel : ∀ h, h < 241 → 1 ≤ h → isw (iN h) = true) h (by omega) h1), tiw_0]
  exact e1
theorem r_advance {h : Int32} (hh : isw h = false) : sL_advance w h = some (-90100, w) := by
  unfold sL_advance sX12_advance
  rw [e1_ofWaiting, ob, if_neg (by rw [hh]; decide), show tiw 2 _ = _ from th2 (s := true)]
  rfl
theorem u_undo (hS : SU T w m u) : ∃ n w', n ≤ 3 ∧ sX12_undo w = some (.inr (iN n, w')) ∧ ST T w' u := by
  obtain ⟨a, b, ⟨n, p, P, c, rfl, d⟩, e⟩ := hS
  have hn := c.1
  obtain ⟨w4, k1, k2, k3, k4⟩ := c_restore c (Iv.le' d)
  refine ⟨n, w4, by omega, ?_, k3, d n (by omega), ⟨n, p, P, k2, fun j hj => d j (by omega)⟩, e.fr (k4 368 (by omega) (by decide))⟩
  unfold sX12_undo
  rw [c.2.1, if_neg (show ¬ iN (n + 1) ≤ 0 from fun q => by have := (iN_le (b := 0) (by omega) (by decide)).mp q; omega), tiw_0, k1, ob]
-- what is refused
theorem r_refusal (hS : ST T w m) {c v x : Int32} (h : (ok (nC m) c && (ok (nV m) v && okx (nK m) x)) = false) : sL_refusal w c v x = some (-90300, w) := by
  unfold sL_refusal sX12_refusal
  rw [e1_ofLeg hS.1 hS.2.1, ob, h, if_neg (by decide)]
  rfl
theorem r_crate (hS : ST T w m) {l : Int32} : sL_crate w (iN (nC m)) l = some (-90300, w) := by
  have h12 := hS.2.1.ic12
  unfold sL_crate sX12_crate
  rw [e6_hasCrate hS.1 hS.2.1, ob, ok_n (by omega), show (14 : Int32) = iN (13 + 1) from rfl, e1_ofValue (by decide), ob, th1]
  rfl
theorem r_work (hS : ST T w m) {l : Int32} : sL_work w (iN (nW m)) l = some (-90300, w) := by
  have h16 := hS.2.1.iw16
  unfold sL_work sX12_work
  rw [e6_hasWork hS.1 hS.2.1, ob, ok_n (by omega), show (8 : Int32) = iN (7 + 1) from rfl, e1_ofValue (by decide), ob, th1]
  rfl
theorem r_noted (hS : ST T w m) {l : Int32} : sL_noted w (iN (nW m)) l = some (-90300, w) := by
  have h16 := hS.2.1.iw16
  unfold sL_noted sX12_noted
  rw [e1_ofNoted hS.1 hS.2.1, ob, ok_n (by omega), th1]
  rfl
theorem r_venue (hS : ST T w m) {l : Int32} : sL_venue w (iN (nV m)) l = some (-90300, w) := by
  have h8 := hS.2.1.iv8
  unfold sL_venue sX12_venue
  rw [e6_hasVenue hS.1 hS.2.1, ob, ok_n (by omega), show (9 : Int32) = iN (8 + 1) from rfl, e1_ofValue (by decide), ob, th1]
  rfl
theorem r_courier (hS : ST T w m) : sL_courier w (iN (nK m)) = some (-90300, w) := by
  have h4 := hS.2.1.ik4
  unfold sL_courier sX12_courier
  rw [e6_hasCourier hS.1 hS.2.1, ob, ok_n (by omega), e1_ofNumber, ob, th1]
  rfl
theorem r_whole : sL_whole w 10 = some (-90100, w) := by
  unfold sL_whole sX12_whole
  rw [show sX1_ofValue w (1 : Int32) (10 : Int32) (10 : Int32) = _ from e1_ofValue (e := true) (l := 10) (N := 9) (by decide), ob, show rng 0 (iN 9) 10 = false by decide, th2]
  rfl
theorem r_ready (hS : ST T w m) : sL_readyAt w (iN (nW m)) = some (-90300, w) := by
  have h16 := hS.2.1.iw16
  unfold sL_readyAt sX12_readyAt
  rw [e6_hasWork hS.1 hS.2.1, ob, ok_n (by omega), e1_ofNumber, ob, th1]
  rfl
theorem r_all (hS : ST T w m) : sL_allReadyAt w (iN (nC m)) = some (-90300, w) := by
  have h12 := hS.2.1.ic12
  unfold sL_allReadyAt sX12_allReadyAt
  rw [e6_hasCrate hS.1 hS.2.1, ob, ok_n (by omega), e1_ofNumber, ob, th1]
  rfl
theorem r_best (hS : ST T w m) {x : Int32} : sL_bestVenue w (iN (nC m)) x = some (-90300, w) := by
  have h12 := hS.2.1.ic12
  unfold sL_bestVenue sX12_bestVenue
  rw [e6_hasCrate hS.1 hS.2.1, ob, ok_n (by omega), if_neg (by decide), show (0 : Int32) = bI false from rfl, e1_ofNumber, ob, th1]
  rfl
theorem r_type (hS : ST T w m) : sL_type w 128 = some (-90100, w) := by
  unfold sL_type sX12_type
  rw [hS.2.2.2.1, show (0 : Int32) = iN 0 from rfl, e1_ofByte (by decide), ob, show rng 0 127 128 = false by decide, th2]
  rfl
theorem t_undo (hn : w 78 1 = 0) : sL_undo w = some (-90200, w) := by
  unfold sL_undo sX12_undo
  rw [hn, if_pos (by decide), t3]
  rfl
end AC
