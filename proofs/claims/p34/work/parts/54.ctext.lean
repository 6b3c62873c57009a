/-! TEXTS: the class's reader -/
theorem iN_sub {a b : Nat} (h : b ≤ a) : iN a - iN b = iN (a - b) := (Int32.ofNat_sub a b h).symm
theorem loopAll {L : Nat → Int32 → Option Bool} {N : Nat} {q : Nat → Bool} (h0 : ∀ n, L (n + 1) (iN N) = some true) (h1 : ∀ n i, i < N → L (n + 1) (iN i) = if q i = true then some false else L n (iN (i + 1))) : ∀ (k i n : Nat), i + k = N → k < n → L n (iN i) = some (!anyN q k i)
  | 0, i, n, hi, hn => by
    obtain ⟨n, rfl⟩ : ∃ m, n = m + 1 := ⟨n - 1, by omega⟩
    have e : i = N := by omega
    subst e
    exact h0 n
  | k + 1, i, n, hi, hn => by
    obtain ⟨n, rfl⟩ : ∃ m, n = m + 1 := ⟨n - 1, by omega⟩
    rw [h1 n i (by omega)]
    show _ = some (!(q i || anyN q k (i + 1)))
    cases q i
    · simp only [iF]; rw [Bool.false_or]; exact loopAll h0 h1 k (i + 1) n (by omega) (by omega)
    · simp only [iT, if_true]; rw [Bool.true_or]; rfl
/-- the class's reader at the place p, its fault f, its word d, its numbers v -/
def cw (w : Wl) (p f d : Int32) (v : Nat → Int32) : Wl := fun a => if a = 368 then upd (upd (upd (w 368) 2 p) 3 f) 4 d else if a = 370 then v else w a
/-- the class's text -/
def TC (w : Wl) (n : Nat) (t : Nat → Nat) : Prop := n ≤ 150 ∧ w 368 1 = iN n ∧ ∀ j, j < n → w 369 j = iN (t j) ∧ t j < 128
section CT
variable {w : Wl} {p f d : Int32} {v : Nat → Int32}
theorem cw_8 : cw w p f d v 368 = upd (upd (upd (w 368) 2 p) 3 f) 4 d := if_pos rfl
theorem cw_1 : cw w p f d v 368 1 = w 368 1 := by rw [cw_8, uN (by decide), uN (by decide), uN (by decide)]
theorem cw_2 : cw w p f d v 368 2 = p := by rw [cw_8, uN (by decide), uN (by decide), uS]
theorem cw_3 : cw w p f d v 368 3 = f := by rw [cw_8, uN (by decide), uS]
theorem cw_4 : cw w p f d v 368 4 = d := by rw [cw_8, uS]
theorem cw_9 : cw w p f d v 369 = w 369 := rfl
theorem cw_0 : cw w p f d v 370 = v := rfl
theorem cw_o {a : Nat} (h1 : a ≠ 368) (h2 : a ≠ 370) : cw w p f d v a = w a := by unfold cw; rw [if_neg h1, if_neg h2]
theorem cw_s2 {x : Int32} : wst (cw w p f d v) 368 2 x = cw w x f d v := by
  funext a
  by_cases h : a = 368
  · subst h
    rw [wS]
    show upd (upd (upd (upd (w 368) 2 p) 3 f) 4 d) 2 x = upd (upd (upd (w 368) 2 x) 3 f) 4 d
    rw [upd_comm (by decide : (4 : Nat) ≠ 2), upd_comm (by decide : (3 : Nat) ≠ 2)]
    congr 2
    funext j
    by_cases e : j = 2
    · subst e; rw [uS, uS]
    · rw [uN e, uN e, uN e]
  · rw [wN h]
    unfold cw
    rw [if_neg h, if_neg h]
theorem cw_s3 {x : Int32} : wst (cw w p f d v) 368 3 x = cw w p x d v := by
  funext a
  by_cases h : a = 368
  · subst h
    rw [wS]
    show upd (upd (upd (upd (w 368) 2 p) 3 f) 4 d) 3 x = upd (upd (upd (w 368) 2 p) 3 x) 4 d
    rw [upd_comm (by decide : (4 : Nat) ≠ 3)]
    congr 1
    funext j
    by_cases e : j = 3
    · subst e; rw [uS, uS]
    · rw [uN e, uN e, uN e]
  · rw [wN h]
    unfold cw
    rw [if_neg h, if_neg h]
theorem cw_s4 {x : Int32} : wst (cw w p f d v) 368 4 x = cw w p f x v := by
  funext a
  by_cases h : a = 368
  · subst h
    rw [wS]
    show upd (upd (upd (upd (w 368) 2 p) 3 f) 4 d) 4 x = upd (upd (upd (w 368) 2 p) 3 f) 4 x
    funext j
    by_cases e : j = 4
    · subst e; rw [uS, uS]
    · rw [uN e, uN e, uN e]
  · rw [wN h]
    unfold cw
    rw [if_neg h, if_neg h]
theorem cw_s0 {x : Int32} {j : Nat} : wst (cw w p f d v) 370 j x = cw w p f d (upd v j x) := by
  funext a
  by_cases h : a = 370
  · subst h; rw [wS]; rfl
  · rw [wN h]
    unfold cw
    by_cases h2 : a = 368
    · rw [if_pos h2, if_pos h2]
    · rw [if_neg h2, if_neg h2, if_neg h, if_neg h]
theorem cw_id : cw w (w 368 2) (w 368 3) (w 368 4) (w 370) = w := by
  funext a
  unfold cw
  by_cases h : a = 368
  · subst h
    rw [if_pos rfl, upd_id rfl, upd_id rfl, upd_id rfl]
  · rw [if_neg h]
    by_cases h2 : a = 370
    · subst h2; rw [if_pos rfl]
    · rw [if_neg h2]
end CT
section CR
variable {w : Wl} {n : Nat} {t : Nat → Nat} {f d : Int32} {v : Nat → Int32}
theorem l2_skip (hT : TC w n t) : ∀ (k p fu : Nat), n - p ≤ k → p ≤ 150 → k < fu → sX2_skipSpaces_0 fu (cw w (iN p) f d v) = some (cw w (iN (skp n t p)) f d v) := by
  obtain ⟨h1, h2, h3⟩ := hT
  intro k
  induction k with
  | zero =>
    intro p fu hk hp hf
    obtain ⟨fu, rfl⟩ : ∃ m, fu = m + 1 := ⟨fu - 1, by omega⟩
    rw [sX2_skipSpaces_0.eq_2, cw_1, cw_2, h2, if_pos ((iN_le (by omega) (by omega)).mpr (by omega)), skp_out (by omega)]
  | succ k ih =>
    intro p fu hk hp hf
    obtain ⟨fu, rfl⟩ : ∃ m, fu = m + 1 := ⟨fu - 1, by omega⟩
    rw [sX2_skipSpaces_0.eq_2, cw_1, cw_2, h2, cw_9]
    by_cases hpn : p < n
    · obtain ⟨e1, e2⟩ := h3 p hpn
      rw [if_neg (fun q => by have := (iN_le (by omega) (by omega)).mp q; omega), idx_iN (by omega) (by decide), ob, e1, skp, dif_pos hpn, cw_s2, iN_s]
      by_cases hs : t p = 32
      · rw [if_pos (show iN (t p) = 32 by rw [hs]; rfl), if_pos hs]
        exact ih (p + 1) fu (by omega) (by omega) (by omega)
      · rw [if_neg (show ¬ iN (t p) = 32 from fun q => hs ((iN_eq (b := 32) (by omega) (by decide)).mp q)), if_neg hs]
    · rw [if_pos ((iN_le (by omega) (by omega)).mpr (by omega)), skp_out (by omega)]
theorem e2_skip (hT : TC w n t) {p : Nat} (hp : p ≤ 150) : sX2_skipSpaces (cw w (iN p) f d v) = some (cw w (iN (skp n t p)) f d v) :=
  l2_skip hT 150 p FU (by have := hT.1; omega) hp (by decide)
theorem e2_isAtDigit (hT : TC w n t) {p : Nat} (hp : p ≤ 150) : sX2_isAtDigit (cw w (iN p) f d v) = some (if p < n ∧ 48 ≤ t p ∧ t p ≤ 57 then true else false) := by
  obtain ⟨h1, h2, h3⟩ := hT
  unfold sX2_isAtDigit
  rw [cw_1, cw_2, h2, cw_9]
  by_cases hpn : p < n
  · obtain ⟨e1, e2⟩ := h3 p hpn
    rw [if_neg (fun q => by have := (iN_le (by omega) (by omega)).mp q; omega), idx_iN (by omega) (by decide), ob, e1]
    by_cases g1 : iN (t p) < 48
    · have := (iN_lt (b := 48) (by omega) (by decide)).mp g1
      rw [if_pos g1, if_neg (by omega)]
    · have g1' : ¬ t p < 48 := fun q => g1 ((iN_lt (b := 48) (by omega) (by decide)).mpr q)
      rw [if_neg g1]
      by_cases g2 : (57 : Int32) < iN (t p)
      · have := (iN_lt (a := 57) (by decide) (by omega)).mp g2
        rw [if_pos g2, if_neg (by omega)]
      · have g2' : ¬ 57 < t p := fun q => g2 ((iN_lt (a := 57) (by decide) (by omega)).mpr q)
        rw [if_neg g2, if_pos (by omega)]
  · rw [if_pos ((iN_le (by omega) (by omega)).mpr (by omega)), if_neg (by omega)]
theorem l2_digits (hT : TC w n t) {i : Nat} (hi : i < 3) : ∀ (k l p x fu : Nat) (v : Nat → Int32), l + k = 4 → p ≤ n → k < fu → v i = iN x → sX2_readNumber_56 fu (cw w (iN p) f d v) (iN i) (iN l) = some (true, cw w (iN (dgt n t k p x).1) f d (upd v i (iN (dgt n t k p x).2))) := by
  intro k
  induction k with
  | zero =>
    intro l p x fu v hl hp hf hv
    obtain ⟨fu, rfl⟩ : ∃ m, fu = m + 1 := ⟨fu - 1, by omega⟩
    rw [sX2_readNumber_56.eq_2, if_pos (show (4 : Int32) ≤ iN l from (iN_le (a := 4) (by decide) (by omega)).mpr (by omega))]
    show _ = some (true, cw w (iN p) f d (upd v i (iN x)))
    rw [upd_id hv]
  | succ k ih =>
    intro l p x fu v hl hp hf hv
    obtain ⟨fu, rfl⟩ : ∃ m, fu = m + 1 := ⟨fu - 1, by omega⟩
    have h1 := hT.1
    rw [sX2_readNumber_56.eq_2, if_neg (show ¬ (4 : Int32) ≤ iN l from fun q => by have := (iN_le (a := 4) (by decide) (by omega)).mp q; omega), e2_isAtDigit hT (by omega), ob]
    show _ = some (true, cw w (iN (if p < n ∧ 48 ≤ t p ∧ t p ≤ 57 then dgt n t k (p + 1) (10 * x + t p - 48) else (p, x)).1) f d (upd v i (iN (if p < n ∧ 48 ≤ t p ∧ t p ≤ 57 then dgt n t k (p + 1) (10 * x + t p - 48) else (p, x)).2)))
    by_cases h : p < n ∧ 48 ≤ t p ∧ t p ≤ 57
    · simp only [if_pos h]
      obtain ⟨e1, e2⟩ := hT.2.2 p h.1
      rw [if_pos trivial, idx_iN hi (by decide), ob, cw_2, idx_iN (by omega) (by decide), ob, cw_0, cw_9, hv, e1, cw_s0, cw_2, cw_s2, iN_s, iN_s, show (10 : Int32) = iN 10 from rfl, show (48 : Int32) = iN 48 from rfl, iN_mul, iN_add, iN_sub (by omega)]
      rw [ih (l + 1) (p + 1) (10 * x + t p - 48) fu (upd v i (iN (10 * x + t p - 48))) (by omega) (by omega) (by omega) uS]
      congr 3
      funext j
      by_cases e : j = i
      · subst e; rw [uS, uS]
      · rw [uN e, uN e, uN e]
    · simp only [if_neg h]
      rw [if_neg (by decide), upd_id hv]
theorem e2_readNumber (hT : TC w n t) {i p : Nat} (hi : i < 3) (hp : p ≤ n) (hv : v i = 0) : sX2_readNumber (cw w (iN p) f d v) (iN i) = some (if (num n t p).1 = true then (true, cw w (iN (num n t p).2.1) f d (upd v i (iN (num n t p).2.2))) else (false, cw w (iN (num n t p).2.1) (iN (num n t p).2.1) d v)) := by
  obtain ⟨h1, h2, h3⟩ := id hT
  unfold sX2_readNumber num sX2_failAt
  rw [cw_1, cw_2, h2, cw_9]
  by_cases hpn : p < n
  · obtain ⟨e1, e2⟩ := h3 p hpn
    rw [if_neg (fun q => by have := (iN_le (by omega) (by omega)).mp q; omega), idx_iN (by omega) (by decide), ob, e1]
    by_cases hs : t p = 32
    · rw [if_pos (show iN (t p) = 32 by rw [hs]; rfl), e2_skip hT (by omega), ob]
      simp only [if_pos (show p < n ∧ t p = 32 from ⟨hpn, hs⟩)]
      have hq := skp_n (n := n) (p := p) (t := t) hp
      rw [e2_isAtDigit hT (by omega), ob]
      by_cases hd : skp n t p < n ∧ 48 ≤ t (skp n t p) ∧ t (skp n t p) ≤ 57
      · simp only [if_pos hd, if_true]
        exact l2_digits hT hi 4 0 (skp n t p) 0 FU v rfl hq (by decide) hv
      · simp only [if_neg hd]
        simp only [iF]
        rw [ob, cw_2, cw_s3]
    · rw [if_neg (show ¬ iN (t p) = 32 from fun q => hs ((iN_eq (b := 32) (by omega) (by decide)).mp q)), ob]
      simp only [if_neg (show ¬ (p < n ∧ t p = 32) from fun q => hs q.2)]
      simp only [iF]
      rw [cw_s3]
  · rw [if_pos ((iN_le (by omega) (by omega)).mpr (by omega)), ob]
    simp only [if_neg (show ¬ (p < n ∧ t p = 32) from fun q => hpn q.1)]
    simp only [iF]
    rw [cw_s3]
theorem l2_numbers (hT : TC w n t) {D K : Nat} (hD : D < 9) (hK : wnc D = iN K) (hK3 : K ≤ 3) : ∀ (k i p fu : Nat) (v : Nat → Int32), i + k = K → p ≤ n → k < fu → (∀ j, i ≤ j → j < 3 → v j = 0) → sX2_readNumbers_22 fu (cw w (iN p) f (iN D) v) (iN i) = some (if (rdN n t k i p v).1 = true then (true, cw w (iN (rdN n t k i p v).2.1) f (iN D) (rdN n t k i p v).2.2) else (false, cw w (iN (rdN n t k i p v).2.1) (iN (rdN n t k i p v).2.1) (iN D) (rdN n t k i p v).2.2)) := by
  intro k
  induction k with
  | zero =>
    intro i p fu v hi hp hf hv
    obtain ⟨fu, rfl⟩ : ∃ m, fu = m + 1 := ⟨fu - 1, by omega⟩
    rw [sX2_readNumbers_22.eq_2]
    have e : rdN n t 0 i p v = (true, p, v) := rfl
    rw [e]
    simp only [iT, if_true]
    by_cases h : (3 : Int32) ≤ iN i
    · rw [if_pos h]
    · rw [if_neg h, cw_4, idx_iN hD (by decide), ob, hK, if_pos ((iN_le (by omega) (by omega)).mpr (by omega))]
  | succ k ih =>
    intro i p fu v hi hp hf hv
    obtain ⟨fu, rfl⟩ : ∃ m, fu = m + 1 := ⟨fu - 1, by omega⟩
    rw [sX2_readNumbers_22.eq_2, if_neg (show ¬ (3 : Int32) ≤ iN i from fun q => by have := (iN_le (a := 3) (by decide) (by omega)).mp q; omega), cw_4, idx_iN hD (by decide), ob, hK, if_neg (show ¬ iN K ≤ iN i from fun q => by have := (iN_le (by omega) (by omega)).mp q; omega), e2_readNumber hT (by omega) hp (hv i (Nat.le_refl _) (by omega)), ob]
    have e : rdN n t (k + 1) i p v = (if (num n t p).1 = true then rdN n t k (i + 1) (num n t p).2.1 (upd v i (iN (num n t p).2.2)) else (false, (num n t p).2.1, v)) := rfl
    rw [e]
    obtain ⟨g1, g2, g3⟩ := num_ge (n := n) (p := p) (t := t)
    cases hb : (num n t p).1
    · simp only [iF]
    · simp only [iT, if_true]
      rw [iN_s]
      exact ih (i + 1) (num n t p).2.1 fu _ (by omega) (g2 hp) (by omega) (fun j h1 h2 => by rw [uN (by omega)]; exact hv j (by omega) h2)
theorem wnc_K {D : Nat} (hD : D < 9) : wnc D = iN (wnc D).toNatClampNeg ∧ (wnc D).toNatClampNeg ≤ 3 ∧ 1 ≤ (wnc D).toNatClampNeg := by
  rcases (by omega : D = 0 ∨ D = 1 ∨ D = 2 ∨ D = 3 ∨ D = 4 ∨ D = 5 ∨ D = 6 ∨ D = 7 ∨ D = 8) with rfl | rfl | rfl | rfl | rfl | rfl | rfl | rfl | rfl <;> decide
def zr3 (v : Nat → Int32) : Nat → Int32 := upd (upd (upd v 0 0) 1 0) 2 0
theorem zr3_0 {v : Nat → Int32} : ∀ j, j < 3 → zr3 v j = 0 := fun j hj => by
  unfold zr3
  rcases (by omega : j = 0 ∨ j = 1 ∨ j = 2) with rfl | rfl | rfl
  · rw [uN (by decide), uN (by decide), uS]
  · rw [uN (by decide), uS]
  · rw [uS]
theorem l2_zero (fu : Nat) {p : Int32} : sX2_readNumbers_2 (fu + 1 + 1 + 1 + 1) (cw w p f d v) (iN 0) = sX2_readNumbers_22 FU (cw w p f d (zr3 v)) (0 : Int32) := by
  rw [sX2_readNumbers_2.eq_2, if_neg (by decide), idx_iN (by decide) (by decide), ob, cw_s0, iN_s, sX2_readNumbers_2.eq_2, if_neg (by decide), idx_iN (by decide) (by decide), ob, cw_s0, iN_s, sX2_readNumbers_2.eq_2, if_neg (by decide), idx_iN (by decide) (by decide), ob, cw_s0, iN_s, sX2_readNumbers_2.eq_2, if_pos (by decide)]
  rfl
theorem e2_readNumbers (hT : TC w n t) {D p : Nat} (hD : D < 9) (hp : p ≤ n) : sX2_readNumbers (cw w (iN p) f (iN D) v) = some (if (rdN n t (wnc D).toNatClampNeg 0 p (zr3 v)).1 = true then (true, cw w (iN (rdN n t (wnc D).toNatClampNeg 0 p (zr3 v)).2.1) f (iN D) (rdN n t (wnc D).toNatClampNeg 0 p (zr3 v)).2.2) else (false, cw w (iN (rdN n t (wnc D).toNatClampNeg 0 p (zr3 v)).2.1) (iN (rdN n t (wnc D).toNatClampNeg 0 p (zr3 v)).2.1) (iN D) (rdN n t (wnc D).toNatClampNeg 0 p (zr3 v)).2.2)) := by
  obtain ⟨k1, k2, k3⟩ := wnc_K hD
  unfold sX2_readNumbers
  have e : sX2_readNumbers_2 FU (cw w (iN p) f (iN D) v) (0 : Int32) = sX2_readNumbers_22 FU (cw w (iN p) f (iN D) (zr3 v)) (0 : Int32) := l2_zero 4092
  rw [e]
  exact l2_numbers hT hD k1 k2 _ 0 p FU (zr3 v) (Nat.zero_add _) hp (by show _ < 4096; omega) (fun j _ hj => zr3_0 j hj)
theorem e2_isWordAt (hT : TC w n t) {D s e : Nat} (hs : s ≤ e) (he : e ≤ n) : sX2_isWordAt (cw w (iN e) f d v) D (iN s) = some (wmt t s (e - s) D) := by
  obtain ⟨h1, h2, h3⟩ := hT
  have hl : slen D ≤ 8 := by
    by_cases hD : D < 9
    · exact (by decide : ∀ D, D < 9 → slen D ≤ 8) D hD
    · unfold slen sbl
      rw [List.getD_eq_getElem?_getD, List.getElem?_eq_none (by show _ ≤ D; simp; omega)]
      decide
  unfold sX2_isWordAt wmt
  rw [cw_2, iN_sub hs]
  show (if iN (slen D) = iN (e - s) then _ else _) = _
  by_cases h : slen D = e - s
  · rw [if_pos (by rw [h]), if_pos h]
    refine loopAll (L := fun n l => sX2_isWordAt_17 n (cw w (iN e) f d v) D (iN s) l) (N := slen D) (q := fun j => if iN (t (s + j)) = sby D j then false else true) (fun n => ?_) (fun n i hi => ?_) (slen D) 0 FU (by omega) (by show _ < 4096; omega)
    · show sX2_isWordAt_17 (n + 1) (cw w (iN e) f d v) D (iN s) (iN (slen D)) = _
      rw [sX2_isWordAt_17.eq_2]
      exact if_pos ((iN_le (by omega) (by omega)).mpr (Nat.le_refl _))
    · show sX2_isWordAt_17 (n + 1) (cw w (iN e) f d v) D (iN s) (iN i) = if (if iN (t (s + i)) = sby D i then false else true) = true then some false else sX2_isWordAt_17 n (cw w (iN e) f d v) D (iN s) (iN (i + 1))
      rw [sX2_isWordAt_17.eq_2]
      refine (if_neg (show ¬ iN (slen D) ≤ iN i from fun q => by have := (iN_le (by omega) (by omega)).mp q; omega)).trans ?_
      rw [iN_add, idx_iN (by omega) (by decide), ob, idx_iN hi (by omega), ob, cw_9, (h3 (s + i) (by omega)).1, iN_s]
      by_cases g : iN (t (s + i)) = sby D i
      · rw [if_pos g, if_pos g]; simp only [iF]
      · rw [if_neg g, if_neg g]; simp only [iT, if_true]
  · rw [if_neg (fun q => h ((iN_eq (by omega) (by omega)).mp q)), if_neg h]
theorem l2_words (hT : TC w n t) {s e : Nat} (hs : s ≤ e) (he : e ≤ n) (fu : Nat) : sX2_readWord_59 (fu + 1 + 1 + 1 + 1 + 1 + 1 + 1 + 1 + 1 + 1) (cw w (iN e) f d v) (iN s) (iN 0) = some (if fst9 (wmt t s (e - s)) = 9 then (false, cw w (iN e) (iN s) d v) else (true, cw w (iN e) f (iN (fst9 (wmt t s (e - s)))) v)) := by
  have st : ∀ (m D : Nat), D < 9 → sX2_readWord_59 (m + 1) (cw w (iN e) f d v) (iN s) (iN D) = if wmt t s (e - s) D = true then some (true, cw w (iN e) f (iN D) v) else sX2_readWord_59 m (cw w (iN e) f d v) (iN s) (iN (D + 1)) := fun m D hD => by
    rw [sX2_readWord_59.eq_2, if_neg (show ¬ (9 : Int32) ≤ iN D from fun q => by have := (iN_le (a := 9) (by decide) (by omega)).mp q; omega), idx_iN hD (by decide), ob, e2_isWordAt hT hs he, ob, iN_s, cw_s4]
  have en : ∀ m : Nat, sX2_readWord_59 (m + 1) (cw w (iN e) f d v) (iN s) (iN 9) = some (false, cw w (iN e) (iN s) d v) := fun m => by
    rw [sX2_readWord_59.eq_2, if_pos (by decide)]
    unfold sX2_failAt
    rw [ob, cw_s3]
  rw [st _ 0 (by decide), st _ 1 (by decide), st _ 2 (by decide), st _ 3 (by decide), st _ 4 (by decide), st _ 5 (by decide), st _ 6 (by decide), st _ 7 (by decide), st _ 8 (by decide), en]
  unfold fst9
  generalize wmt t s (e - s) = W
  cases W 0
  · simp only [iF]
    cases W 1
    · simp only [iF]
      cases W 2
      · simp only [iF]
        cases W 3
        · simp only [iF]
          cases W 4
          · simp only [iF]
            cases W 5
            · simp only [iF]
              cases W 6
              · simp only [iF]
                cases W 7
                · simp only [iF]
                  cases W 8
                  · simp only [iF]; rfl
                  · simp only [iT, if_true]; rfl
                · simp only [iT, if_true]; rfl
              · simp only [iT, if_true]; rfl
            · simp only [iT, if_true]; rfl
          · simp only [iT, if_true]; rfl
        · simp only [iT, if_true]; rfl
      · simp only [iT, if_true]; rfl
    · simp only [iT, if_true]; rfl
  · simp only [iT, if_true]; rfl
theorem l2_word (hT : TC w n t) {s : Nat} : ∀ (k p fu : Nat), n - p ≤ k → s ≤ p → p ≤ n → k < fu → sX2_readWord_5 fu (cw w (iN p) f d v) (iN s) = some (if fst9 (wmt t s (wen n t p - s)) = 9 then (false, cw w (iN (wen n t p)) (iN s) d v) else (true, cw w (iN (wen n t p)) f (iN (fst9 (wmt t s (wen n t p - s)))) v)) := by
  obtain ⟨h1, h2, h3⟩ := id hT
  have fin : ∀ e : Nat, s ≤ e → e ≤ n → sX2_readWord_59 FU (cw w (iN e) f d v) (iN s) (0 : Int32) = some (if fst9 (wmt t s (e - s)) = 9 then (false, cw w (iN e) (iN s) d v) else (true, cw w (iN e) f (iN (fst9 (wmt t s (e - s)))) v)) := fun e g1 g2 => l2_words hT g1 g2 4086
  intro k
  induction k with
  | zero =>
    intro p fu hk hsp hp hf
    obtain ⟨fu, rfl⟩ : ∃ m, fu = m + 1 := ⟨fu - 1, by omega⟩
    rw [sX2_readWord_5.eq_2, cw_1, cw_2, h2, if_pos ((iN_le (by omega) (by omega)).mpr (by omega)), wen, dif_neg (by omega)]
    exact fin p hsp hp
  | succ k ih =>
    intro p fu hk hsp hp hf
    obtain ⟨fu, rfl⟩ : ∃ m, fu = m + 1 := ⟨fu - 1, by omega⟩
    rw [sX2_readWord_5.eq_2, cw_1, cw_2, h2, cw_9]
    by_cases hpn : p < n
    · obtain ⟨e1, e2⟩ := h3 p hpn
      rw [if_neg (fun q => by have := (iN_le (by omega) (by omega)).mp q; omega), idx_iN (by omega) (by decide), ob, e1, cw_s2, iN_s, wen, dif_pos hpn]
      by_cases g1 : iN (t p) < 97
      · have := (iN_lt (b := 97) (by omega) (by decide)).mp g1
        rw [if_pos g1, if_neg (show ¬ (97 ≤ t p ∧ t p ≤ 122) by omega)]
        exact fin p hsp hp
      · have g1' : ¬ t p < 97 := fun q => g1 ((iN_lt (b := 97) (by omega) (by decide)).mpr q)
        rw [if_neg g1]
        by_cases g2 : (122 : Int32) < iN (t p)
        · have := (iN_lt (a := 122) (by decide) (by omega)).mp g2
          rw [if_pos g2, if_neg (show ¬ (97 ≤ t p ∧ t p ≤ 122) by omega)]
          exact fin p hsp hp
        · have g2' : ¬ 122 < t p := fun q => g2 ((iN_lt (a := 122) (by decide) (by omega)).mpr q)
          rw [if_neg g2, if_pos (show 97 ≤ t p ∧ t p ≤ 122 by omega)]
          exact ih (p + 1) fu (by omega) (by omega) (by omega) (by omega)
    · rw [if_pos ((iN_le (by omega) (by omega)).mpr (by omega)), wen, dif_neg (by omega)]
      exact fin p hsp hp
theorem e2_readWord (hT : TC w n t) {q : Nat} (hq : q ≤ n) : sX2_readWord (cw w (iN q) f d v) = some (if fst9 (wmt t q (wen n t q - q)) = 9 then (false, cw w (iN (wen n t q)) (iN q) d v) else (true, cw w (iN (wen n t q)) f (iN (fst9 (wmt t q (wen n t q - q)))) v)) := by
  unfold sX2_readWord
  rw [cw_2]
  exact l2_word hT 150 q FU (by have := hT.1; omega) (Nat.le_refl _) hq (by decide)
theorem e2_readSemicolon (hT : TC w n t) {p : Nat} (hp : p ≤ n) : sX2_readSemicolon (cw w (iN p) f d v) = some (if skp n t p < n ∧ t (skp n t p) = 59 then (true, cw w (iN (skp n t p + 1)) f d v) else (false, cw w (iN (skp n t p)) (iN (skp n t p)) d v)) := by
  obtain ⟨h1, h2, h3⟩ := id hT
  have hq := skp_n (n := n) (p := p) (t := t) hp
  unfold sX2_readSemicolon sX2_failAt
  rw [e2_skip hT (by omega), ob, cw_1, cw_2, h2, cw_9, cw_s2, cw_s3, iN_s]
  by_cases hpn : skp n t p < n
  · obtain ⟨e1, e2⟩ := h3 _ hpn
    rw [if_neg (show ¬ iN n ≤ iN (skp n t p) from fun q => by have := (iN_le (by omega) (by omega)).mp q; omega), idx_iN (by omega) (by decide), ob, e1, ob]
    by_cases hs : t (skp n t p) = 59
    · rw [if_pos (show iN (t (skp n t p)) = 59 by rw [hs]; rfl), if_pos ⟨hpn, hs⟩]
    · rw [if_neg (show ¬ iN (t (skp n t p)) = 59 from fun q => hs ((iN_eq (b := 59) (by omega) (by decide)).mp q)), if_neg (fun q => hs q.2)]
  · rw [if_pos (show iN n ≤ iN (skp n t p) from (iN_le (by omega) (by omega)).mpr (by omega)), ob, if_neg (fun q => hpn q.1)]
/-- the class reads a command -/
theorem e2_readNext (hT : TC w n t) {p D : Nat} (hp : p ≤ n) (hD : D < 9) :
    (n ≤ skp n t p → sX2_readNext (cw w (iN p) f (iN D) v) = some (false, cw w (iN (skp n t p)) f (iN D) v)) ∧
    (skp n t p < n → (∀ x, cmd n t (skp n t p) (zr3 v) = .inl x → ∃ p' D' v', p' ≤ n ∧ D' < 9 ∧ sX2_readNext (cw w (iN p) f (iN D) v) = some (false, cw w (iN p') (iN x) (iN D') v')) ∧
      ∀ p' D' v', cmd n t (skp n t p) (zr3 v) = .inr (p', D', v') → sX2_readNext (cw w (iN p) f (iN D) v) = some (true, cw w (iN p') f (iN D') v')) := by
  obtain ⟨h1, h2, h3⟩ := id hT
  have hq := skp_n (n := n) (p := p) (t := t) hp
  have h0 : sX2_readNext (cw w (iN p) f (iN D) v) = (if iN n ≤ iN (skp n t p) then some (false, cw w (iN (skp n t p)) f (iN D) v) else (sX2_readWord (cw w (iN (skp n t p)) f (iN D) v) ).bind (fun r6 => (if r6.1 = true then (sX2_readNumbers r6.2 ).bind (fun r11 => (if r11.1 = true then (sX2_readSemicolon r11.2 ).bind (fun r16 => (if r16.1 = true then some (true, r16.2) else some (false, r16.2))) else some (false, r11.2))) else some (false, r6.2)))) := by
    unfold sX2_readNext
    rw [e2_skip hT (by omega), ob, cw_1, cw_2, h2]
  rw [h0]
  refine ⟨fun h => if_pos ((iN_le (by omega) (by omega)).mpr h), fun h => ?_⟩
  rw [if_neg (show ¬ iN n ≤ iN (skp n t p) from fun q => by have := (iN_le (by omega) (by omega)).mp q; omega), e2_readWord hT hq, ob]
  obtain ⟨w1, w2, -⟩ := wen_ge (n := n) (t := t) (n - skp n t p) (skp n t p) (Nat.le_refl _)
  have w2 := w2 hq
  unfold cmd
  generalize wen n t (skp n t p) = e at w1 w2
  rcases fst9_lt (W := wmt t (skp n t p) (e - skp n t p)) with hk | hk
  · have hk' : ¬ fst9 (wmt t (skp n t p) (e - skp n t p)) = 9 := by omega
    simp only [if_neg hk', if_true]
    generalize fst9 (wmt t (skp n t p) (e - skp n t p)) = k at hk
    rw [e2_readNumbers hT hk w2, ob]
    obtain ⟨r1, r2⟩ := rdN_ge (n := n) (t := t) (wnc k).toNatClampNeg 0 e (zr3 v)
    have r2 := r2 w2
    generalize rdN n t (wnc k).toNatClampNeg 0 e (zr3 v) = R at r2 r1
    obtain ⟨Rb, Rp, Rv⟩ := R
    cases Rb
    · simp only [iF]
      refine ⟨fun x hx => ?_, fun p' D' v' hx => by cases hx⟩
      cases hx
      exact ⟨Rp, k, Rv, r2, hk, rfl⟩
    · simp only [iT, if_true]
      rw [e2_readSemicolon hT r2, ob]
      have hq2 := skp_n (n := n) (p := Rp) (t := t) r2
      by_cases hs : skp n t Rp < n ∧ t (skp n t Rp) = 59
      · simp only [if_pos hs, if_true]
        refine ⟨fun x hx => (by cases hx), fun p' D' v' hx => ?_⟩
        cases hx
        rfl
      · simp only [if_neg hs]
        simp only [iF]
        refine ⟨fun x hx => ?_, fun p' D' v' hx => by cases hx⟩
        cases hx
        exact ⟨skp n t Rp, k, Rv, hq2, hk, rfl⟩
  · simp only [if_pos hk]
    simp only [iF]
    refine ⟨fun x hx => ?_, fun p' D' v' hx => by cases hx⟩
    cases hx
    exact ⟨e, D, v, w2, hD, rfl⟩
end CR
