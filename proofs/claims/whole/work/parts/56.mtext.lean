/-! TEXTS: the model's reader -/
theorem hsh_lt {t : Nat → Nat} {s : Nat} : ∀ (k : Nat), (∀ j, j < k → t (s + j) ≤ 122) → hsh t s k < 27 ^ k
  | 0, _ => by show (0 : Nat) < 27 ^ 0; decide
  | k + 1, h => by
    have := hsh_lt k (fun j hj => h j (by omega))
    have := h k (by omega)
    show hsh t s k * 27 + t (s + k) - 96 < 27 ^ (k + 1)
    rw [Nat.pow_succ]
    omega
theorem lg_eq {a b : Nat} (ha : a < 2147483648) (hb : b < 2147483648) : lg_cmp (Int64.ofNat a) (Int64.ofNat b) = 0 ↔ a = b := by
  have e1 : (Int64.ofNat a).toInt = a := Int64.toInt_ofNat_of_lt (by omega)
  have e2 : (Int64.ofNat b).toInt = b := Int64.toInt_ofNat_of_lt (by omega)
  unfold lg_cmp
  by_cases h : Int64.ofNat a > Int64.ofNat b
  · rw [if_pos h]
    have h := Int64.lt_iff_toInt_lt.mp h
    constructor
    · intro q; cases q
    · intro q; omega
  · rw [if_neg h]
    by_cases g : Int64.ofNat a = Int64.ofNat b
    · rw [if_pos g]
      have := congrArg Int64.toInt g
      exact ⟨fun _ => by omega, fun _ => rfl⟩
    · rw [if_neg g]
      constructor
      · intro q; cases q
      · intro q; exact (g (by rw [q])).elim
theorem e13_commandOf {w : Wl} {t : Nat → Nat} {s l : Nat} (hl : l ≤ 6) (hb : ∀ j, j < l → 97 ≤ t (s + j) ∧ t (s + j) ≤ 122) : sX13_commandOf w (Int64.ofNat (hsh t s l)) = some (if fst9 (wmt t s l) = 9 then -1 else iN (fst9 (wmt t s l))) := by
  have hh := hsh_lt (t := t) (s := s) l (fun j hj => (hb j hj).2)
  have hh2 : 27 ^ l ≤ 27 ^ 6 := Nat.pow_le_pow_right (by decide) hl
  have hh : hsh t s l < 2147483648 := by omega
  have k : ∀ c : Nat, c < 2147483648 → (lg_cmp (Int64.ofNat (hsh t s l)) (Int64.ofNat c) = 0 ↔ hsh t s l = c) := fun c hc => lg_eq hh hc
  have k0 := (k 307058 (by decide)).trans (wh_0 hl hb).symm
  have k1 := (k 1841972 (by decide)).trans (wh_1 hl hb).symm
  have k2 := (k 279740 (by decide)).trans (wh_2 hl hb).symm
  have k3 := (k 11522 (by decide)).trans (wh_3 hl hb).symm
  have k4 := (k 315749 (by decide)).trans (wh_4 hl hb).symm
  have k5 := (k 309082970 (by decide)).trans (wh_5 hl hb).symm
  have k6 := (k 378004 (by decide)).trans (wh_6 hl hb).symm
  have k7 := (k 81912404 (by decide)).trans (wh_7 hl hb).symm
  have k8 := (k 453701 (by decide)).trans (wh_8 hl hb).symm
  generalize Int64.ofNat (hsh t s l) = L at k0 k1 k2 k3 k4 k5 k6 k7 k8
  unfold fst9
  generalize wmt t s l = W at k0 k1 k2 k3 k4 k5 k6 k7 k8
  have k0 : lg_cmp L (307058 : Int64) = 0 ↔ W 0 = true := k0
  have k1 : lg_cmp L (1841972 : Int64) = 0 ↔ W 1 = true := k1
  have k2 : lg_cmp L (279740 : Int64) = 0 ↔ W 2 = true := k2
  have k3 : lg_cmp L (11522 : Int64) = 0 ↔ W 3 = true := k3
  have k4 : lg_cmp L (315749 : Int64) = 0 ↔ W 4 = true := k4
  have k5 : lg_cmp L (309082970 : Int64) = 0 ↔ W 5 = true := k5
  have k6 : lg_cmp L (378004 : Int64) = 0 ↔ W 6 = true := k6
  have k7 : lg_cmp L (81912404 : Int64) = 0 ↔ W 7 = true := k7
  have k8 : lg_cmp L (453701 : Int64) = 0 ↔ W 8 = true := k8
  unfold sX13_commandOf
  simp only [k0, k1, k2, k3, k4, k5, k6, k7, k8]
  cases W 0
  · simp only [iF]
    cases W 1
    · simp only [iF]
      cases W 2
      · simp only [iF]
        cases W 3
        · simp only [iF]
          cases W 4
          · simp only [iF]
            cases W 5
            · simp only [iF]
              cases W 6
              · simp only [iF]
                cases W 7
                · simp only [iF]
                  cases W 8
                  · simp only [iF]; rfl
                  · simp only [iT]; rfl
                · simp only [iT]; rfl
              · simp only [iT]; rfl
            · simp only [iT]; rfl
          · simp only [iT]; rfl
        · simp only [iT]; rfl
      · simp only [iT]; rfl
    · simp only [iT]; rfl
  · simp only [iT]; rfl
theorem wmt_long {t : Nat → Nat} {s l : Nat} (hl : 6 < l) : fst9 (wmt t s l) = 9 := by
  have k : ∀ d, d < 9 → wmt t s l d = false := fun d hd => by
    have : slen d ≤ 6 := (by decide : ∀ d, d < 9 → slen d ≤ 6) d hd
    unfold wmt
    rw [if_neg (by omega)]
  unfold fst9
  simp only [k 0 (by decide), k 1 (by decide), k 2 (by decide), k 3 (by decide), k 4 (by decide), k 5 (by decide), k 6 (by decide), k 7 (by decide), k 8 (by decide), iF]
/-- the model's reader at the place p, its command d, its numbers v -/
def mw (w : Wl) (p d : Int32) (v : Nat → Int32) : Wl := fun a => if a = 371 then upd (upd (w 371) 7 p) 8 d else if a = 376 then v else w a
/-- the model's text -/
def TM (w : Wl) (n : Nat) (t : Nat → Nat) : Prop := n ≤ 150 ∧ w 371 4 = iN n ∧ ∀ j, j < n → w 374 j = iN (t j) ∧ t j < 128
section MT
variable {w : Wl} {p d : Int32} {v : Nat → Int32}
theorem mw_1 : mw w p d v 371 = upd (upd (w 371) 7 p) 8 d := if_pos rfl
theorem mw_4 : mw w p d v 371 4 = w 371 4 := by rw [mw_1, uN (by decide), uN (by decide)]
theorem mw_7 : mw w p d v 371 7 = p := by rw [mw_1, uN (by decide), uS]
theorem mw_8 : mw w p d v 371 8 = d := by rw [mw_1, uS]
theorem mw_t : mw w p d v 374 = w 374 := rfl
theorem mw_v : mw w p d v 376 = v := rfl
theorem mw_o {a : Nat} (h1 : a ≠ 371) (h2 : a ≠ 376) : mw w p d v a = w a := by unfold mw; rw [if_neg h1, if_neg h2]
theorem mw_s7 {x : Int32} : wst (mw w p d v) 371 7 x = mw w x d v := by
  funext a
  by_cases h : a = 371
  · subst h
    rw [wS]
    show upd (upd (upd (w 371) 7 p) 8 d) 7 x = upd (upd (w 371) 7 x) 8 d
    rw [upd_comm (by decide : (8 : Nat) ≠ 7)]
    congr 1
    funext j
    by_cases e : j = 7
    · subst e; rw [uS, uS]
    · rw [uN e, uN e, uN e]
  · rw [wN h]
    unfold mw
    rw [if_neg h, if_neg h]
theorem mw_s8 {x : Int32} : wst (mw w p d v) 371 8 x = mw w p x v := by
  funext a
  by_cases h : a = 371
  · subst h
    rw [wS]
    show upd (upd (upd (w 371) 7 p) 8 d) 8 x = upd (upd (w 371) 7 p) 8 x
    funext j
    by_cases e : j = 8
    · subst e; rw [uS, uS]
    · rw [uN e, uN e, uN e]
  · rw [wN h]
    unfold mw
    rw [if_neg h, if_neg h]
theorem mw_sv {x : Int32} {j : Nat} : wst (mw w p d v) 376 j x = mw w p d (upd v j x) := by
  funext a
  by_cases h : a = 376
  · subst h; rw [wS]; rfl
  · rw [wN h]
    unfold mw
    by_cases h2 : a = 371
    · rw [if_pos h2, if_pos h2]
    · rw [if_neg h2, if_neg h2, if_neg h, if_neg h]
theorem mw_id : mw w (w 371 7) (w 371 8) (w 376) = w := by
  funext a
  unfold mw
  by_cases h : a = 371
  · subst h
    rw [if_pos rfl, upd_id rfl, upd_id rfl]
  · rw [if_neg h]
    by_cases h2 : a = 376
    · subst h2; rw [if_pos rfl]
    · rw [if_neg h2]
end MT
section MR
variable {w : Wl} {n : Nat} {t : Nat → Nat} {d : Int32} {v : Nat → Int32}
theorem e13_here (hT : TM w n t) {p : Nat} (hp : p ≤ 150) : sX13_here (mw w (iN p) d v) = some (if p < n then iN (t p) else -1) := by
  obtain ⟨h1, h2, h3⟩ := hT
  unfold sX13_here
  rw [mw_4, mw_7, h2, mw_t]
  by_cases hpn : p < n
  · rw [if_neg (fun q => by have := (iN_le (by omega) (by omega)).mp q; omega), idx_iN (by omega) (by decide), ob, (h3 p hpn).1, if_pos hpn]
  · rw [if_pos ((iN_le (by omega) (by omega)).mpr (by omega)), if_neg hpn]
theorem l13_skip (hT : TM w n t) {s : Nat} (hs : s ≤ 150) : ∀ (k p fu : Nat), n - p ≤ k → p ≤ 150 → k < fu → sX13_skips_5 fu (mw w (iN p) d v) (iN s) = some (if s < skp n t p then (true, mw w (iN (skp n t p)) d v) else (false, mw w (iN (skp n t p)) d v)) := by
  have fin : ∀ p : Nat, p ≤ 150 → (if ((mw w (iN p) d v) 371 7) ≤ iN s then some (false, (mw w (iN p) d v)) else some (true, (mw w (iN p) d v))) = some (if s < p then (true, mw w (iN p) d v) else (false, mw w (iN p) d v)) := fun p hp => by
    rw [mw_7]
    by_cases h : s < p
    · rw [if_pos h, if_neg (fun q => by have := (iN_le (by omega) (by omega)).mp q; omega)]
    · rw [if_neg h, if_pos ((iN_le (by omega) (by omega)).mpr (by omega))]
  have h1 := hT.1
  intro k
  induction k with
  | zero =>
    intro p fu hk hp hf
    obtain ⟨fu, rfl⟩ : ∃ m, fu = m + 1 := ⟨fu - 1, by omega⟩
    rw [sX13_skips_5.eq_2, e13_here hT hp, ob, if_neg (show ¬ p < n by omega), if_neg (show ¬ (-1 : Int32) = 32 by decide), skp_out (by omega)]
    exact fin p hp
  | succ k ih =>
    intro p fu hk hp hf
    obtain ⟨fu, rfl⟩ : ∃ m, fu = m + 1 := ⟨fu - 1, by omega⟩
    rw [sX13_skips_5.eq_2, e13_here hT hp, ob]
    by_cases hpn : p < n
    · obtain ⟨e1, e2⟩ := hT.2.2 p hpn
      rw [if_pos hpn, skp, dif_pos hpn]
      by_cases hs : t p = 32
      · rw [if_pos (show iN (t p) = 32 by rw [hs]; rfl), if_pos hs, mw_7, mw_s7, iN_s]
        exact ih (p + 1) fu (by omega) (by omega) (by omega)
      · rw [if_neg (show ¬ iN (t p) = 32 from fun q => hs ((iN_eq (b := 32) (by omega) (by decide)).mp q)), if_neg hs]
        exact fin p hp
    · rw [if_neg hpn, if_neg (show ¬ (-1 : Int32) = 32 by decide), skp_out (by omega)]
      exact fin p hp
theorem e13_skips (hT : TM w n t) {p : Nat} (hp : p ≤ 150) : sX13_skips (mw w (iN p) d v) = some (if p < skp n t p then (true, mw w (iN (skp n t p)) d v) else (false, mw w (iN (skp n t p)) d v)) := by
  unfold sX13_skips
  rw [mw_7]
  exact l13_skip hT hp 150 p FU (by have := hT.1; omega) hp (by decide)
theorem e13_inb {x : Int32} {a b c : Nat} (ha : a < 2147483648) (hb : b < 2147483648) (hc : c < 2147483648) : sX13_in w (iN c) (iN a) (iN b) = some (if a ≤ c ∧ c ≤ b then true else false) := by
  unfold sX13_in
  by_cases h1 : c < a
  · rw [if_pos ((iN_lt hc ha).mpr h1), if_neg (by omega)]
  · rw [if_neg (fun q => h1 ((iN_lt hc ha).mp q))]
    by_cases h2 : b < c
    · rw [if_pos ((iN_lt hb hc).mpr h2), if_neg (by omega)]
    · rw [if_neg (fun q => h2 ((iN_lt hb hc).mp q)), if_pos (by omega)]
theorem l13_66 {i s p : Nat} {x : Int32} (hi : i < 3) (hs : s ≤ 150) (hp : p ≤ 150) : sX13_readNumber_66 (mw w (iN p) d v) (iN i) (iN s) x = some (if s < p then (true, mw w (iN p) d (upd v i x)) else (false, mw w (iN p) d (upd v i x))) := by
  unfold sX13_readNumber_66
  rw [idx_iN hi (by decide), ob, mw_sv, mw_7]
  by_cases h : s < p
  · rw [if_pos h, if_neg (fun q => by have := (iN_le (by omega) (by omega)).mp q; omega)]
  · rw [if_neg h, if_pos ((iN_le (by omega) (by omega)).mpr (by omega))]
theorem l13_digits (hT : TM w n t) {i s : Nat} (hi : i < 3) (hs : s ≤ n) : ∀ (k p x fu : Nat), p + k = s + 4 → p ≤ n → k < fu → sX13_readNumber_16 fu (mw w (iN p) d v) (iN i) (iN s) (iN x) = some (if s < (dgt n t k p x).1 then (true, mw w (iN (dgt n t k p x).1) d (upd v i (iN (dgt n t k p x).2))) else (false, mw w (iN (dgt n t k p x).1) d (upd v i (iN (dgt n t k p x).2)))) := by
  have h1 := hT.1
  intro k
  induction k with
  | zero =>
    intro p x fu hl hp hf
    obtain ⟨fu, rfl⟩ : ∃ m, fu = m + 1 := ⟨fu - 1, by omega⟩
    rw [sX13_readNumber_16.eq_2, mw_7, show iN s + (4 : Int32) = iN (s + 4) from iN_add s 4, if_pos ((iN_le (by omega) (by omega)).mpr (by omega)), l13_66 hi (by omega) (by omega)]
    rfl
  | succ k ih =>
    intro p x fu hl hp hf
    obtain ⟨fu, rfl⟩ : ∃ m, fu = m + 1 := ⟨fu - 1, by omega⟩
    rw [sX13_readNumber_16.eq_2, mw_7, show iN s + (4 : Int32) = iN (s + 4) from iN_add s 4, if_neg (fun q => by have := (iN_le (by omega) (by omega)).mp q; omega), e13_here hT (by omega), ob]
    have e : dgt n t (k + 1) p x = (if p < n ∧ 48 ≤ t p ∧ t p ≤ 57 then dgt n t k (p + 1) (10 * x + t p - 48) else (p, x)) := rfl
    rw [e]
    by_cases hpn : p < n
    · obtain ⟨e1, e2⟩ := hT.2.2 p hpn
      rw [if_pos hpn, show (48 : Int32) = iN 48 from rfl, show (57 : Int32) = iN 57 from rfl, show (10 : Int32) = iN 10 from rfl, e13_inb (x := 0) (by decide) (by decide) (by omega), ob]
      by_cases h : 48 ≤ t p ∧ t p ≤ 57
      · rw [if_pos h, if_pos rfl, if_pos (show p < n ∧ 48 ≤ t p ∧ t p ≤ 57 from ⟨hpn, h⟩)]
        rw [mw_s7, iN_s, iN_mul, iN_add, iN_sub (by omega)]
        exact ih (p + 1) _ fu (by omega) (by omega) (by omega)
      · rw [if_neg h, if_neg (show ¬ (p < n ∧ 48 ≤ t p ∧ t p ≤ 57) from fun q => h q.2)]
        simp only [iF]
        exact l13_66 hi (by omega) (by omega)
    · rw [if_neg hpn, if_neg (show ¬ (p < n ∧ 48 ≤ t p ∧ t p ≤ 57) from fun q => hpn q.1), show sX13_in (mw w (iN p) d v) (-1) 48 57 = some false from rfl, ob]
      simp only [iF]
      exact l13_66 hi (by omega) (by omega)
theorem e13_readNumber (hT : TM w n t) {i p : Nat} (hi : i < 3) (hp : p ≤ n) : ∃ v', ((num n t p).1 = true → v' = upd v i (iN (num n t p).2.2)) ∧ sX13_readNumber (mw w (iN p) d v) (iN i) = some (if (num n t p).1 = true then (true, mw w (iN (num n t p).2.1) d v') else (false, mw w (iN (num n t p).2.1) d v')) := by
  have h1 := hT.1
  unfold sX13_readNumber
  rw [e13_skips hT (by omega), ob]
  have hq := skp_n (n := n) (p := p) (t := t) hp
  by_cases h : p < n ∧ t p = 32
  · have e : skp n t p = skp n t (p + 1) := by rw [skp, dif_pos h.1, if_pos h.2]
    have := skp_le (n := n) (p := p + 1) (t := t)
    have e2 : num n t p = (if skp n t p < n ∧ 48 ≤ t (skp n t p) ∧ t (skp n t p) ≤ 57 then (true, (dgt n t 4 (skp n t p) 0).1, (dgt n t 4 (skp n t p) 0).2) else (false, skp n t p, 0)) := if_pos h
    rw [e2, if_pos (show p < skp n t p by omega)]
    simp only [if_true]
    rw [mw_7]
    have l := l13_digits (d := d) (v := v) hT hi hq 4 (skp n t p) 0 FU (by omega) hq (by decide)
    have l : sX13_readNumber_16 FU (mw w (iN (skp n t p)) d v) (iN i) (iN (skp n t p)) 0 = _ := l
    have e3 : dgt n t 4 (skp n t p) 0 = (if skp n t p < n ∧ 48 ≤ t (skp n t p) ∧ t (skp n t p) ≤ 57 then dgt n t 3 (skp n t p + 1) (10 * 0 + t (skp n t p) - 48) else (skp n t p, 0)) := rfl
    by_cases hd : skp n t p < n ∧ 48 ≤ t (skp n t p) ∧ t (skp n t p) ≤ 57
    · rw [if_pos hd]
      refine ⟨_, fun _ => rfl, ?_⟩
      rw [l, e3, if_pos hd]
      obtain ⟨a, -, -⟩ := dgt_ge (n := n) (t := t) 3 (skp n t p + 1) (10 * 0 + t (skp n t p) - 48)
      rw [if_pos (by omega)]
      simp only [if_true]
    · rw [if_neg hd]
      refine ⟨upd v i (iN 0), fun q => (by cases q), ?_⟩
      rw [l, e3, if_neg hd, if_neg (by omega)]
      simp only [iF]
  · have e : skp n t p = p := by
      rw [skp]
      by_cases hpn : p < n
      · rw [dif_pos hpn, if_neg (fun q => h ⟨hpn, q⟩)]
      · rw [dif_neg hpn]
    have e2 : num n t p = (false, p, 0) := if_neg h
    rw [e2, e, if_neg (Nat.lt_irrefl p)]
    simp only [iF]
    exact ⟨v, fun q => (by cases q), rfl⟩
theorem e13_manyFor {p : Int32} {D : Nat} (hD : D < 9) : sX13_manyFor (mw w p (iN D) v) = some (wnc D) := by
  unfold sX13_manyFor
  rw [mw_8]
  rcases (by omega : D = 0 ∨ D = 1 ∨ D = 2 ∨ D = 3 ∨ D = 4 ∨ D = 5 ∨ D = 6 ∨ D = 7 ∨ D = 8) with rfl | rfl | rfl | rfl | rfl | rfl | rfl | rfl | rfl <;> decide
theorem l13_word (hT : TM w n t) {s : Nat} : ∀ (k p fu : Nat) (L : Int64), n - p ≤ k → s ≤ p → p ≤ n → k < fu → (∀ j, s ≤ j → j < p → 97 ≤ t j ∧ t j ≤ 122) → (p - s ≤ 6 → L = Int64.ofNat (hsh t s (p - s))) → sX13_readWord_7 fu (mw w (iN p) d v) (iN s) L = some (if fst9 (wmt t s (wen n t p - s)) = 9 then (false, mw w (iN s) (-1) v) else (true, mw w (iN (wen n t p)) (iN (fst9 (wmt t s (wen n t p - s)))) v)) := by
  have h1 := hT.1
  have fin2 : ∀ (p D : Nat), p ≤ n → D < 9 ∨ D = 9 → sX13_readWord_87 (mw w (iN p) d v) (iN s) (if D = 9 then -1 else iN D) = some (if D = 9 then (false, mw w (iN s) (-1) v) else (true, mw w (iN p) (iN D) v)) := fun p D hp hD => by
    unfold sX13_readWord_87 sX13_readWord_107
    rw [mw_s8, mw_8, mw_7, mw_s7, mw_s7, mw_8, mw_8]
    rcases hD with hD | rfl
    · rw [if_neg (show ¬ D = 9 by omega), if_neg (show ¬ D = 9 by omega), if_neg (iN_m1 (by omega)), if_neg (iN_m1 (by omega))]
    · rfl
  have fin : ∀ (p : Nat) (L : Int64), s ≤ p → p ≤ n → (∀ j, s ≤ j → j < p → 97 ≤ t j ∧ t j ≤ 122) → (p - s ≤ 6 → L = Int64.ofNat (hsh t s (p - s))) → (if (((mw w (iN p) d v) 371 7) - iN s) ≤ (6 : Int32) then (sX13_commandOf (mw w (iN p) d v) L).bind (fun r7 => sX13_readWord_87 (mw w (iN p) d v) (iN s) r7) else sX13_readWord_87 (mw w (iN p) d v) (iN s) (-1 : Int32)) = some (if fst9 (wmt t s (p - s)) = 9 then (false, mw w (iN s) (-1) v) else (true, mw w (iN p) (iN (fst9 (wmt t s (p - s)))) v)) := fun p L hsp hp hb hL => by
    rw [mw_7, iN_sub hsp]
    by_cases h6 : p - s ≤ 6
    · rw [if_pos (show iN (p - s) ≤ 6 from (iN_le (b := 6) (by omega) (by decide)).mpr h6), hL h6, e13_commandOf h6 (fun j hj => hb (s + j) (by omega) (by omega)), ob]
      exact fin2 p _ hp fst9_lt
    · rw [if_neg (show ¬ iN (p - s) ≤ 6 from fun q => h6 ((iN_le (b := 6) (by omega) (by decide)).mp q)), wmt_long (show 6 < p - s by omega)]
      exact fin2 p 9 hp (Or.inr rfl)
  intro k
  induction k with
  | zero =>
    intro p fu L hk hsp hp hf hb hL
    obtain ⟨fu, rfl⟩ : ∃ m, fu = m + 1 := ⟨fu - 1, by omega⟩
    rw [sX13_readWord_7.eq_2, e13_here hT (by omega), ob, if_neg (show ¬ p < n by omega), show sX13_in (mw w (iN p) d v) (-1) 97 122 = some false from rfl, ob, wen, dif_neg (show ¬ p < n by omega)]
    simp only [iF]
    exact fin p L hsp hp hb hL
  | succ k ih =>
    intro p fu L hk hsp hp hf hb hL
    obtain ⟨fu, rfl⟩ : ∃ m, fu = m + 1 := ⟨fu - 1, by omega⟩
    rw [sX13_readWord_7.eq_2, e13_here hT (by omega), ob, wen]
    by_cases hpn : p < n
    · obtain ⟨e1, e2⟩ := hT.2.2 p hpn
      rw [if_pos hpn, dif_pos hpn, show (97 : Int32) = iN 97 from rfl, show (122 : Int32) = iN 122 from rfl, e13_inb (x := 0) (by decide) (by decide) (by omega), ob]
      by_cases h : 97 ≤ t p ∧ t p ≤ 122
      · rw [if_pos h, if_pos h]
        simp only [if_true]
        have hb' : ∀ j, s ≤ j → j < p + 1 → 97 ≤ t j ∧ t j ≤ 122 := fun j g1 g2 => by
          by_cases e : j = p
          · subst e; exact h
          · exact hb j g1 (by omega)
        have e53 : ∀ L', sX13_readWord_53 (fun w l1 l2 => sX13_readWord_7 fu w l1 l2) (mw w (iN p) d v) (iN s) L' = sX13_readWord_7 fu (mw w (iN (p + 1)) d v) (iN s) L' := fun L' => by
          unfold sX13_readWord_53
          rw [mw_7, mw_s7, iN_s]
        rw [e53, e53, mw_7, iN_sub hsp]
        by_cases h7 : 7 ≤ p - s
        · rw [if_pos (show 7 ≤ iN (p - s) from (iN_le (a := 7) (by decide) (by omega)).mpr h7)]
          exact ih (p + 1) fu _ (by omega) (by omega) (by omega) (by omega) hb' (fun q => by omega)
        · rw [if_neg (show ¬ 7 ≤ iN (p - s) from fun q => h7 ((iN_le (a := 7) (by decide) (by omega)).mp q))]
          refine ih (p + 1) fu _ (by omega) (by omega) (by omega) (by omega) hb' (fun q => ?_)
          have e : p + 1 - s = (p - s) + 1 := by omega
          rw [e, hL (by omega)]
          show _ = Int64.ofNat (hsh t s (p - s) * 27 + t (s + (p - s)) - 96)
          rw [show s + (p - s) = p by omega, Int64.ofNat_sub _ _ (by omega), Int64.ofNat_add, Int64.ofNat_mul]
          have e3 : (iN (t p)).toInt64 = Int64.ofNat (t p) := by
            apply Int64.toInt_inj.mp
            rw [Int32.toInt_toInt64, iN_int (by omega), Int64.toInt_ofNat_of_lt (by omega)]
          rw [e3]
          rfl
      · rw [if_neg h, if_neg h]
        simp only [iF]
        exact fin p L hsp hp hb hL
    · rw [if_neg hpn, dif_neg hpn, show sX13_in (mw w (iN p) d v) (-1) 97 122 = some false from rfl, ob]
      simp only [iF]
      exact fin p L hsp hp hb hL
theorem e13_readWord (hT : TM w n t) {q : Nat} (hq : q ≤ n) : sX13_readWord (mw w (iN q) d v) = some (if fst9 (wmt t q (wen n t q - q)) = 9 then (false, mw w (iN q) (-1) v) else (true, mw w (iN (wen n t q)) (iN (fst9 (wmt t q (wen n t q - q)))) v)) := by
  unfold sX13_readWord
  rw [mw_7]
  exact l13_word hT 150 q FU 0 (by have := hT.1; omega) (Nat.le_refl _) hq (by decide) (fun j _ _ => by omega) (fun _ => by rw [Nat.sub_self]; rfl)
theorem l13_command (hT : TM w n t) {D K : Nat} (hD : D < 9) (hK : wnc D = iN K) (hK3 : K ≤ 3) : ∀ (k i p fu : Nat) (v : Nat → Int32), i + k = K → p ≤ n → k < fu →
    ((rdN n t k i p v).1 = false → ∃ v', sX13_readCommand_11 fu (mw w (iN p) (iN D) v) (iN i) = some (false, mw w (iN (rdN n t k i p v).2.1) (iN D) v')) ∧
    ((rdN n t k i p v).1 = true → sX13_readCommand_11 fu (mw w (iN p) (iN D) v) (iN i) = some (if skp n t (rdN n t k i p v).2.1 < n ∧ t (skp n t (rdN n t k i p v).2.1) = 59 then (true, mw w (iN (skp n t (rdN n t k i p v).2.1 + 1)) (iN D) (rdN n t k i p v).2.2) else (false, mw w (iN (skp n t (rdN n t k i p v).2.1)) (iN D) (rdN n t k i p v).2.2))) := by
  have h1 := hT.1
  intro k
  induction k with
  | zero =>
    intro i p fu v hi hp hf
    obtain ⟨fu, rfl⟩ : ∃ m, fu = m + 1 := ⟨fu - 1, by omega⟩
    have e : rdN n t 0 i p v = (true, p, v) := rfl
    rw [e]
    refine ⟨fun q => (by cases q), fun _ => ?_⟩
    have hq := skp_n (n := n) (p := p) (t := t) hp
    rw [sX13_readCommand_11.eq_2, e13_manyFor hD, ob, hK, if_pos ((iN_le (by omega) (by omega)).mpr (by omega)), e13_skips hT (by omega), ob]
    have e2 : (if p < skp n t p then (true, mw w (iN (skp n t p)) (iN D) v) else (false, mw w (iN (skp n t p)) (iN D) v)).2 = mw w (iN (skp n t p)) (iN D) v := by
      by_cases h : p < skp n t p
      · rw [if_pos h]
      · rw [if_neg h]
    rw [e2, e13_here hT (by omega), ob, mw_7, mw_s7, iN_s]
    by_cases hpn : skp n t p < n
    · obtain ⟨e1, e3⟩ := hT.2.2 _ hpn
      rw [if_pos hpn]
      by_cases hs : t (skp n t p) = 59
      · rw [if_pos (show iN (t (skp n t p)) = 59 by rw [hs]; rfl), if_pos (show skp n t (true, p, v).2.1 < n ∧ t (skp n t (true, p, v).2.1) = 59 from ⟨hpn, hs⟩)]
      · rw [if_neg (show ¬ iN (t (skp n t p)) = 59 from fun q => hs ((iN_eq (b := 59) (by omega) (by decide)).mp q)), if_neg (show ¬ (skp n t (true, p, v).2.1 < n ∧ t (skp n t (true, p, v).2.1) = 59) from fun q => hs q.2)]
    · rw [if_neg hpn, if_neg (show ¬ (-1 : Int32) = 59 by decide), if_neg (show ¬ (skp n t (true, p, v).2.1 < n ∧ t (skp n t (true, p, v).2.1) = 59) from fun q => hpn q.1)]
  | succ k ih =>
    intro i p fu v hi hp hf
    obtain ⟨fu, rfl⟩ : ∃ m, fu = m + 1 := ⟨fu - 1, by omega⟩
    have e : rdN n t (k + 1) i p v = (if (num n t p).1 = true then rdN n t k (i + 1) (num n t p).2.1 (upd v i (iN (num n t p).2.2)) else (false, (num n t p).2.1, v)) := rfl
    rw [e]
    obtain ⟨g1, g2, g3⟩ := num_ge (n := n) (p := p) (t := t)
    obtain ⟨v', a1, a2⟩ := e13_readNumber (d := iN D) (v := v) hT (show i < 3 by omega) hp
    have st : sX13_readCommand_11 (fu + 1) (mw w (iN p) (iN D) v) (iN i) = (if (num n t p).1 = true then sX13_readCommand_11 fu (mw w (iN (num n t p).2.1) (iN D) v') (iN (i + 1)) else some (false, mw w (iN (num n t p).2.1) (iN D) v')) := by
      rw [sX13_readCommand_11.eq_2, e13_manyFor hD, ob, hK, if_neg (show ¬ iN K ≤ iN i from fun q => by have := (iN_le (by omega) (by omega)).mp q; omega), a2, ob, iN_s]
      cases (num n t p).1
      · simp only [iF]
      · simp only [iT, if_true]
    rw [st]
    cases hb : (num n t p).1
    · simp only [iF]
      exact ⟨fun _ => ⟨v', rfl⟩, fun q => by cases q⟩
    · simp only [iT]
      rw [a1 hb]
      exact ih (i + 1) (num n t p).2.1 fu _ (by omega) (g2 hp) (by omega)
/-- the model reads a command -/
theorem e13_readCommand (hT : TM w n t) {q : Nat} (hq : q ≤ n) :
    (∀ x, cmd n t q v = .inl x → ∃ d' v', sX13_readCommand (mw w (iN q) d v) = some (false, mw w (iN x) d' v')) ∧
    (∀ p' D' v', cmd n t q v = .inr (p', D', v') → sX13_readCommand (mw w (iN q) d v) = some (true, mw w (iN p') (iN D') v')) := by
  unfold sX13_readCommand
  rw [e13_readWord hT hq, ob]
  obtain ⟨w1, w2, -⟩ := wen_ge (n := n) (t := t) (n - q) q (Nat.le_refl _)
  have w2 := w2 hq
  unfold cmd
  generalize wen n t q = e at w1 w2
  rcases fst9_lt (W := wmt t q (e - q)) with hk | hk
  · have hk' : ¬ fst9 (wmt t q (e - q)) = 9 := by omega
    simp only [if_neg hk', if_true]
    generalize fst9 (wmt t q (e - q)) = D at hk
    obtain ⟨k1, k2, k3⟩ := wnc_K hk
    obtain ⟨b1, b2⟩ := l13_command hT hk k1 k2 (wnc D).toNatClampNeg 0 e FU v (Nat.zero_add _) w2 (by show _ < 4096; omega)
    have b1 : _ → ∃ v', sX13_readCommand_11 FU (mw w (iN e) (iN D) v) (0 : Int32) = _ := b1
    have b2 : _ → sX13_readCommand_11 FU (mw w (iN e) (iN D) v) (0 : Int32) = _ := b2
    generalize rdN n t (wnc D).toNatClampNeg 0 e v = R at b1 b2
    obtain ⟨Rb, Rp, Rv⟩ := R
    cases Rb
    · simp only [iF]
      refine ⟨fun x hx => ?_, fun p' D' v' hx => by cases hx⟩
      cases hx
      obtain ⟨v', hv'⟩ := b1 rfl
      exact ⟨iN D, v', hv'⟩
    · simp only [iT]
      rw [b2 rfl]
      by_cases hs : skp n t Rp < n ∧ t (skp n t Rp) = 59
      · simp only [if_pos hs]
        refine ⟨fun x hx => (by cases hx), fun p' D' v' hx => ?_⟩
        cases hx
        rfl
      · simp only [if_neg hs]
        refine ⟨fun x hx => ?_, fun p' D' v' hx => by cases hx⟩
        cases hx
        exact ⟨iN D, Rv, rfl⟩
  · simp only [if_pos hk]
    simp only [iF]
    refine ⟨fun x hx => ?_, fun p' D' v' hx => by cases hx⟩
    cases hx
    exact ⟨-1, v, rfl⟩
end MR
