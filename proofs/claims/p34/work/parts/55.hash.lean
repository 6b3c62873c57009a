/-! TEXTS: a word and its number to the base 27. Written by wip/whole/pure/p55.py -/
def hsh (t : Nat → Nat) (s : Nat) : Nat → Nat
  | 0 => 0
  | k + 1 => hsh t s k * 27 + t (s + k) - 96
theorem wm_iff {t : Nat → Nat} {s l d : Nat} : wmt t s l d = true ↔ slen d = l ∧ ∀ j, j < slen d → iN (t (s + j)) = sby d j := by
  unfold wmt
  by_cases h : slen d = l
  · rw [if_pos h]
    constructor
    · intro q
      refine ⟨h, fun j hj => ?_⟩
      cases hb : anyN (fun j => if iN (t (s + j)) = sby d j then false else true) (slen d) 0
      · by_cases g : iN (t (s + j)) = sby d j
        · exact g
        · exfalso
          have : anyN (fun j => if iN (t (s + j)) = sby d j then false else true) (slen d) 0 = true := (anyN_t _ _).mpr ⟨j, Nat.zero_le _, by omega, if_neg g⟩
          rw [hb] at this; cases this
      · rw [hb] at q; cases q
    · rintro ⟨-, q⟩
      cases hb : anyN (fun j => if iN (t (s + j)) = sby d j then false else true) (slen d) 0
      · rfl
      · exfalso
        obtain ⟨j, -, hj, g⟩ := (anyN_t _ _).mp hb
        have g : (if iN (t (s + j)) = sby d j then false else true) = true := g
        rw [if_pos (q j (by omega))] at g
        cases g
  · rw [if_neg h]
    constructor
    · intro q; cases q
    · rintro ⟨q, -⟩; exact (h q).elim
theorem wh_0 {t : Nat → Nat} {s l : Nat} (hl : l ≤ 6) (hb : ∀ j, j < l → 97 ≤ t (s + j) ∧ t (s + j) ≤ 122) : wmt t s l 0 = true ↔ hsh t s l = 307058 := by
  rw [wm_iff]
  have e : slen 0 = 4 := by decide
  rw [e]
  constructor
  · rintro ⟨rfl, h⟩
    have h0 : t (s + 0) = 111 := (iN_eq (b := 111) (by have := hb 0 (by decide); omega) (by decide)).mp (h 0 (by decide))
    have h1 : t (s + 1) = 112 := (iN_eq (b := 112) (by have := hb 1 (by decide); omega) (by decide)).mp (h 1 (by decide))
    have h2 : t (s + 2) = 101 := (iN_eq (b := 101) (by have := hb 2 (by decide); omega) (by decide)).mp (h 2 (by decide))
    have h3 : t (s + 3) = 110 := (iN_eq (b := 110) (by have := hb 3 (by decide); omega) (by decide)).mp (h 3 (by decide))
    show ((((0 * 27 + t (s + 0) - 96) * 27 + t (s + 1) - 96) * 27 + t (s + 2) - 96) * 27 + t (s + 3) - 96) = 307058
    rw [h0, h1, h2, h3]
  · intro h
    rcases (by omega : l = 0 ∨ l = 1 ∨ l = 2 ∨ l = 3 ∨ l = 4 ∨ l = 5 ∨ l = 6) with rfl | rfl | rfl | rfl | rfl | rfl | rfl
    · have h : 0 = 307058 := h
      exfalso; omega
    · have h : (0 * 27 + t (s + 0) - 96) = 307058 := h
      have b0 := hb 0 (by decide)
      exfalso; omega
    · have h : ((0 * 27 + t (s + 0) - 96) * 27 + t (s + 1) - 96) = 307058 := h
      have b0 := hb 0 (by decide)
      have b1 := hb 1 (by decide)
      exfalso; omega
    · have h : (((0 * 27 + t (s + 0) - 96) * 27 + t (s + 1) - 96) * 27 + t (s + 2) - 96) = 307058 := h
      have b0 := hb 0 (by decide)
      have b1 := hb 1 (by decide)
      have b2 := hb 2 (by decide)
      exfalso; omega
    · have h : ((((0 * 27 + t (s + 0) - 96) * 27 + t (s + 1) - 96) * 27 + t (s + 2) - 96) * 27 + t (s + 3) - 96) = 307058 := h
      have b0 := hb 0 (by decide)
      have b1 := hb 1 (by decide)
      have b2 := hb 2 (by decide)
      have b3 := hb 3 (by decide)
      refine ⟨rfl, fun j hj => ?_⟩
      have e0 : t (s + 0) = 111 := by omega
      have e1 : t (s + 1) = 112 := by omega
      have e2 : t (s + 2) = 101 := by omega
      have e3 : t (s + 3) = 110 := by omega
      rcases (by omega : j = 0 ∨ j = 1 ∨ j = 2 ∨ j = 3) with rfl | rfl | rfl | rfl
      · rw [e0]; rfl
      · rw [e1]; rfl
      · rw [e2]; rfl
      · rw [e3]; rfl
    · have h : (((((0 * 27 + t (s + 0) - 96) * 27 + t (s + 1) - 96) * 27 + t (s + 2) - 96) * 27 + t (s + 3) - 96) * 27 + t (s + 4) - 96) = 307058 := h
      have b0 := hb 0 (by decide)
      have b1 := hb 1 (by decide)
      have b2 := hb 2 (by decide)
      have b3 := hb 3 (by decide)
      have b4 := hb 4 (by decide)
      exfalso; omega
    · have h : ((((((0 * 27 + t (s + 0) - 96) * 27 + t (s + 1) - 96) * 27 + t (s + 2) - 96) * 27 + t (s + 3) - 96) * 27 + t (s + 4) - 96) * 27 + t (s + 5) - 96) = 307058 := h
      have b0 := hb 0 (by decide)
      have b1 := hb 1 (by decide)
      have b2 := hb 2 (by decide)
      have b3 := hb 3 (by decide)
      have b4 := hb 4 (by decide)
      have b5 := hb 5 (by decide)
      exfalso; omega
theorem wh_1 {t : Nat → Nat} {s l : Nat} (hl : l ≤ 6) (hb : ∀ j, j < l → 97 ≤ t (s + j) ∧ t (s + j) ≤ 122) : wmt t s l 1 = true ↔ hsh t s l = 1841972 := by
  rw [wm_iff]
  have e : slen 1 = 5 := by decide
  rw [e]
  constructor
  · rintro ⟨rfl, h⟩
    have h0 : t (s + 0) = 99 := (iN_eq (b := 99) (by have := hb 0 (by decide); omega) (by decide)).mp (h 0 (by decide))
    have h1 : t (s + 1) = 108 := (iN_eq (b := 108) (by have := hb 1 (by decide); omega) (by decide)).mp (h 1 (by decide))
    have h2 : t (s + 2) = 111 := (iN_eq (b := 111) (by have := hb 2 (by decide); omega) (by decide)).mp (h 2 (by decide))
    have h3 : t (s + 3) = 115 := (iN_eq (b := 115) (by have := hb 3 (by decide); omega) (by decide)).mp (h 3 (by decide))
    have h4 : t (s + 4) = 101 := (iN_eq (b := 101) (by have := hb 4 (by decide); omega) (by decide)).mp (h 4 (by decide))
    show (((((0 * 27 + t (s + 0) - 96) * 27 + t (s + 1) - 96) * 27 + t (s + 2) - 96) * 27 + t (s + 3) - 96) * 27 + t (s + 4) - 96) = 1841972
    rw [h0, h1, h2, h3, h4]
  · intro h
    rcases (by omega : l = 0 ∨ l = 1 ∨ l = 2 ∨ l = 3 ∨ l = 4 ∨ l = 5 ∨ l = 6) with rfl | rfl | rfl | rfl | rfl | rfl | rfl
    · have h : 0 = 1841972 := h
      exfalso; omega
    · have h : (0 * 27 + t (s + 0) - 96) = 1841972 := h
      have b0 := hb 0 (by decide)
      exfalso; omega
    · have h : ((0 * 27 + t (s + 0) - 96) * 27 + t (s + 1) - 96) = 1841972 := h
      have b0 := hb 0 (by decide)
      have b1 := hb 1 (by decide)
      exfalso; omega
    · have h : (((0 * 27 + t (s + 0) - 96) * 27 + t (s + 1) - 96) * 27 + t (s + 2) - 96) = 1841972 := h
      have b0 := hb 0 (by decide)
      have b1 := hb 1 (by decide)
      have b2 := hb 2 (by decide)
      exfalso; omega
    · have h : ((((0 * 27 + t (s + 0) - 96) * 27 + t (s + 1) - 96) * 27 + t (s + 2) - 96) * 27 + t (s + 3) - 96) = 1841972 := h
      have b0 := hb 0 (by decide)
      have b1 := hb 1 (by decide)
      have b2 := hb 2 (by decide)
      have b3 := hb 3 (by decide)
      exfalso; omega
    · have h : (((((0 * 27 + t (s + 0) - 96) * 27 + t (s + 1) - 96) * 27 + t (s + 2) - 96) * 27 + t (s + 3) - 96) * 27 + t (s + 4) - 96) = 1841972 := h
      have b0 := hb 0 (by decide)
      have b1 := hb 1 (by decide)
      have b2 := hb 2 (by decide)
      have b3 := hb 3 (by decide)
      have b4 := hb 4 (by decide)
      refine ⟨rfl, fun j hj => ?_⟩
      have e0 : t (s + 0) = 99 := by omega
      have e1 : t (s + 1) = 108 := by omega
      have e2 : t (s + 2) = 111 := by omega
      have e3 : t (s + 3) = 115 := by omega
      have e4 : t (s + 4) = 101 := by omega
      rcases (by omega : j = 0 ∨ j = 1 ∨ j = 2 ∨ j = 3 ∨ j = 4) with rfl | rfl | rfl | rfl | rfl
      · rw [e0]; rfl
      · rw [e1]; rfl
      · rw [e2]; rfl
      · rw [e3]; rfl
      · rw [e4]; rfl
    · have h : ((((((0 * 27 + t (s + 0) - 96) * 27 + t (s + 1) - 96) * 27 + t (s + 2) - 96) * 27 + t (s + 3) - 96) * 27 + t (s + 4) - 96) * 27 + t (s + 5) - 96) = 1841972 := h
      have b0 := hb 0 (by decide)
      have b1 := hb 1 (by decide)
      have b2 := hb 2 (by decide)
      have b3 := hb 3 (by decide)
      have b4 := hb 4 (by decide)
      have b5 := hb 5 (by decide)
      exfalso; omega
theorem wh_2 {t : Nat → Nat} {s l : Nat} (hl : l ≤ 6) (hb : ∀ j, j < l → 97 ≤ t (s + j) ∧ t (s + j) ≤ 122) : wmt t s l 2 = true ↔ hsh t s l = 279740 := by
  rw [wm_iff]
  have e : slen 2 = 4 := by decide
  rw [e]
  constructor
  · rintro ⟨rfl, h⟩
    have h0 : t (s + 0) = 110 := (iN_eq (b := 110) (by have := hb 0 (by decide); omega) (by decide)).mp (h 0 (by decide))
    have h1 : t (s + 1) = 101 := (iN_eq (b := 101) (by have := hb 1 (by decide); omega) (by decide)).mp (h 1 (by decide))
    have h2 : t (s + 2) = 115 := (iN_eq (b := 115) (by have := hb 2 (by decide); omega) (by decide)).mp (h 2 (by decide))
    have h3 : t (s + 3) = 116 := (iN_eq (b := 116) (by have := hb 3 (by decide); omega) (by decide)).mp (h 3 (by decide))
    show ((((0 * 27 + t (s + 0) - 96) * 27 + t (s + 1) - 96) * 27 + t (s + 2) - 96) * 27 + t (s + 3) - 96) = 279740
    rw [h0, h1, h2, h3]
  · intro h
    rcases (by omega : l = 0 ∨ l = 1 ∨ l = 2 ∨ l = 3 ∨ l = 4 ∨ l = 5 ∨ l = 6) with rfl | rfl | rfl | rfl | rfl | rfl | rfl
    · have h : 0 = 279740 := h
      exfalso; omega
    · have h : (0 * 27 + t (s + 0) - 96) = 279740 := h
      have b0 := hb 0 (by decide)
      exfalso; omega
    · have h : ((0 * 27 + t (s + 0) - 96) * 27 + t (s + 1) - 96) = 279740 := h
      have b0 := hb 0 (by decide)
      have b1 := hb 1 (by decide)
      exfalso; omega
    · have h : (((0 * 27 + t (s + 0) - 96) * 27 + t (s + 1) - 96) * 27 + t (s + 2) - 96) = 279740 := h
      have b0 := hb 0 (by decide)
      have b1 := hb 1 (by decide)
      have b2 := hb 2 (by decide)
      exfalso; omega
    · have h : ((((0 * 27 + t (s + 0) - 96) * 27 + t (s + 1) - 96) * 27 + t (s + 2) - 96) * 27 + t (s + 3) - 96) = 279740 := h
      have b0 := hb 0 (by decide)
      have b1 := hb 1 (by decide)
      have b2 := hb 2 (by decide)
      have b3 := hb 3 (by decide)
      refine ⟨rfl, fun j hj => ?_⟩
      have e0 : t (s + 0) = 110 := by omega
      have e1 : t (s + 1) = 101 := by omega
      have e2 : t (s + 2) = 115 := by omega
      have e3 : t (s + 3) = 116 := by omega
      rcases (by omega : j = 0 ∨ j = 1 ∨ j = 2 ∨ j = 3) with rfl | rfl | rfl | rfl
      · rw [e0]; rfl
      · rw [e1]; rfl
      · rw [e2]; rfl
      · rw [e3]; rfl
    · have h : (((((0 * 27 + t (s + 0) - 96) * 27 + t (s + 1) - 96) * 27 + t (s + 2) - 96) * 27 + t (s + 3) - 96) * 27 + t (s + 4) - 96) = 279740 := h
      have b0 := hb 0 (by decide)
      have b1 := hb 1 (by decide)
      have b2 := hb 2 (by decide)
      have b3 := hb 3 (by decide)
      have b4 := hb 4 (by decide)
      exfalso; omega
    · have h : ((((((0 * 27 + t (s + 0) - 96) * 27 + t (s + 1) - 96) * 27 + t (s + 2) - 96) * 27 + t (s + 3) - 96) * 27 + t (s + 4) - 96) * 27 + t (s + 5) - 96) = 279740 := h
      have b0 := hb 0 (by decide)
      have b1 := hb 1 (by decide)
      have b2 := hb 2 (by decide)
      have b3 := hb 3 (by decide)
      have b4 := hb 4 (by decide)
      have b5 := hb 5 (by decide)
      exfalso; omega
theorem wh_3 {t : Nat → Nat} {s l : Nat} (hl : l ≤ 6) (hb : ∀ j, j < l → 97 ≤ t (s + j) ∧ t (s + j) ≤ 122) : wmt t s l 3 = true ↔ hsh t s l = 11522 := by
  rw [wm_iff]
  have e : slen 3 = 3 := by decide
  rw [e]
  constructor
  · rintro ⟨rfl, h⟩
    have h0 : t (s + 0) = 111 := (iN_eq (b := 111) (by have := hb 0 (by decide); omega) (by decide)).mp (h 0 (by decide))
    have h1 : t (s + 1) = 117 := (iN_eq (b := 117) (by have := hb 1 (by decide); omega) (by decide)).mp (h 1 (by decide))
    have h2 : t (s + 2) = 116 := (iN_eq (b := 116) (by have := hb 2 (by decide); omega) (by decide)).mp (h 2 (by decide))
    show (((0 * 27 + t (s + 0) - 96) * 27 + t (s + 1) - 96) * 27 + t (s + 2) - 96) = 11522
    rw [h0, h1, h2]
  · intro h
    rcases (by omega : l = 0 ∨ l = 1 ∨ l = 2 ∨ l = 3 ∨ l = 4 ∨ l = 5 ∨ l = 6) with rfl | rfl | rfl | rfl | rfl | rfl | rfl
    · have h : 0 = 11522 := h
      exfalso; omega
    · have h : (0 * 27 + t (s + 0) - 96) = 11522 := h
      have b0 := hb 0 (by decide)
      exfalso; omega
    · have h : ((0 * 27 + t (s + 0) - 96) * 27 + t (s + 1) - 96) = 11522 := h
      have b0 := hb 0 (by decide)
      have b1 := hb 1 (by decide)
      exfalso; omega
    · have h : (((0 * 27 + t (s + 0) - 96) * 27 + t (s + 1) - 96) * 27 + t (s + 2) - 96) = 11522 := h
      have b0 := hb 0 (by decide)
      have b1 := hb 1 (by decide)
      have b2 := hb 2 (by decide)
      refine ⟨rfl, fun j hj => ?_⟩
      have e0 : t (s + 0) = 111 := by omega
      have e1 : t (s + 1) = 117 := by omega
      have e2 : t (s + 2) = 116 := by omega
      rcases (by omega : j = 0 ∨ j = 1 ∨ j = 2) with rfl | rfl | rfl
      · rw [e0]; rfl
      · rw [e1]; rfl
      · rw [e2]; rfl
    · have h : ((((0 * 27 + t (s + 0) - 96) * 27 + t (s + 1) - 96) * 27 + t (s + 2) - 96) * 27 + t (s + 3) - 96) = 11522 := h
      have b0 := hb 0 (by decide)
      have b1 := hb 1 (by decide)
      have b2 := hb 2 (by decide)
      have b3 := hb 3 (by decide)
      exfalso; omega
    · have h : (((((0 * 27 + t (s + 0) - 96) * 27 + t (s + 1) - 96) * 27 + t (s + 2) - 96) * 27 + t (s + 3) - 96) * 27 + t (s + 4) - 96) = 11522 := h
      have b0 := hb 0 (by decide)
      have b1 := hb 1 (by decide)
      have b2 := hb 2 (by decide)
      have b3 := hb 3 (by decide)
      have b4 := hb 4 (by decide)
      exfalso; omega
    · have h : ((((((0 * 27 + t (s + 0) - 96) * 27 + t (s + 1) - 96) * 27 + t (s + 2) - 96) * 27 + t (s + 3) - 96) * 27 + t (s + 4) - 96) * 27 + t (s + 5) - 96) = 11522 := h
      have b0 := hb 0 (by decide)
      have b1 := hb 1 (by decide)
      have b2 := hb 2 (by decide)
      have b3 := hb 3 (by decide)
      have b4 := hb 4 (by decide)
      have b5 := hb 5 (by decide)
      exfalso; omega
theorem wh_4 {t : Nat → Nat} {s l : Nat} (hl : l ≤ 6) (hb : ∀ j, j < l → 97 ≤ t (s + j) ∧ t (s + j) ≤ 122) : wmt t s l 4 = true ↔ hsh t s l = 315749 := by
  rw [wm_iff]
  have e : slen 4 = 4 := by decide
  rw [e]
  constructor
  · rintro ⟨rfl, h⟩
    have h0 : t (s + 0) = 112 := (iN_eq (b := 112) (by have := hb 0 (by decide); omega) (by decide)).mp (h 0 (by decide))
    have h1 : t (s + 1) = 97 := (iN_eq (b := 97) (by have := hb 1 (by decide); omega) (by decide)).mp (h 1 (by decide))
    have h2 : t (s + 2) = 99 := (iN_eq (b := 99) (by have := hb 2 (by decide); omega) (by decide)).mp (h 2 (by decide))
    have h3 : t (s + 3) = 107 := (iN_eq (b := 107) (by have := hb 3 (by decide); omega) (by decide)).mp (h 3 (by decide))
    show ((((0 * 27 + t (s + 0) - 96) * 27 + t (s + 1) - 96) * 27 + t (s + 2) - 96) * 27 + t (s + 3) - 96) = 315749
    rw [h0, h1, h2, h3]
  · intro h
    rcases (by omega : l = 0 ∨ l = 1 ∨ l = 2 ∨ l = 3 ∨ l = 4 ∨ l = 5 ∨ l = 6) with rfl | rfl | rfl | rfl | rfl | rfl | rfl
    · have h : 0 = 315749 := h
      exfalso; omega
    · have h : (0 * 27 + t (s + 0) - 96) = 315749 := h
      have b0 := hb 0 (by decide)
      exfalso; omega
    · have h : ((0 * 27 + t (s + 0) - 96) * 27 + t (s + 1) - 96) = 315749 := h
      have b0 := hb 0 (by decide)
      have b1 := hb 1 (by decide)
      exfalso; omega
    · have h : (((0 * 27 + t (s + 0) - 96) * 27 + t (s + 1) - 96) * 27 + t (s + 2) - 96) = 315749 := h
      have b0 := hb 0 (by decide)
      have b1 := hb 1 (by decide)
      have b2 := hb 2 (by decide)
      exfalso; omega
    · have h : ((((0 * 27 + t (s + 0) - 96) * 27 + t (s + 1) - 96) * 27 + t (s + 2) - 96) * 27 + t (s + 3) - 96) = 315749 := h
      have b0 := hb 0 (by decide)
      have b1 := hb 1 (by decide)
      have b2 := hb 2 (by decide)
      have b3 := hb 3 (by decide)
      refine ⟨rfl, fun j hj => ?_⟩
      have e0 : t (s + 0) = 112 := by omega
      have e1 : t (s + 1) = 97 := by omega
      have e2 : t (s + 2) = 99 := by omega
      have e3 : t (s + 3) = 107 := by omega
      rcases (by omega : j = 0 ∨ j = 1 ∨ j = 2 ∨ j = 3) with rfl | rfl | rfl | rfl
      · rw [e0]; rfl
      · rw [e1]; rfl
      · rw [e2]; rfl
      · rw [e3]; rfl
    · have h : (((((0 * 27 + t (s + 0) - 96) * 27 + t (s + 1) - 96) * 27 + t (s + 2) - 96) * 27 + t (s + 3) - 96) * 27 + t (s + 4) - 96) = 315749 := h
      have b0 := hb 0 (by decide)
      have b1 := hb 1 (by decide)
      have b2 := hb 2 (by decide)
      have b3 := hb 3 (by decide)
      have b4 := hb 4 (by decide)
      exfalso; omega
    · have h : ((((((0 * 27 + t (s + 0) - 96) * 27 + t (s + 1) - 96) * 27 + t (s + 2) - 96) * 27 + t (s + 3) - 96) * 27 + t (s + 4) - 96) * 27 + t (s + 5) - 96) = 315749 := h
      have b0 := hb 0 (by decide)
      have b1 := hb 1 (by decide)
      have b2 := hb 2 (by decide)
      have b3 := hb 3 (by decide)
      have b4 := hb 4 (by decide)
      have b5 := hb 5 (by decide)
      exfalso; omega
theorem wh_5 {t : Nat → Nat} {s l : Nat} (hl : l ≤ 6) (hb : ∀ j, j < l → 97 ≤ t (s + j) ∧ t (s + j) ≤ 122) : wmt t s l 5 = true ↔ hsh t s l = 309082970 := by
  rw [wm_iff]
  have e : slen 5 = 6 := by decide
  rw [e]
  constructor
  · rintro ⟨rfl, h⟩
    have h0 : t (s + 0) = 117 := (iN_eq (b := 117) (by have := hb 0 (by decide); omega) (by decide)).mp (h 0 (by decide))
    have h1 : t (s + 1) = 110 := (iN_eq (b := 110) (by have := hb 1 (by decide); omega) (by decide)).mp (h 1 (by decide))
    have h2 : t (s + 2) = 112 := (iN_eq (b := 112) (by have := hb 2 (by decide); omega) (by decide)).mp (h 2 (by decide))
    have h3 : t (s + 3) = 97 := (iN_eq (b := 97) (by have := hb 3 (by decide); omega) (by decide)).mp (h 3 (by decide))
    have h4 : t (s + 4) = 99 := (iN_eq (b := 99) (by have := hb 4 (by decide); omega) (by decide)).mp (h 4 (by decide))
    have h5 : t (s + 5) = 107 := (iN_eq (b := 107) (by have := hb 5 (by decide); omega) (by decide)).mp (h 5 (by decide))
    show ((((((0 * 27 + t (s + 0) - 96) * 27 + t (s + 1) - 96) * 27 + t (s + 2) - 96) * 27 + t (s + 3) - 96) * 27 + t (s + 4) - 96) * 27 + t (s + 5) - 96) = 309082970
    rw [h0, h1, h2, h3, h4, h5]
  · intro h
    rcases (by omega : l = 0 ∨ l = 1 ∨ l = 2 ∨ l = 3 ∨ l = 4 ∨ l = 5 ∨ l = 6) with rfl | rfl | rfl | rfl | rfl | rfl | rfl
    · have h : 0 = 309082970 := h
      exfalso; omega
    · have h : (0 * 27 + t (s + 0) - 96) = 309082970 := h
      have b0 := hb 0 (by decide)
      exfalso; omega
    · have h : ((0 * 27 + t (s + 0) - 96) * 27 + t (s + 1) - 96) = 309082970 := h
      have b0 := hb 0 (by decide)
      have b1 := hb 1 (by decide)
      exfalso; omega
    · have h : (((0 * 27 + t (s + 0) - 96) * 27 + t (s + 1) - 96) * 27 + t (s + 2) - 96) = 309082970 := h
      have b0 := hb 0 (by decide)
      have b1 := hb 1 (by decide)
      have b2 := hb 2 (by decide)
      exfalso; omega
    · have h : ((((0 * 27 + t (s + 0) - 96) * 27 + t (s + 1) - 96) * 27 + t (s + 2) - 96) * 27 + t (s + 3) - 96) = 309082970 := h
      have b0 := hb 0 (by decide)
      have b1 := hb 1 (by decide)
      have b2 := hb 2 (by decide)
      have b3 := hb 3 (by decide)
      exfalso; omega
    · have h : (((((0 * 27 + t (s + 0) - 96) * 27 + t (s + 1) - 96) * 27 + t (s + 2) - 96) * 27 + t (s + 3) - 96) * 27 + t (s + 4) - 96) = 309082970 := h
      have b0 := hb 0 (by decide)
      have b1 := hb 1 (by decide)
      have b2 := hb 2 (by decide)
      have b3 := hb 3 (by decide)
      have b4 := hb 4 (by decide)
      exfalso; omega
    · have h : ((((((0 * 27 + t (s + 0) - 96) * 27 + t (s + 1) - 96) * 27 + t (s + 2) - 96) * 27 + t (s + 3) - 96) * 27 + t (s + 4) - 96) * 27 + t (s + 5) - 96) = 309082970 := h
      have b0 := hb 0 (by decide)
      have b1 := hb 1 (by decide)
      have b2 := hb 2 (by decide)
      have b3 := hb 3 (by decide)
      have b4 := hb 4 (by decide)
      have b5 := hb 5 (by decide)
      refine ⟨rfl, fun j hj => ?_⟩
      have e0 : t (s + 0) = 117 := by omega
      have e1 : t (s + 1) = 110 := by omega
      have e2 : t (s + 2) = 112 := by omega
      have e3 : t (s + 3) = 97 := by omega
      have e4 : t (s + 4) = 99 := by omega
      have e5 : t (s + 5) = 107 := by omega
      rcases (by omega : j = 0 ∨ j = 1 ∨ j = 2 ∨ j = 3 ∨ j = 4 ∨ j = 5) with rfl | rfl | rfl | rfl | rfl | rfl
      · rw [e0]; rfl
      · rw [e1]; rfl
      · rw [e2]; rfl
      · rw [e3]; rfl
      · rw [e4]; rfl
      · rw [e5]; rfl
theorem wh_6 {t : Nat → Nat} {s l : Nat} (hl : l ≤ 6) (hb : ∀ j, j < l → 97 ≤ t (s + j) ∧ t (s + j) ≤ 122) : wmt t s l 6 = true ↔ hsh t s l = 378004 := by
  rw [wm_iff]
  have e : slen 6 = 4 := by decide
  rw [e]
  constructor
  · rintro ⟨rfl, h⟩
    have h0 : t (s + 0) = 115 := (iN_eq (b := 115) (by have := hb 0 (by decide); omega) (by decide)).mp (h 0 (by decide))
    have h1 : t (s + 1) = 101 := (iN_eq (b := 101) (by have := hb 1 (by decide); omega) (by decide)).mp (h 1 (by decide))
    have h2 : t (s + 2) = 110 := (iN_eq (b := 110) (by have := hb 2 (by decide); omega) (by decide)).mp (h 2 (by decide))
    have h3 : t (s + 3) = 100 := (iN_eq (b := 100) (by have := hb 3 (by decide); omega) (by decide)).mp (h 3 (by decide))
    show ((((0 * 27 + t (s + 0) - 96) * 27 + t (s + 1) - 96) * 27 + t (s + 2) - 96) * 27 + t (s + 3) - 96) = 378004
    rw [h0, h1, h2, h3]
  · intro h
    rcases (by omega : l = 0 ∨ l = 1 ∨ l = 2 ∨ l = 3 ∨ l = 4 ∨ l = 5 ∨ l = 6) with rfl | rfl | rfl | rfl | rfl | rfl | rfl
    · have h : 0 = 378004 := h
      exfalso; omega
    · have h : (0 * 27 + t (s + 0) - 96) = 378004 := h
      have b0 := hb 0 (by decide)
      exfalso; omega
    · have h : ((0 * 27 + t (s + 0) - 96) * 27 + t (s + 1) - 96) = 378004 := h
      have b0 := hb 0 (by decide)
      have b1 := hb 1 (by decide)
      exfalso; omega
    · have h : (((0 * 27 + t (s + 0) - 96) * 27 + t (s + 1) - 96) * 27 + t (s + 2) - 96) = 378004 := h
      have b0 := hb 0 (by decide)
      have b1 := hb 1 (by decide)
      have b2 := hb 2 (by decide)
      exfalso; omega
    · have h : ((((0 * 27 + t (s + 0) - 96) * 27 + t (s + 1) - 96) * 27 + t (s + 2) - 96) * 27 + t (s + 3) - 96) = 378004 := h
      have b0 := hb 0 (by decide)
      have b1 := hb 1 (by decide)
      have b2 := hb 2 (by decide)
      have b3 := hb 3 (by decide)
      refine ⟨rfl, fun j hj => ?_⟩
      have e0 : t (s + 0) = 115 := by omega
      have e1 : t (s + 1) = 101 := by omega
      have e2 : t (s + 2) = 110 := by omega
      have e3 : t (s + 3) = 100 := by omega
      rcases (by omega : j = 0 ∨ j = 1 ∨ j = 2 ∨ j = 3) with rfl | rfl | rfl | rfl
      · rw [e0]; rfl
      · rw [e1]; rfl
      · rw [e2]; rfl
      · rw [e3]; rfl
    · have h : (((((0 * 27 + t (s + 0) - 96) * 27 + t (s + 1) - 96) * 27 + t (s + 2) - 96) * 27 + t (s + 3) - 96) * 27 + t (s + 4) - 96) = 378004 := h
      have b0 := hb 0 (by decide)
      have b1 := hb 1 (by decide)
      have b2 := hb 2 (by decide)
      have b3 := hb 3 (by decide)
      have b4 := hb 4 (by decide)
      exfalso; omega
    · have h : ((((((0 * 27 + t (s + 0) - 96) * 27 + t (s + 1) - 96) * 27 + t (s + 2) - 96) * 27 + t (s + 3) - 96) * 27 + t (s + 4) - 96) * 27 + t (s + 5) - 96) = 378004 := h
      have b0 := hb 0 (by decide)
      have b1 := hb 1 (by decide)
      have b2 := hb 2 (by decide)
      have b3 := hb 3 (by decide)
      have b4 := hb 4 (by decide)
      have b5 := hb 5 (by decide)
      exfalso; omega
theorem wh_7 {t : Nat → Nat} {s l : Nat} (hl : l ≤ 6) (hb : ∀ j, j < l → 97 ≤ t (s + j) ∧ t (s + j) ≤ 122) : wmt t s l 7 = true ↔ hsh t s l = 81912404 := by
  rw [wm_iff]
  have e : slen 7 = 6 := by decide
  rw [e]
  constructor
  · rintro ⟨rfl, h⟩
    have h0 : t (s + 0) = 101 := (iN_eq (b := 101) (by have := hb 0 (by decide); omega) (by decide)).mp (h 0 (by decide))
    have h1 : t (s + 1) = 115 := (iN_eq (b := 115) (by have := hb 1 (by decide); omega) (by decide)).mp (h 1 (by decide))
    have h2 : t (s + 2) = 99 := (iN_eq (b := 99) (by have := hb 2 (by decide); omega) (by decide)).mp (h 2 (by decide))
    have h3 : t (s + 3) = 111 := (iN_eq (b := 111) (by have := hb 3 (by decide); omega) (by decide)).mp (h 3 (by decide))
    have h4 : t (s + 4) = 114 := (iN_eq (b := 114) (by have := hb 4 (by decide); omega) (by decide)).mp (h 4 (by decide))
    have h5 : t (s + 5) = 116 := (iN_eq (b := 116) (by have := hb 5 (by decide); omega) (by decide)).mp (h 5 (by decide))
    show ((((((0 * 27 + t (s + 0) - 96) * 27 + t (s + 1) - 96) * 27 + t (s + 2) - 96) * 27 + t (s + 3) - 96) * 27 + t (s + 4) - 96) * 27 + t (s + 5) - 96) = 81912404
    rw [h0, h1, h2, h3, h4, h5]
  · intro h
    rcases (by omega : l = 0 ∨ l = 1 ∨ l = 2 ∨ l = 3 ∨ l = 4 ∨ l = 5 ∨ l = 6) with rfl | rfl | rfl | rfl | rfl | rfl | rfl
    · have h : 0 = 81912404 := h
      exfalso; omega
    · have h : (0 * 27 + t (s + 0) - 96) = 81912404 := h
      have b0 := hb 0 (by decide)
      exfalso; omega
    · have h : ((0 * 27 + t (s + 0) - 96) * 27 + t (s + 1) - 96) = 81912404 := h
      have b0 := hb 0 (by decide)
      have b1 := hb 1 (by decide)
      exfalso; omega
    · have h : (((0 * 27 + t (s + 0) - 96) * 27 + t (s + 1) - 96) * 27 + t (s + 2) - 96) = 81912404 := h
      have b0 := hb 0 (by decide)
      have b1 := hb 1 (by decide)
      have b2 := hb 2 (by decide)
      exfalso; omega
    · have h : ((((0 * 27 + t (s + 0) - 96) * 27 + t (s + 1) - 96) * 27 + t (s + 2) - 96) * 27 + t (s + 3) - 96) = 81912404 := h
      have b0 := hb 0 (by decide)
      have b1 := hb 1 (by decide)
      have b2 := hb 2 (by decide)
      have b3 := hb 3 (by decide)
      exfalso; omega
    · have h : (((((0 * 27 + t (s + 0) - 96) * 27 + t (s + 1) - 96) * 27 + t (s + 2) - 96) * 27 + t (s + 3) - 96) * 27 + t (s + 4) - 96) = 81912404 := h
      have b0 := hb 0 (by decide)
      have b1 := hb 1 (by decide)
      have b2 := hb 2 (by decide)
      have b3 := hb 3 (by decide)
      have b4 := hb 4 (by decide)
      exfalso; omega
    · have h : ((((((0 * 27 + t (s + 0) - 96) * 27 + t (s + 1) - 96) * 27 + t (s + 2) - 96) * 27 + t (s + 3) - 96) * 27 + t (s + 4) - 96) * 27 + t (s + 5) - 96) = 81912404 := h
      have b0 := hb 0 (by decide)
      have b1 := hb 1 (by decide)
      have b2 := hb 2 (by decide)
      have b3 := hb 3 (by decide)
      have b4 := hb 4 (by decide)
      have b5 := hb 5 (by decide)
      refine ⟨rfl, fun j hj => ?_⟩
      have e0 : t (s + 0) = 101 := by omega
      have e1 : t (s + 1) = 115 := by omega
      have e2 : t (s + 2) = 99 := by omega
      have e3 : t (s + 3) = 111 := by omega
      have e4 : t (s + 4) = 114 := by omega
      have e5 : t (s + 5) = 116 := by omega
      rcases (by omega : j = 0 ∨ j = 1 ∨ j = 2 ∨ j = 3 ∨ j = 4 ∨ j = 5) with rfl | rfl | rfl | rfl | rfl | rfl
      · rw [e0]; rfl
      · rw [e1]; rfl
      · rw [e2]; rfl
      · rw [e3]; rfl
      · rw [e4]; rfl
      · rw [e5]; rfl
theorem wh_8 {t : Nat → Nat} {s l : Nat} (hl : l ≤ 6) (hb : ∀ j, j < l → 97 ≤ t (s + j) ∧ t (s + j) ≤ 122) : wmt t s l 8 = true ↔ hsh t s l = 453701 := by
  rw [wm_iff]
  have e : slen 8 = 4 := by decide
  rw [e]
  constructor
  · rintro ⟨rfl, h⟩
    have h0 : t (s + 0) = 119 := (iN_eq (b := 119) (by have := hb 0 (by decide); omega) (by decide)).mp (h 0 (by decide))
    have h1 : t (s + 1) = 97 := (iN_eq (b := 97) (by have := hb 1 (by decide); omega) (by decide)).mp (h 1 (by decide))
    have h2 : t (s + 2) = 105 := (iN_eq (b := 105) (by have := hb 2 (by decide); omega) (by decide)).mp (h 2 (by decide))
    have h3 : t (s + 3) = 116 := (iN_eq (b := 116) (by have := hb 3 (by decide); omega) (by decide)).mp (h 3 (by decide))
    show ((((0 * 27 + t (s + 0) - 96) * 27 + t (s + 1) - 96) * 27 + t (s + 2) - 96) * 27 + t (s + 3) - 96) = 453701
    rw [h0, h1, h2, h3]
  · intro h
    rcases (by omega : l = 0 ∨ l = 1 ∨ l = 2 ∨ l = 3 ∨ l = 4 ∨ l = 5 ∨ l = 6) with rfl | rfl | rfl | rfl | rfl | rfl | rfl
    · have h : 0 = 453701 := h
      exfalso; omega
    · have h : (0 * 27 + t (s + 0) - 96) = 453701 := h
      have b0 := hb 0 (by decide)
      exfalso; omega
    · have h : ((0 * 27 + t (s + 0) - 96) * 27 + t (s + 1) - 96) = 453701 := h
      have b0 := hb 0 (by decide)
      have b1 := hb 1 (by decide)
      exfalso; omega
    · have h : (((0 * 27 + t (s + 0) - 96) * 27 + t (s + 1) - 96) * 27 + t (s + 2) - 96) = 453701 := h
      have b0 := hb 0 (by decide)
      have b1 := hb 1 (by decide)
      have b2 := hb 2 (by decide)
      exfalso; omega
    · have h : ((((0 * 27 + t (s + 0) - 96) * 27 + t (s + 1) - 96) * 27 + t (s + 2) - 96) * 27 + t (s + 3) - 96) = 453701 := h
      have b0 := hb 0 (by decide)
      have b1 := hb 1 (by decide)
      have b2 := hb 2 (by decide)
      have b3 := hb 3 (by decide)
      refine ⟨rfl, fun j hj => ?_⟩
      have e0 : t (s + 0) = 119 := by omega
      have e1 : t (s + 1) = 97 := by omega
      have e2 : t (s + 2) = 105 := by omega
      have e3 : t (s + 3) = 116 := by omega
      rcases (by omega : j = 0 ∨ j = 1 ∨ j = 2 ∨ j = 3) with rfl | rfl | rfl | rfl
      · rw [e0]; rfl
      · rw [e1]; rfl
      · rw [e2]; rfl
      · rw [e3]; rfl
    · have h : (((((0 * 27 + t (s + 0) - 96) * 27 + t (s + 1) - 96) * 27 + t (s + 2) - 96) * 27 + t (s + 3) - 96) * 27 + t (s + 4) - 96) = 453701 := h
      have b0 := hb 0 (by decide)
      have b1 := hb 1 (by decide)
      have b2 := hb 2 (by decide)
      have b3 := hb 3 (by decide)
      have b4 := hb 4 (by decide)
      exfalso; omega
    · have h : ((((((0 * 27 + t (s + 0) - 96) * 27 + t (s + 1) - 96) * 27 + t (s + 2) - 96) * 27 + t (s + 3) - 96) * 27 + t (s + 4) - 96) * 27 + t (s + 5) - 96) = 453701 := h
      have b0 := hb 0 (by decide)
      have b1 := hb 1 (by decide)
      have b2 := hb 2 (by decide)
      have b3 := hb 3 (by decide)
      have b4 := hb 4 (by decide)
      have b5 := hb 5 (by decide)
      exfalso; omega
