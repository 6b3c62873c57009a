/-! CONSTRUCTORS: State -/
section IS
variable {l : Launch} {Γ : Gl} {G0 G : Gf} {a : Nat}
def lnd : Nat → Int32 := upd (upd (upd (fun _ => 0) 0 (-10)) 1 40) 2 90
def eState (a : Nat) : va_E := .inr (5, [.int 0, .int 100, .int 0, .int 0, .int 0, .int 0, .int 0, .int 0, .int 0, .ref (a + 1), .ref (a + 2), .ref (a + 3), .ref (a + 4), .ref (a + 5)])
def eNul : va_E := .inr (5, [.int 0, .int 0, .int 0, .int 0, .int 0, .int 0, .int 0, .int 0, .int 0, .null, .null, .null, .null, .null])
/-- a state in the making: v venues, c crates, w works, the rows of p lenders -/
def PS (Γ : Gl) (G0 : Gf) (a v c w p : Nat) (G : Gf) : Prop :=
  (∀ x, x < a → G x = G0 x) ∧ G a = some (eState a) ∧
  (∃ f, G (a + 1) = some (.inl (Γ.2.1 5, 8, refsE f)) ∧ ∀ j, j < v → f j = some (a + 12 + 2 * j)) ∧
  (∃ f, G (a + 2) = some (.inl (Γ.2.1 3, 12, refsE f)) ∧ ∀ j, j < c → f j = some (a + 28 + j)) ∧
  (∃ f, G (a + 3) = some (.inl (Γ.2.1 6, 16, refsE f)) ∧ ∀ j, j < w → f j = some (a + 40 + 2 * j)) ∧
  G (a + 4) = some (.inl (Γ.2.1 1, 4, .inl fun _ => 0)) ∧
  (∃ f, G (a + 5) = some (.inl (Γ.2.1 7, 6, refsE f)) ∧ ∀ j, j < 6 → f j = some (a + 6 + j)) ∧
  (∀ j, j < 6 → G (a + 6 + j) = some (.inl (Γ.2.1 1, 4, .inl (if j < p then lnd else fun _ => 0)))) ∧
  (∀ j, j < v → G (a + 12 + 2 * j) = some (eVenue (a + 12 + 2 * j + 1)) ∧ G (a + 12 + 2 * j + 1) = some (.inl (Γ.2.1 1, 8, .inl fun _ => 0))) ∧
  (∀ j, j < c → G (a + 28 + j) = some eCrate) ∧
  (∀ j, j < w → G (a + 40 + 2 * j) = some (eWork (a + 40 + 2 * j + 1)) ∧ G (a + 40 + 2 * j + 1) = some (.inl (Γ.2.1 1, 10, .inl fun _ => 0)))
theorem PS.venue {v : Nat} (h : PS Γ G0 a v 0 0 0 G) (hv : v < 8) {f : Nat → Option Nat} (hf : ∀ j, j < v → f j = some (a + 12 + 2 * j)) : PS Γ G0 a (v + 1) 0 0 0 (updG (updG (updG (updG G (a + 12 + 2 * v) (.inr (8, [.int 0, .int 0, .int 0, .int 0, .int 0, .null]))) (a + 12 + 2 * v + 1) (.inl (Γ.2.1 1, 8, .inl fun _ => 0))) (a + 12 + 2 * v) (eVenue (a + 12 + 2 * v + 1))) (a + 1) (.inl (Γ.2.1 5, 8, refsE (va_up f v (some (a + 12 + 2 * v)))))) := by
  obtain ⟨h1, h2, h3, h4, h5, h6, h7, h8, h9, h10, h11⟩ := h
  refine ⟨fun x hx => ?_, ?_, ⟨_, updG_self, fun j hj => ?_⟩, ?_, ?_, ?_, ?_, fun j hj => ?_, fun j hj => ?_, fun j hj => by omega, fun j hj => by omega⟩
  · simp (disch := omega) only [updG_ne]; exact h1 x hx
  · simp (disch := omega) only [updG_ne]; exact h2
  · unfold va_up
    by_cases e : j = v
    · rw [if_pos e, e]
    · rw [if_neg e]; exact hf j (by omega)
  · simp (disch := omega) only [updG_ne]; exact h4
  · simp (disch := omega) only [updG_ne]; exact h5
  · simp (disch := omega) only [updG_ne]; exact h6
  · simp (disch := omega) only [updG_ne]; exact h7
  · simp (disch := omega) only [updG_ne]; exact h8 j hj
  · by_cases e : j = v
    · subst e
      simp (disch := omega) only [updG_ne, updG_self]
      exact ⟨trivial, trivial⟩
    · simp (disch := omega) only [updG_ne]; exact h9 j (by omega)
theorem PS.crate {c : Nat} (h : PS Γ G0 a 8 c 0 0 G) (hv : c < 12) {f : Nat → Option Nat} (hf : ∀ j, j < c → f j = some (a + 28 + j)) : PS Γ G0 a 8 (c + 1) 0 0 (updG (updG G (a + 28 + c) eCrate) (a + 2) (.inl (Γ.2.1 3, 12, refsE (va_up f c (some (a + 28 + c)))))) := by
  obtain ⟨h1, h2, h3, h4, h5, h6, h7, h8, h9, h10, h11⟩ := h
  refine ⟨fun x hx => ?_, ?_, ?_, ⟨_, updG_self, fun j hj => ?_⟩, ?_, ?_, ?_, fun j hj => ?_, fun j hj => ?_, fun j hj => ?_, fun j hj => by omega⟩
  · simp (disch := omega) only [updG_ne]; exact h1 x hx
  · simp (disch := omega) only [updG_ne]; exact h2
  · simp (disch := omega) only [updG_ne]; exact h3
  · unfold va_up
    by_cases e : j = c
    · rw [if_pos e, e]
    · rw [if_neg e]; exact hf j (by omega)
  · simp (disch := omega) only [updG_ne]; exact h5
  · simp (disch := omega) only [updG_ne]; exact h6
  · simp (disch := omega) only [updG_ne]; exact h7
  · simp (disch := omega) only [updG_ne]; exact h8 j hj
  · simp (disch := omega) only [updG_ne]; exact h9 j hj
  · by_cases e : j = c
    · subst e
      simp (disch := omega) only [updG_ne, updG_self]
    · simp (disch := omega) only [updG_ne]; exact h10 j (by omega)
theorem PS.work {w : Nat} (h : PS Γ G0 a 8 12 w 0 G) (hv : w < 16) {f : Nat → Option Nat} (hf : ∀ j, j < w → f j = some (a + 40 + 2 * j)) : PS Γ G0 a 8 12 (w + 1) 0 (updG (updG (updG (updG G (a + 40 + 2 * w) (.inr (9, [.int 0, .int 0, .int 0, .int 0, .int 0, .int 0, .int 0, .int 0, .null]))) (a + 40 + 2 * w + 1) (.inl (Γ.2.1 1, 10, .inl fun _ => 0))) (a + 40 + 2 * w) (eWork (a + 40 + 2 * w + 1))) (a + 3) (.inl (Γ.2.1 6, 16, refsE (va_up f w (some (a + 40 + 2 * w)))))) := by
  obtain ⟨h1, h2, h3, h4, h5, h6, h7, h8, h9, h10, h11⟩ := h
  refine ⟨fun x hx => ?_, ?_, ?_, ?_, ⟨_, updG_self, fun j hj => ?_⟩, ?_, ?_, fun j hj => ?_, fun j hj => ?_, fun j hj => ?_, fun j hj => ?_⟩
  · simp (disch := omega) only [updG_ne]; exact h1 x hx
  · simp (disch := omega) only [updG_ne]; exact h2
  · simp (disch := omega) only [updG_ne]; exact h3
  · simp (disch := omega) only [updG_ne]; exact h4
  · unfold va_up
    by_cases e : j = w
    · rw [if_pos e, e]
    · rw [if_neg e]; exact hf j (by omega)
  · simp (disch := omega) only [updG_ne]; exact h6
  · simp (disch := omega) only [updG_ne]; exact h7
  · simp (disch := omega) only [updG_ne]; exact h8 j hj
  · simp (disch := omega) only [updG_ne]; exact h9 j hj
  · simp (disch := omega) only [updG_ne]; exact h10 j hj
  · by_cases e : j = w
    · subst e
      simp (disch := omega) only [updG_ne, updG_self]
      exact ⟨trivial, trivial⟩
    · simp (disch := omega) only [updG_ne]; exact h11 j (by omega)
theorem PS.lender {p : Nat} (h : PS Γ G0 a 8 12 16 p G) (hv : p < 6) : PS Γ G0 a 8 12 16 (p + 1) (updG (updG (updG G (a + 6 + p) (.inl (Γ.2.1 1, 4, .inl (upd (fun _ => 0) 0 (-10))))) (a + 6 + p) (.inl (Γ.2.1 1, 4, .inl (upd (upd (fun _ => 0) 0 (-10)) 1 40)))) (a + 6 + p) (.inl (Γ.2.1 1, 4, .inl lnd))) := by
  obtain ⟨h1, h2, h3, h4, h5, h6, h7, h8, h9, h10, h11⟩ := h
  refine ⟨fun x hx => ?_, ?_, ?_, ?_, ?_, ?_, ?_, fun j hj => ?_, fun j hj => ?_, fun j hj => ?_, fun j hj => ?_⟩
  · simp (disch := omega) only [updG_ne]; exact h1 x hx
  · simp (disch := omega) only [updG_ne]; exact h2
  · simp (disch := omega) only [updG_ne]; exact h3
  · simp (disch := omega) only [updG_ne]; exact h4
  · simp (disch := omega) only [updG_ne]; exact h5
  · simp (disch := omega) only [updG_ne]; exact h6
  · simp (disch := omega) only [updG_ne]; exact h7
  · by_cases e : j = p
    · subst e
      rw [updG_self, if_pos (Nat.lt_succ_self _)]
    · simp (disch := omega) only [updG_ne]
      rw [h8 j hj]
      by_cases g : j < p
      · rw [if_pos g, if_pos (by omega)]
      · rw [if_neg g, if_neg (by omega)]
  · simp (disch := omega) only [updG_ne]; exact h9 j hj
  · simp (disch := omega) only [updG_ne]; exact h10 j hj
  · simp (disch := omega) only [updG_ne]; exact h11 j hj
/-- a state that is made -/
abbrev PSd (Γ : Gl) (G0 : Gf) (a : Nat) (G : Gf) : Prop := PS Γ G0 a 8 12 16 6 G
end IS
section IT
variable {X : Cx} {G0 : Gf} {a : Nat} {Ψ : Option Value → Gf → Nat → Prop}
theorem tX6_lenders (hx : Fx X cX6_init 2 RX6 2 71 606) (hnm : (xM X).name = "<init>") (hr : Rt X none 71 606 (fun r G' sz' => r = none ∧ sz' = a + 72 ∧ PSd (xΓ X) G0 a G')) : ∀ (k p : Nat) (G : Gf), p + k = 6 → PS (xΓ X) G0 a 8 12 16 p G → J X 2 G (a + 72) 71 606 138 [some (.ref a), some (.int (iN p))] [] := by
  intro k
  induction k with
  | zero =>
    intro p G hp h
    refine J_il4 hx rfl rfl dX6_init_138 ?_
    refine J_bipush hx (6 : Int32) dX6_init_139 rfl ?_
    refine J_icmp_ge hx 180 dX6_init_141 rfl (fun _ => ?_) (fun h1 => ?_)
    · obtain rfl : p = 6 := by omega
      exact J_vret hx hr dX6_init_180 (Nat.le_refl _) (Nat.le_refl _) ⟨rfl, rfl, h⟩
    · exact (h1 ((iN_le (a := 6) (by decide) (by omega)).mpr (by omega))).elim
  | succ k ih =>
    intro p G hp h
    obtain ⟨h1, h2, h3, h4, h5, h6, ⟨f, h7, h7'⟩, h8, h9, h10, h11⟩ := id h
    have hi : idx (iN p) 6 = some p := idx_iN (by omega) (by decide)
    have hrow := h8 p (by omega)
    rw [if_neg (Nat.lt_irrefl p)] at hrow
    have hL := h.lender (p := p) (by omega)
    have e2 : ∀ e, a ≠ a + 6 + p := fun _ => by omega
    have e5 : a + 5 ≠ a + 6 + p := by omega
    refine J_il4 hx rfl rfl dX6_init_138 ?_
    refine J_bipush hx (6 : Int32) dX6_init_139 rfl ?_
    refine J_icmp_ge hx 180 dX6_init_141 rfl (fun g => ?_) (fun _ => ?_)
    · have := (iN_le (a := 6) (by decide) (by omega)).mp g; omega
    refine J_al4 hx rfl rfl dX6_init_144 ?_
    refine J_get hx clk_X6 13 (by decide) fl_X6_39 h2 rfl dX6_init_145 ?_
    refine J_il4 hx rfl rfl dX6_init_148 ?_
    refine J_aald hx 7 rfl rfl h7 (idx_in hi) (by rw [idx_c hi]; exact h7' p (by omega)) dX6_init_149 ?_
    refine J_iconst hx (0 : Int32) dX6_init_150 rfl ?_
    refine J_bipush hx (-10 : Int32) dX6_init_151 rfl ?_
    refine J_iast hx hrow (idx_in (by decide +kernel : idx (0 : Int32) 4 = some 0)) dX6_init_153 ?_
    refine J_al4 hx rfl rfl dX6_init_154 ?_
    refine J_get hx clk_X6 13 (by decide) fl_X6_39 ((updG_ne (by omega)).trans h2) rfl dX6_init_155 ?_
    refine J_il4 hx rfl rfl dX6_init_158 ?_
    refine J_aald hx 7 rfl rfl ((updG_ne e5).trans h7) (idx_in hi) (by rw [idx_c hi]; exact h7' p (by omega)) dX6_init_159 ?_
    refine J_iconst hx (1 : Int32) dX6_init_160 rfl ?_
    refine J_bipush hx (40 : Int32) dX6_init_161 rfl ?_
    refine J_iast hx updG_self (idx_in (by decide +kernel : idx (1 : Int32) 4 = some 1)) dX6_init_163 ?_
    refine J_al4 hx rfl rfl dX6_init_164 ?_
    refine J_get hx clk_X6 13 (by decide) fl_X6_39 ((updG_ne (by omega)).trans ((updG_ne (by omega)).trans h2)) rfl dX6_init_165 ?_
    refine J_il4 hx rfl rfl dX6_init_168 ?_
    refine J_aald hx 7 rfl rfl ((updG_ne e5).trans ((updG_ne e5).trans h7)) (idx_in hi) (by rw [idx_c hi]; exact h7' p (by omega)) dX6_init_169 ?_
    refine J_iconst hx (2 : Int32) dX6_init_170 rfl ?_
    refine J_bipush hx (90 : Int32) dX6_init_171 rfl ?_
    refine J_iast hx updG_self (idx_in (by decide +kernel : idx (2 : Int32) 4 = some 2)) dX6_init_173 ?_
    refine J_iinc hx (v' := iN (p + 1)) rfl (iN_s p) (by decide) (hc_of rfl) rfl dX6_init_174 ?_
    refine J_goto hx 138 dX6_init_177 rfl ?_
    exact ih (p + 1) _ (by omega) hL
theorem tX6_works (hx : Fx X cX6_init 2 RX6 2 71 606) (hI : GI (xΓ X)) (hnm : (xM X).name = "<init>") (hr : Rt X none 71 606 (fun r G' sz' => r = none ∧ sz' = a + 72 ∧ PSd (xΓ X) G0 a G')) : ∀ (k w : Nat) (G : Gf), w + k = 16 → PS (xΓ X) G0 a 8 12 w 0 G → J X 2 G (a + 40 + 2 * w) (39 + 2 * w) (302 + 19 * w) 111 [some (.ref a), some (.int (iN w))] [] := by
  intro k
  induction k with
  | zero =>
    intro w G hw h
    refine J_il4 hx rfl rfl dX6_init_111 ?_
    refine J_bipush hx (16 : Int32) dX6_init_112 rfl ?_
    refine J_icmp_ge hx 136 dX6_init_114 rfl (fun _ => ?_) (fun h1 => ?_)
    · obtain rfl : w = 16 := by omega
      refine J_iconst hx (0 : Int32) dX6_init_136 rfl ?_
      refine J_is4 hx rfl (by decide) (hc_of rfl) rfl dX6_init_137 ?_
      exact tX6_lenders hx hnm hr 6 0 G rfl h
    · exact (h1 ((iN_le (a := 16) (by decide) (by omega)).mpr (by omega))).elim
  | succ k ih =>
    intro w G hw h
    obtain ⟨h1, h2, h3, h4, ⟨f, h5, h5'⟩, h6, h7, h8, h9, h10, h11⟩ := id h
    have hi : idx (iN w) 16 = some w := idx_iN (by omega) (by decide)
    have hL := h.work (by omega) h5'
    refine J_il4 hx rfl rfl dX6_init_111 ?_
    refine J_bipush hx (16 : Int32) dX6_init_112 rfl ?_
    refine J_icmp_ge hx 136 dX6_init_114 rfl (fun g => ?_) (fun _ => ?_)
    · have := (iN_le (a := 16) (by decide) (by omega)).mp g; omega
    refine J_al4 hx rfl rfl dX6_init_117 ?_
    refine J_get hx clk_X6 11 (by decide) fl_X6_29 h2 rfl dX6_init_118 ?_
    refine J_il4 hx rfl rfl dX6_init_121 ?_
    refine J_new hx clk_X11 cl_X6_27 ins_X11 ini_X11 [.int 0, .int 0, .int 0, .int 0, .int 0, .int 0, .int 0, .int 0, .null] (by decide) (by omega) (by omega) dX6_init_122 fun _ => ?_
    refine J_dup hx dX6_init_125 ?_
    refine J_callIN hx (kX11_init (l := xl X) (Γ := xΓ X) (sz := a + 40 + 2 * w + 1) (a := a + 40 + 2 * w) updG_self) ((hx.ki hI).2.2.2.2.2.2.2.1) lk_X11_init (As := []) (rest := [.ref (a + 40 + 2 * w), .int (iN w), .ref (a + 3)]) rfl rfl (by decide) (by decide) (Nat.le_of_ble_eq_true rfl) (by omega) (by omega) dX6_init_126 fun r G' sz' hh => ?_
    obtain ⟨rfl, rfl, rfl⟩ := hh
    refine J_aast hx 6 9 rfl rfl ((updG_ne (by omega)).trans ((updG_ne (by omega)).trans ((updG_ne (by omega)).trans h5))) updG_self (idx_in hi) dX6_init_129 ?_
    rw [idx_c hi]
    refine J_iinc hx (v' := iN (w + 1)) rfl (iN_s w) (by decide) (hc_of rfl) rfl dX6_init_130 ?_
    refine J_goto hx 111 dX6_init_133 rfl ?_
    have := ih (w + 1) _ (by omega) hL
    exact this
end IT
