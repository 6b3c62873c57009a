/-! CONSTRUCTORS: UndoStack, CommandText, the model -/
section IV
variable {l : Launch} {Γ : Gl} {G0 G G' : Gf} {a sz : Nat}
/-- a whole state lies at a -/
def SB (Γ : Gl) (a : Nat) (G : Gf) : Prop := PSd Γ G a G
theorem SB.of (h : PSd Γ G0 a G) : SB Γ a G := ⟨fun _ _ => rfl, h.2⟩
theorem SB.fr (h : SB Γ a G) (he : ∀ x, a ≤ x → x < a + 72 → G' x = G x) : SB Γ a G' := by
  obtain ⟨-, h2, ⟨f3, h3, g3⟩, ⟨f4, h4, g4⟩, ⟨f5, h5, g5⟩, h6, ⟨f7, h7, g7⟩, h8, h9, h10, h11⟩ := h
  refine ⟨fun _ _ => rfl, ?_, ⟨f3, ?_, g3⟩, ⟨f4, ?_, g4⟩, ⟨f5, ?_, g5⟩, ?_, ⟨f7, ?_, g7⟩, fun j hj => ?_, fun j hj => ⟨?_, ?_⟩, fun j hj => ?_, fun j hj => ⟨?_, ?_⟩⟩
  · rw [he _ (by omega) (by omega)]; exact h2
  · rw [he _ (by omega) (by omega)]; exact h3
  · rw [he _ (by omega) (by omega)]; exact h4
  · rw [he _ (by omega) (by omega)]; exact h5
  · rw [he _ (by omega) (by omega)]; exact h6
  · rw [he _ (by omega) (by omega)]; exact h7
  · rw [he _ (by omega) (by omega)]; exact h8 j hj
  · rw [he _ (by omega) (by omega)]; exact (h9 j hj).1
  · rw [he _ (by omega) (by omega)]; exact (h9 j hj).2
  · rw [he _ (by omega) (by omega)]; exact h10 j hj
  · rw [he _ (by omega) (by omega)]; exact (h11 j hj).1
  · rw [he _ (by omega) (by omega)]; exact (h11 j hj).2
/-- an UndoStack in the making -/
def US (Γ : Gl) (G0 : Gf) (a i : Nat) (G : Gf) : Prop :=
  (∀ x, x < a → G x = G0 x) ∧ G a = some (.inr (6, [.ref (a + 1), .int 0])) ∧ (∃ f, G (a + 1) = some (.inl (Γ.2.1 4, 4, refsE f)) ∧ ∀ j, j < i → f j = some (a + 2 + 72 * j)) ∧ ∀ j, j < i → SB Γ (a + 2 + 72 * j) G
theorem tX7 {X : Cx} (hx : Fx X cX7_init 2 RX7 3 289 2484) (hI : GI (xΓ X)) (hnm : (xM X).name = "<init>") (hr : Rt X none 289 2484 (fun r G' sz' => r = none ∧ sz' = a + 290 ∧ US (xΓ X) G0 a 4 G')) : ∀ (k i : Nat) (G : Gf), i + k = 4 → US (xΓ X) G0 a i G → J X 2 G (a + 2 + 72 * i) (1 + 72 * i) (4 + 620 * i) 14 [some (.ref a), some (.int (iN i))] [] := by
  intro k
  induction k with
  | zero =>
    intro i G hw h
    refine J_il4 hx rfl rfl dX7_init_14 ?_
    refine J_iconst hx (4 : Int32) dX7_init_15 rfl ?_
    refine J_icmp_ge hx 38 dX7_init_16 rfl (fun _ => ?_) (fun h1 => ?_)
    · obtain rfl : i = 4 := by omega
      exact J_vret hx hr dX7_init_38 (Nat.le_refl _) (Nat.le_refl _) ⟨rfl, rfl, h⟩
    · exact (h1 ((iN_le (a := 4) (by decide) (by omega)).mpr (by omega))).elim
  | succ k ih =>
    intro i G hw h
    obtain ⟨h1, h2, ⟨f, h3, h3'⟩, h4⟩ := id h
    have hi : idx (iN i) 4 = some i := idx_iN (by omega) (by decide)
    refine J_il4 hx rfl rfl dX7_init_14 ?_
    refine J_iconst hx (4 : Int32) dX7_init_15 rfl ?_
    refine J_icmp_ge hx 38 dX7_init_16 rfl (fun g => ?_) (fun _ => ?_)
    · have := (iN_le (a := 4) (by decide) (by omega)).mp g; omega
    refine J_al4 hx rfl rfl dX7_init_19 ?_
    refine J_get hx clk_X7 0 (by decide) fl_X7_11 h2 rfl dX7_init_20 ?_
    refine J_il4 hx rfl rfl dX7_init_23 ?_
    refine J_new hx clk_X6 cl_X7_9 ins_X6 ini_X6 [.int 0, .int 0, .int 0, .int 0, .int 0, .int 0, .int 0, .int 0, .int 0, .null, .null, .null, .null, .null] (by decide) (by omega) (by omega) dX7_init_24 fun _ => ?_
    refine J_dup hx dX7_init_27 ?_
    refine J_callI hx (kX6_init (l := xl X) (Γ := xΓ X) (a := a + 2 + 72 * i) hI rfl updG_self) ml_X7_17 lk_X6_init (As := []) (rest := [.ref (a + 2 + 72 * i), .int (iN i), .ref (a + 1)]) rfl rfl (by decide) (by decide) (Nat.le_of_ble_eq_true rfl) (by omega) (by omega) dX7_init_28 fun r G' sz' hh => ?_
    obtain ⟨rfl, rfl, hP⟩ := hh
    have hold : ∀ x, x < a + 2 + 72 * i → G' x = G x := fun x hx => (hP.1 x hx).trans (updG_ne (by omega))
    refine J_aast hx 4 5 rfl rfl ((hold _ (by omega)).trans h3) hP.2.1 (idx_in hi) dX7_init_31 ?_
    rw [idx_c hi]
    refine J_iinc hx (v' := iN (i + 1)) rfl (iN_s i) (by decide) (hc_of rfl) rfl dX7_init_32 ?_
    refine J_goto hx 14 dX7_init_35 rfl ?_
    have hU : US (xΓ X) G0 a (i + 1) (updG G' (a + 1) (.inl ((xΓ X).2.1 4, 4, refsE (va_up f i (some (a + 2 + 72 * i)))))) := by
      refine ⟨fun x hx => ?_, ?_, ⟨_, updG_self, fun j hj => ?_⟩, fun j hj => ?_⟩
      · rw [updG_ne (by omega), hold x (by omega)]; exact h1 x hx
      · rw [updG_ne (by omega), hold _ (by omega)]; exact h2
      · unfold va_up
        by_cases e : j = i
        · rw [if_pos e, e]
        · rw [if_neg e]; exact h3' j (by omega)
      · by_cases e : j = i
        · subst e
          exact (SB.of hP).fr (fun x g1 g2 => updG_ne (by omega))
        · exact (h4 j (by omega)).fr (fun x g1 g2 => (updG_ne (by omega)).trans (hold x (by omega)))
    have := ih (i + 1) _ (by omega) hU
    rw [show a + 2 + 72 * (i + 1) = a + 2 + 72 * i + 72 by omega, show 1 + 72 * (i + 1) = 1 + 72 * i + 1 + 71 by omega, show 4 + 620 * (i + 1) = 4 + 620 * i + 14 + 606 by omega] at this
    exact this
theorem kX7_init (hI : GI Γ) (hsz : sz = a + 1) (hG : G a = some (.inr (6, [.null, .int 0]))) : Ct l Γ yX7_init cX7_init 2 none 3 [.ref a] G sz (fun r G' sz' => r = none ∧ sz' = a + 290 ∧ US Γ G a 4 G') 289 2484 := by
  subst hsz
  refine Ct.of rfl (Nat.le_of_ble_eq_true rfl) fun X hx hr hl hΓ hnm => ?_
  subst hl hΓ
  have hki := hx.ki hI
  refine J_al4 hx rfl rfl dX7_init_0 ?_
  refine J_objInit hx ml_X7_3 oi_i oi_c (by decide) (by decide) dX7_init_1 ?_
  refine J_al4 hx rfl rfl dX7_init_4 ?_
  refine J_iconst hx (4 : Int32) dX7_init_5 rfl ?_
  refine J_anew hx 4 rfl cl_X7_9 hki.2.2.2.1 4 (by decide) rfl (by decide) (by decide) (by decide) dX7_init_6 fun _ => ?_
  refine J_putF hx clk_X7 hnm 0 (by decide) fl_X7_11 rfl rfl ((updG_ne (by omega)).trans hG) (by decide) rfl rfl dX7_init_9 ?_
  refine J_iconst hx (0 : Int32) dX7_init_12 rfl ?_
  refine J_is4 hx rfl (by decide) (hc_of rfl) rfl dX7_init_13 ?_
  refine tX7 hx hI hnm hr 4 0 _ rfl ⟨fun x hx => ?_, ?_, ⟨fun _ => none, ?_, fun j hj => absurd hj (Nat.not_lt_zero j)⟩, fun j hj => absurd hj (Nat.not_lt_zero j)⟩
  · simp (disch := omega) only [updG_ne]
  · rw [updG_self]; rfl
  · rw [updG_ne (by omega), updG_self]
theorem kX2_init {B : Bs} (hC : GC Γ B) (hsz : sz = a + 1) (hG : G a = some (.inr (1, [.null, .int 0, .int 0, .int 0, .null, .null]))) : Ct l Γ yX2_init cX2_init 1 none 1 [.ref a] G sz (fun r G' sz' => r = none ∧ sz' = a + 3 ∧ (∀ x, x < a → G' x = G x) ∧ G' a = some (.inr (1, [.ref (a + 1), .int 0, .int 0, .int (-1), .ref (B.2 0), .ref (a + 2)])) ∧ G' (a + 1) = some (.inl (Γ.2.1 0, 150, .inl fun _ => 0)) ∧ G' (a + 2) = some (.inl (Γ.2.1 1, 3, .inl fun _ => 0))) 2 153 := by
  subst hsz
  refine Ct.of rfl (Nat.le_of_ble_eq_true rfl) fun X hx hr hl hΓ hnm => ?_
  subst hl hΓ
  refine J_al4 hx rfl rfl dX2_init_0 ?_
  refine J_objInit hx ml_X2_3 oi_i oi_c (by decide) (by decide) dX2_init_1 ?_
  refine J_al4 hx rfl rfl dX2_init_4 ?_
  refine J_sipush hx (150 : Int32) dX2_init_5 rfl ?_
  refine J_newB hx 150 (by decide) rfl (by decide) (by decide) (by decide) dX2_init_8 fun _ => ?_
  refine J_putF hx clk_X2 hnm 0 (by decide) fl_X2_9 rfl rfl ((updG_ne (by omega)).trans hG) (by decide) rfl rfl dX2_init_10 ?_
  refine J_al4 hx rfl rfl dX2_init_13 ?_
  refine J_iconst hx (-1 : Int32) dX2_init_14 rfl ?_
  refine J_put hx clk_X2 3 (by decide) fl_X2_15 rfl updG_self (Nat.le_of_ble_eq_true rfl) rfl rfl dX2_init_15 ?_
  refine J_al4 hx rfl rfl dX2_init_18 ?_
  refine J_gets hx (hx.kc hC).2.2.2.2.2.2.2.2.1 fl_X2_19 dX2_init_19 ?_
  refine J_put hx clk_X2 4 (by decide) fl_X2_25 rfl updG_self (Nat.le_of_ble_eq_true rfl) rfl rfl dX2_init_22 ?_
  refine J_al4 hx rfl rfl dX2_init_25 ?_
  refine J_iconst hx (3 : Int32) dX2_init_26 rfl ?_
  refine J_newI hx 3 (by decide) rfl (by decide) (by decide) (by decide) dX2_init_27 fun _ => ?_
  refine J_putF hx clk_X2 hnm 5 (by decide) fl_X2_28 rfl rfl ((updG_ne (by omega)).trans updG_self) (Nat.le_of_ble_eq_true rfl) rfl rfl dX2_init_29 ?_
  refine J_vret hx hr dX2_init_32 (Nat.le_refl _) (Nat.le_refl _) ⟨rfl, rfl, fun x hx => ?_, ?_, ?_, ?_⟩
  · simp (disch := omega) only [updG_ne]
  · rw [updG_self]; rfl
  · simp (disch := omega) only [updG_ne, updG_self]
  · simp (disch := omega) only [updG_ne, updG_self]
end IV
