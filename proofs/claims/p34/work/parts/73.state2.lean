/-! CONSTRUCTORS: State, the rest -/
section IU
variable {X : Cx} {G0 : Gf} {a : Nat} {Ψ : Option Value → Gf → Nat → Prop}
theorem tX6_crates (hx : Fx X cX6_init 2 RX6 2 71 606) (hI : GI (xΓ X)) (hnm : (xM X).name = "<init>") (hr : Rt X none 71 606 (fun r G' sz' => r = none ∧ sz' = a + 72 ∧ PSd (xΓ X) G0 a G')) : ∀ (k c : Nat) (G : Gf), c + k = 12 → PS (xΓ X) G0 a 8 c 0 0 G → J X 2 G (a + 28 + c) (27 + c) (182 + 10 * c) 84 [some (.ref a), some (.int (iN c))] [] := by
  intro k
  induction k with
  | zero =>
    intro c G hw h
    refine J_il4 hx rfl rfl dX6_init_84 ?_
    refine J_bipush hx (12 : Int32) dX6_init_85 rfl ?_
    refine J_icmp_ge hx 109 dX6_init_87 rfl (fun _ => ?_) (fun h1 => ?_)
    · obtain rfl : c = 12 := by omega
      refine J_iconst hx (0 : Int32) dX6_init_109 rfl ?_
      refine J_is4 hx rfl (by decide) (hc_of rfl) rfl dX6_init_110 ?_
      exact tX6_works hx hI hnm hr 16 0 G rfl h
    · exact (h1 ((iN_le (a := 12) (by decide) (by omega)).mpr (by omega))).elim
  | succ k ih =>
    intro c G hw h
    obtain ⟨h1, h2, h3, ⟨f, h4, h4'⟩, h5, h6, h7, h8, h9, h10, h11⟩ := id h
    have hi : idx (iN c) 12 = some c := idx_iN (by omega) (by decide)
    have hL := h.crate (by omega) h4'
    refine J_il4 hx rfl rfl dX6_init_84 ?_
    refine J_bipush hx (12 : Int32) dX6_init_85 rfl ?_
    refine J_icmp_ge hx 109 dX6_init_87 rfl (fun g => ?_) (fun _ => ?_)
    · have := (iN_le (a := 12) (by decide) (by omega)).mp g; omega
    refine J_al4 hx rfl rfl dX6_init_90 ?_
    refine J_get hx clk_X6 10 (by decide) fl_X6_23 h2 rfl dX6_init_91 ?_
    refine J_il4 hx rfl rfl dX6_init_94 ?_
    refine J_new hx clk_X3 cl_X6_21 ins_X3 ini_X3 [.int 0, .int 0, .int 0, .int 0, .int 0, .int 0, .int 0, .int 0, .int 0, .int 0] (by decide) (by omega) (by omega) dX6_init_95 fun _ => ?_
    refine J_dup hx dX6_init_98 ?_
    refine J_callIN hx (kX3_init (l := xl X) (Γ := xΓ X) (sz := a + 28 + c + 1) (a := a + 28 + c) updG_self) ((hx.ki hI).2.2.2.2.2.2.1) lk_X3_init (As := []) (rest := [.ref (a + 28 + c), .int (iN c), .ref (a + 2)]) rfl rfl (by decide) (by decide) (Nat.le_of_ble_eq_true rfl) (by omega) (by omega) dX6_init_99 fun r G' sz' hh => ?_
    obtain ⟨rfl, rfl, rfl⟩ := hh
    refine J_aast hx 3 2 rfl rfl ((updG_ne (by omega)).trans h4) updG_self (idx_in hi) dX6_init_102 ?_
    rw [idx_c hi]
    refine J_iinc hx (v' := iN (c + 1)) rfl (iN_s c) (by decide) (hc_of rfl) rfl dX6_init_103 ?_
    refine J_goto hx 84 dX6_init_106 rfl ?_
    have := ih (c + 1) _ (by omega) hL
    exact this
theorem tX6_venues (hx : Fx X cX6_init 2 RX6 2 71 606) (hI : GI (xΓ X)) (hnm : (xM X).name = "<init>") (hr : Rt X none 71 606 (fun r G' sz' => r = none ∧ sz' = a + 72 ∧ PSd (xΓ X) G0 a G')) : ∀ (k v : Nat) (G : Gf), v + k = 8 → PS (xΓ X) G0 a v 0 0 0 G → J X 2 G (a + 12 + 2 * v) (11 + 2 * v) (70 + 14 * v) 57 [some (.ref a), some (.int (iN v))] [] := by
  intro k
  induction k with
  | zero =>
    intro v G hw h
    refine J_il4 hx rfl rfl dX6_init_57 ?_
    refine J_bipush hx (8 : Int32) dX6_init_58 rfl ?_
    refine J_icmp_ge hx 82 dX6_init_60 rfl (fun _ => ?_) (fun h1 => ?_)
    · obtain rfl : v = 8 := by omega
      refine J_iconst hx (0 : Int32) dX6_init_82 rfl ?_
      refine J_is4 hx rfl (by decide) (hc_of rfl) rfl dX6_init_83 ?_
      exact tX6_crates hx hI hnm hr 12 0 G rfl h
    · exact (h1 ((iN_le (a := 8) (by decide) (by omega)).mpr (by omega))).elim
  | succ k ih =>
    intro v G hw h
    obtain ⟨h1, h2, ⟨f, h3, h3'⟩, h4, h5, h6, h7, h8, h9, h10, h11⟩ := id h
    have hi : idx (iN v) 8 = some v := idx_iN (by omega) (by decide)
    have hL := h.venue (by omega) h3'
    refine J_il4 hx rfl rfl dX6_init_57 ?_
    refine J_bipush hx (8 : Int32) dX6_init_58 rfl ?_
    refine J_icmp_ge hx 82 dX6_init_60 rfl (fun g => ?_) (fun _ => ?_)
    · have := (iN_le (a := 8) (by decide) (by omega)).mp g; omega
    refine J_al4 hx rfl rfl dX6_init_63 ?_
    refine J_get hx clk_X6 9 (by decide) fl_X6_17 h2 rfl dX6_init_64 ?_
    refine J_il4 hx rfl rfl dX6_init_67 ?_
    refine J_new hx clk_X9 cl_X6_15 ins_X9 ini_X9 [.int 0, .int 0, .int 0, .int 0, .int 0, .null] (by decide) (by omega) (by omega) dX6_init_68 fun _ => ?_
    refine J_dup hx dX6_init_71 ?_
    refine J_callIN hx (kX9_init (l := xl X) (Γ := xΓ X) (sz := a + 12 + 2 * v + 1) (a := a + 12 + 2 * v) updG_self) ((hx.ki hI).2.2.2.2.2.1) lk_X9_init (As := []) (rest := [.ref (a + 12 + 2 * v), .int (iN v), .ref (a + 1)]) rfl rfl (by decide) (by decide) (Nat.le_of_ble_eq_true rfl) (by omega) (by omega) dX6_init_72 fun r G' sz' hh => ?_
    obtain ⟨rfl, rfl, rfl⟩ := hh
    refine J_aast hx 5 8 rfl rfl ((updG_ne (by omega)).trans ((updG_ne (by omega)).trans ((updG_ne (by omega)).trans h3))) updG_self (idx_in hi) dX6_init_75 ?_
    rw [idx_c hi]
    refine J_iinc hx (v' := iN (v + 1)) rfl (iN_s v) (by decide) (hc_of rfl) rfl dX6_init_76 ?_
    refine J_goto hx 57 dX6_init_79 rfl ?_
    have := ih (v + 1) _ (by omega) hL
    exact this
end IU
theorem kX6_init {l : Launch} {Γ : Gl} {G : Gf} {a sz : Nat} (hI : GI Γ) (hsz : sz = a + 1) (hG : G a = some eNul) : Ct l Γ yX6_init cX6_init 2 none 2 [.ref a] G sz (fun r G' sz' => r = none ∧ sz' = a + 72 ∧ PSd Γ G a G') 71 606 := by
  subst hsz
  refine Ct.of rfl (Nat.le_of_ble_eq_true rfl) fun X hx hr hl hΓ hnm => ?_
  subst hl hΓ
  have hki := hx.ki hI
  refine J_al4 hx rfl rfl dX6_init_0 ?_
  refine J_objInit hx ml_X6_3 oi_i oi_c (by decide) (by decide) dX6_init_1 ?_
  refine J_al4 hx rfl rfl dX6_init_4 ?_
  refine J_bipush hx (100 : Int32) dX6_init_5 rfl ?_
  refine J_put hx clk_X6 1 (by decide) fl_X6_9 rfl hG (by decide) rfl rfl dX6_init_7 ?_
  refine J_al4 hx rfl rfl dX6_init_10 ?_
  refine J_bipush hx (8 : Int32) dX6_init_11 rfl ?_
  refine J_anew hx 5 rfl cl_X6_15 hki.1 8 (by decide) rfl (by decide) (by decide) (by decide) dX6_init_13 fun _ => ?_
  refine J_putF hx clk_X6 hnm 9 (by decide) fl_X6_17 rfl rfl ((updG_ne (by omega)).trans updG_self) (Nat.le_of_ble_eq_true rfl) rfl rfl dX6_init_16 ?_
  refine J_al4 hx rfl rfl dX6_init_19 ?_
  refine J_bipush hx (12 : Int32) dX6_init_20 rfl ?_
  refine J_anew hx 3 rfl cl_X6_21 hki.2.1 12 (by decide) rfl (by decide) (by decide) (by decide) dX6_init_22 fun _ => ?_
  refine J_putF hx clk_X6 hnm 10 (by decide) fl_X6_23 rfl rfl ((updG_ne (by omega)).trans updG_self) (Nat.le_of_ble_eq_true rfl) rfl rfl dX6_init_25 ?_
  refine J_al4 hx rfl rfl dX6_init_28 ?_
  refine J_bipush hx (16 : Int32) dX6_init_29 rfl ?_
  refine J_anew hx 6 rfl cl_X6_27 hki.2.2.1 16 (by decide) rfl (by decide) (by decide) (by decide) dX6_init_31 fun _ => ?_
  refine J_putF hx clk_X6 hnm 11 (by decide) fl_X6_29 rfl rfl ((updG_ne (by omega)).trans updG_self) (Nat.le_of_ble_eq_true rfl) rfl rfl dX6_init_34 ?_
  refine J_al4 hx rfl rfl dX6_init_37 ?_
  refine J_iconst hx (4 : Int32) dX6_init_38 rfl ?_
  refine J_newI hx 4 (by decide) rfl (by decide) (by decide) (by decide) dX6_init_39 fun _ => ?_
  refine J_putF hx clk_X6 hnm 12 (by decide) fl_X6_33 rfl rfl ((updG_ne (by omega)).trans updG_self) (Nat.le_of_ble_eq_true rfl) rfl rfl dX6_init_41 ?_
  refine J_al4 hx rfl rfl dX6_init_44 ?_
  refine J_bipush hx (6 : Int32) dX6_init_45 rfl ?_
  refine J_iconst hx (4 : Int32) dX6_init_47 rfl ?_
  refine J_mnew hx cl_X6_37 hki.2.2.2.2.1 (by decide) (by decide) dX6_init_48 ?_
  refine J_putF hx clk_X6 hnm 13 (by decide) fl_X6_39 rfl rfl (show g64 _ _ _ a = _ from (if_neg (by omega)).trans ((if_neg (by omega)).trans updG_self)) (Nat.le_of_ble_eq_true rfl) rfl rfl dX6_init_52 ?_
  refine J_iconst hx (0 : Int32) dX6_init_55 rfl ?_
  refine J_is4 hx rfl (by decide) (hc_of rfl) rfl dX6_init_56 ?_
  refine tX6_venues hx hI hnm hr 8 0 _ rfl ?_
  refine ⟨fun x hx => ?_, ?_, ⟨fun _ => none, ?_, fun j hj => absurd hj (Nat.not_lt_zero j)⟩, ⟨fun _ => none, ?_, fun j hj => absurd hj (Nat.not_lt_zero j)⟩, ⟨fun _ => none, ?_, fun j hj => absurd hj (Nat.not_lt_zero j)⟩, ?_, ⟨fun j => if j < 6 then some (a + 1 + 1 + 1 + 1 + 1 + 1 + j) else none, ?_, fun j hj => if_pos hj⟩, fun j hj => ?_, fun j hj => absurd hj (Nat.not_lt_zero j), fun j hj => absurd hj (Nat.not_lt_zero j), fun j hj => absurd hj (Nat.not_lt_zero j)⟩
  · unfold g64
    simp (disch := omega) only [updG_ne, if_neg]
  · rw [updG_self]; rfl
  · unfold g64
    simp (disch := omega) only [updG_ne, updG_self, if_neg]
  · unfold g64
    simp (disch := omega) only [updG_ne, updG_self, if_neg]
  · unfold g64
    simp (disch := omega) only [updG_ne, updG_self, if_neg]
  · unfold g64
    simp (disch := omega) only [updG_ne, updG_self, if_neg]
  · rw [updG_ne (by omega)]
    exact if_pos rfl
  · rw [updG_ne (by omega), if_neg (Nat.not_lt_zero j)]
    exact (if_neg (by omega)).trans (if_pos (by omega))
