/-! CONSTRUCTORS: the tour; the abstract memory at the start -/
section IM2
variable {l : Launch} {Γ : Gl} {G0 G G' : Gf} {a sz : Nat}
def mI : Nat → Nat → Int32
  | 0 => upd (fun _ => 0) 8 100
  | i + 1 => upd (upd (upd (mI i) (113 + 4 * i) (-10)) (113 + 4 * i + 1) 40) (113 + 4 * i + 2) 90
/-- a tour that is made -/
def TS (Γ : Gl) (B : Bs) (a : Nat) (G : Gf) : Prop :=
  G a = some (.inr (10, [.ref (a + 1), .ref (a + 73), .ref (a + 74), .ref (a + 75), .ref (a + 76), .ref (a + 78), .ref (a + 368)])) ∧ SB Γ (a + 1) G ∧
  G (a + 73) = some (.inr (0, [.ref (a + 1)])) ∧ G (a + 74) = some (.inr (3, [.ref (a + 1)])) ∧ G (a + 75) = some (.inr (7, [.ref (a + 1)])) ∧
  G (a + 76) = some (.inr (4, [.ref (a + 1), .ref (a + 73), .ref (a + 77)])) ∧ G (a + 77) = some (.inl (Γ.2.1 1, 12, .inl fun _ => 0)) ∧
  G (a + 78) = some (.inr (6, [.ref (a + 79), .int 0])) ∧ (∃ f, G (a + 79) = some (.inl (Γ.2.1 4, 4, refsE f)) ∧ ∀ j, j < 4 → f j = some (a + 80 + 72 * j)) ∧ (∀ j, j < 4 → SB Γ (a + 80 + 72 * j) G) ∧
  G (a + 368) = some (.inr (1, [.ref (a + 369), .int 0, .int 0, .int (-1), .ref (B.2 0), .ref (a + 370)])) ∧ G (a + 369) = some (.inl (Γ.2.1 0, 150, .inl fun _ => 0)) ∧ G (a + 370) = some (.inl (Γ.2.1 1, 3, .inl fun _ => 0))
theorem kX12_init {B : Bs} (hC : GC Γ B) (hI : GI Γ) (hsz : sz = a + 1) (hG : G a = some (.inr (10, [.null, .null, .null, .null, .null, .null, .null]))) : Ct l Γ yX12_init cX12_init 1 none 4 [.ref a] G sz (fun r G' sz' => r = none ∧ sz' = a + 371 ∧ (∀ x, x < a → G' x = G x) ∧ TS Γ B a G') 370 3283 := by
  subst hsz
  refine Ct.of rfl (Nat.le_of_ble_eq_true rfl) fun X hx hr hl hΓ hnm => ?_
  subst hl hΓ
  have hki := hx.ki hI
  refine J_al4 hx rfl rfl dX12_init_0 ?_
  refine J_objInit hx ml_X12_1 oi_i oi_c (by decide) (by decide) dX12_init_1 ?_
  refine J_al4 hx rfl rfl dX12_init_4 ?_
  refine J_new hx clk_X6 cl_X12_7 ins_X6 ini_X6 [.int 0, .int 0, .int 0, .int 0, .int 0, .int 0, .int 0, .int 0, .int 0, .null, .null, .null, .null, .null] (by decide) (by decide) (by decide) dX12_init_5 fun _ => ?_
  refine J_dup hx dX12_init_8 ?_
  refine J_callI hx (kX6_init (l := xl X) (Γ := xΓ X) (a := a + 1) hI rfl updG_self) ml_X12_9 lk_X6_init (As := []) (rest := [.ref (a + 1), .ref a]) rfl rfl (by decide) (by decide) (Nat.le_of_ble_eq_true rfl) (by decide) (by decide) dX12_init_9 fun r G1 sz1 hh => ?_
  obtain ⟨rfl, rfl, hP⟩ := hh
  have o1 : ∀ x, x ≤ a → G1 x = G x := fun x hx => (hP.1 x (by omega)).trans (updG_ne (by omega))
  have S1 := SB.of hP
  refine J_putF hx clk_X12 hnm 0 (by decide) fl_X12_10 rfl rfl ((o1 a (Nat.le_refl a)).trans hG) (by decide) rfl rfl dX12_init_12 ?_
  refine J_al4 hx rfl rfl dX12_init_15 ?_
  refine J_new hx clk_X1 cl_X12_16 ins_X1 ini_X1 [.null] (by decide) (by decide) (by decide) dX12_init_16 fun _ => ?_
  refine J_dup hx dX12_init_19 ?_
  refine J_al4 hx rfl rfl dX12_init_20 ?_
  refine J_get hx clk_X12 0 (by decide) fl_X12_10 ((updG_ne (by omega)).trans updG_self) rfl dX12_init_21 ?_
  refine J_callI hx (kX1_init (l := xl X) (Γ := xΓ X) (sz := a + 74) (a := a + 73) (s := a + 1) updG_self) ml_X12_18 lk_X1_init (As := [.ref (a + 1)]) (rest := [.ref (a + 73), .ref a]) rfl rfl (by decide) (by decide) (Nat.le_of_ble_eq_true rfl) (by decide) (by decide) dX12_init_24 fun r G2 sz2 hh => ?_
  obtain ⟨rfl, rfl, rfl⟩ := hh
  refine J_putF hx clk_X12 hnm 1 (by decide) fl_X12_21 rfl rfl ((updG_ne (by omega)).trans ((updG_ne (by omega)).trans updG_self)) (Nat.le_of_ble_eq_true rfl) rfl rfl dX12_init_27 ?_
  refine J_al4 hx rfl rfl dX12_init_30 ?_
  refine J_new hx clk_X4 cl_X12_25 ins_X4 ini_X4 [.null] (by decide) (by decide) (by decide) dX12_init_31 fun _ => ?_
  refine J_dup hx dX12_init_34 ?_
  refine J_al4 hx rfl rfl dX12_init_35 ?_
  refine J_get hx clk_X12 0 (by decide) fl_X12_10 ((updG_ne (by omega)).trans updG_self) rfl dX12_init_36 ?_
  refine J_callI hx (kX4_init (l := xl X) (Γ := xΓ X) (sz := a + 75) (a := a + 74) (s := a + 1) updG_self) ml_X12_27 lk_X4_init (As := [.ref (a + 1)]) (rest := [.ref (a + 74), .ref a]) rfl rfl (by decide) (by decide) (Nat.le_of_ble_eq_true rfl) (by decide) (by decide) dX12_init_39 fun r G2 sz2 hh => ?_
  obtain ⟨rfl, rfl, rfl⟩ := hh
  refine J_putF hx clk_X12 hnm 2 (by decide) fl_X12_28 rfl rfl ((updG_ne (by omega)).trans ((updG_ne (by omega)).trans updG_self)) (Nat.le_of_ble_eq_true rfl) rfl rfl dX12_init_42 ?_
  refine J_al4 hx rfl rfl dX12_init_45 ?_
  refine J_new hx clk_X8 cl_X12_32 ins_X8 ini_X8 [.null] (by decide) (by decide) (by decide) dX12_init_46 fun _ => ?_
  refine J_dup hx dX12_init_49 ?_
  refine J_al4 hx rfl rfl dX12_init_50 ?_
  refine J_get hx clk_X12 0 (by decide) fl_X12_10 ((updG_ne (by omega)).trans updG_self) rfl dX12_init_51 ?_
  refine J_callI hx (kX8_init (l := xl X) (Γ := xΓ X) (sz := a + 76) (a := a + 75) (s := a + 1) updG_self) ml_X12_34 lk_X8_init (As := [.ref (a + 1)]) (rest := [.ref (a + 75), .ref a]) rfl rfl (by decide) (by decide) (Nat.le_of_ble_eq_true rfl) (by decide) (by decide) dX12_init_54 fun r G2 sz2 hh => ?_
  obtain ⟨rfl, rfl, rfl⟩ := hh
  refine J_putF hx clk_X12 hnm 3 (by decide) fl_X12_35 rfl rfl ((updG_ne (by omega)).trans ((updG_ne (by omega)).trans updG_self)) (Nat.le_of_ble_eq_true rfl) rfl rfl dX12_init_57 ?_
  refine J_al4 hx rfl rfl dX12_init_60 ?_
  refine J_new hx clk_X5 cl_X12_39 ins_X5 ini_X5 [.null, .null, .null] (by decide) (by decide) (by decide) dX12_init_61 fun _ => ?_
  refine J_dup hx dX12_init_64 ?_
  refine J_al4 hx rfl rfl dX12_init_65 ?_
  refine J_get hx clk_X12 0 (by decide) fl_X12_10 ((updG_ne (by omega)).trans updG_self) rfl dX12_init_66 ?_
  refine J_al4 hx rfl rfl dX12_init_69 ?_
  refine J_get hx clk_X12 1 (by decide) fl_X12_21 ((updG_ne (by omega)).trans updG_self) rfl dX12_init_70 ?_
  refine J_callI hx (kX5_init (l := xl X) (Γ := xΓ X) (sz := a + 77) (a := a + 76) (s := a + 1) (c := a + 73) updG_self) ml_X12_41 lk_X5_init (As := [.ref (a + 1), .ref (a + 73)]) (rest := [.ref (a + 76), .ref a]) rfl rfl (by decide) (by decide) (Nat.le_of_ble_eq_true rfl) (by decide) (by decide) dX12_init_73 fun r G2 sz2 hh => ?_
  obtain ⟨rfl, rfl, hG2⟩ := hh
  obtain rfl := funext hG2
  refine J_putF hx clk_X12 hnm 4 (by decide) fl_X12_44 rfl rfl ((updG_ne (by omega)).trans ((updG_ne (by omega)).trans ((updG_ne (by omega)).trans updG_self))) (Nat.le_of_ble_eq_true rfl) rfl rfl dX12_init_76 ?_
  refine J_al4 hx rfl rfl dX12_init_79 ?_
  refine J_new hx clk_X7 cl_X12_48 ins_X7 ini_X7 [.null, .int 0] (by decide) (by decide) (by decide) dX12_init_80 fun _ => ?_
  refine J_dup hx dX12_init_83 ?_
  refine J_callI hx (kX7_init (l := xl X) (Γ := xΓ X) (a := a + 78) hI rfl updG_self) ml_X12_50 lk_X7_init (As := []) (rest := [.ref (a + 78), .ref a]) rfl rfl (by decide) (by decide) (Nat.le_of_ble_eq_true rfl) (by decide) (by decide) dX12_init_84 fun r G3 sz3 hh => ?_
  obtain ⟨rfl, rfl, hU⟩ := hh
  have o3 := hU.1
  refine J_putF hx clk_X12 hnm 5 (by decide) fl_X12_51 rfl rfl ((o3 a (by omega)).trans ((updG_ne (by omega)).trans updG_self)) (Nat.le_of_ble_eq_true rfl) rfl rfl dX12_init_87 ?_
  refine J_al4 hx rfl rfl dX12_init_90 ?_
  refine J_new hx clk_X2 cl_X12_55 ins_X2 ini_X2 [.null, .int 0, .int 0, .int 0, .null, .null] (by decide) (by decide) (by decide) dX12_init_91 fun _ => ?_
  refine J_dup hx dX12_init_94 ?_
  refine J_callIN hx (kX2_init (l := xl X) (Γ := xΓ X) (a := a + 368) hC rfl updG_self) hki.2.2.2.2.2.2.2.2 lk_X2_init (As := []) (rest := [.ref (a + 368), .ref a]) rfl rfl (by decide) (by decide) (Nat.le_of_ble_eq_true rfl) (by decide) (by decide) dX12_init_95 fun r G4 sz4 hh => ?_
  obtain ⟨rfl, rfl, o4, c1, c2, c3⟩ := hh
  refine J_putF hx clk_X12 hnm 6 (by decide) fl_X12_58 rfl rfl ((o4 a (by omega)).trans ((updG_ne (by omega)).trans updG_self)) (Nat.le_of_ble_eq_true rfl) rfl rfl dX12_init_98 ?_
  have q3 : ∀ x, a + 78 ≤ x → x < a + 368 → (updG G4 a (.inr (10, [.ref (a + 1), .ref (a + 73), .ref (a + 74), .ref (a + 75), .ref (a + 76), .ref (a + 78), .ref (a + 368)]))) x = G3 x := fun x g1 g2 => by
    rw [updG_ne (by omega), o4 x g2, updG_ne (by omega), updG_ne (by omega)]
  refine J_vret hx hr dX12_init_101 (Nat.le_refl _) (Nat.le_refl _) ⟨rfl, rfl, fun x hx => ?_, ?_, ?_, ?_, ?_, ?_, ?_, ?_, ?_, ?_, ?_, ?_, ?_, ?_⟩
  · rw [updG_ne (by omega), o4 x (by omega), updG_ne (by omega), updG_ne (by omega), o3 x (by omega)]
    simp (disch := omega) only [updG_ne]
    exact o1 x (by omega)
  · rw [updG_self]; rfl
  · refine S1.fr fun x g1 g2 => ?_
    rw [updG_ne (by omega), o4 x (by omega), updG_ne (by omega), updG_ne (by omega), o3 x (by omega)]
    simp (disch := omega) only [updG_ne]
  · rw [updG_ne (by omega), o4 _ (by omega), updG_ne (by omega), updG_ne (by omega), o3 _ (by omega)]
    simp (disch := omega) only [updG_ne, updG_self]
  · rw [updG_ne (by omega), o4 _ (by omega), updG_ne (by omega), updG_ne (by omega), o3 _ (by omega)]
    simp (disch := omega) only [updG_ne, updG_self]
  · rw [updG_ne (by omega), o4 _ (by omega), updG_ne (by omega), updG_ne (by omega), o3 _ (by omega)]
    simp (disch := omega) only [updG_ne, updG_self]
  · rw [updG_ne (by omega), o4 _ (by omega), updG_ne (by omega), updG_ne (by omega), o3 _ (by omega)]
    simp (disch := omega) only [updG_ne, updG_self]
  · rw [updG_ne (by omega), o4 _ (by omega), updG_ne (by omega), updG_ne (by omega), o3 _ (by omega)]
    simp (disch := omega) only [updG_ne, updG_self]
  · exact (q3 _ (by omega) (by omega)).trans hU.2.1
  · obtain ⟨f, u1, u2⟩ := hU.2.2.1
    exact ⟨f, (q3 _ (by omega) (by omega)).trans u1, fun j hj => u2 j hj⟩
  · intro j hj
    exact (hU.2.2.2 j hj).fr fun x g1 g2 => q3 x (by omega) (by omega)
  · rw [updG_ne (by omega)]; exact c1
  · rw [updG_ne (by omega)]; exact c2
  · rw [updG_ne (by omega)]; exact c3
end IM2
