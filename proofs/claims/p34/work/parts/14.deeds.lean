/-! Mirrors and walks, written by wip/whole/gen_walks.py -/
theorem dX4_makeVenue_0 : decode cX4_makeVenue 0 = .ok (.aload_n 0, 1) := by decide +kernel
theorem dX4_makeVenue_1 : decode cX4_makeVenue 1 = .ok (.getfield 9, 3) := by decide +kernel
theorem dX4_makeVenue_4 : decode cX4_makeVenue 4 = .ok (.getfield 15, 3) := by decide +kernel
theorem dX4_makeVenue_7 : decode cX4_makeVenue 7 = .ok (.istore 5, 2) := by decide +kernel
theorem dX4_makeVenue_9 : decode cX4_makeVenue 9 = .ok (.aload_n 0, 1) := by decide +kernel
theorem dX4_makeVenue_10 : decode cX4_makeVenue 10 = .ok (.getfield 9, 3) := by decide +kernel
theorem dX4_makeVenue_13 : decode cX4_makeVenue 13 = .ok (.getfield 21, 3) := by decide +kernel
theorem dX4_makeVenue_16 : decode cX4_makeVenue 16 = .ok (.iload 5, 2) := by decide +kernel
theorem dX4_makeVenue_18 : decode cX4_makeVenue 18 = .ok (.aaload, 1) := by decide +kernel
theorem dX4_makeVenue_19 : decode cX4_makeVenue 19 = .ok (.astore 6, 2) := by decide +kernel
theorem dX4_makeVenue_21 : decode cX4_makeVenue 21 = .ok (.aload 6, 2) := by decide +kernel
theorem dX4_makeVenue_23 : decode cX4_makeVenue 23 = .ok (.iload_n 1, 1) := by decide +kernel
theorem dX4_makeVenue_24 : decode cX4_makeVenue 24 = .ok (.putfield 25, 3) := by decide +kernel
theorem dX4_makeVenue_27 : decode cX4_makeVenue 27 = .ok (.aload 6, 2) := by decide +kernel
theorem dX4_makeVenue_29 : decode cX4_makeVenue 29 = .ok (.iload_n 2, 1) := by decide +kernel
theorem dX4_makeVenue_30 : decode cX4_makeVenue 30 = .ok (.putfield 30, 3) := by decide +kernel
theorem dX4_makeVenue_33 : decode cX4_makeVenue 33 = .ok (.aload 6, 2) := by decide +kernel
theorem dX4_makeVenue_35 : decode cX4_makeVenue 35 = .ok (.iload_n 3, 1) := by decide +kernel
theorem dX4_makeVenue_36 : decode cX4_makeVenue 36 = .ok (.putfield 33, 3) := by decide +kernel
theorem dX4_makeVenue_39 : decode cX4_makeVenue 39 = .ok (.aload 6, 2) := by decide +kernel
theorem dX4_makeVenue_41 : decode cX4_makeVenue 41 = .ok (.iload 4, 2) := by decide +kernel
theorem dX4_makeVenue_43 : decode cX4_makeVenue 43 = .ok (.putfield 36, 3) := by decide +kernel
theorem dX4_makeVenue_46 : decode cX4_makeVenue 46 = .ok (.aload_n 0, 1) := by decide +kernel
theorem dX4_makeVenue_47 : decode cX4_makeVenue 47 = .ok (.getfield 9, 3) := by decide +kernel
theorem dX4_makeVenue_50 : decode cX4_makeVenue 50 = .ok (.dup, 1) := by decide +kernel
theorem dX4_makeVenue_51 : decode cX4_makeVenue 51 = .ok (.getfield 15, 3) := by decide +kernel
theorem dX4_makeVenue_54 : decode cX4_makeVenue 54 = .ok (.iconst 1, 1) := by decide +kernel
theorem dX4_makeVenue_55 : decode cX4_makeVenue 55 = .ok (.iadd, 1) := by decide +kernel
theorem dX4_makeVenue_56 : decode cX4_makeVenue 56 = .ok (.putfield 15, 3) := by decide +kernel
theorem dX4_makeVenue_59 : decode cX4_makeVenue 59 = .ok (.iload 5, 2) := by decide +kernel
theorem dX4_makeVenue_61 : decode cX4_makeVenue 61 = .ok (.ireturn, 1) := by decide +kernel
def sX4_makeVenue (w : Wl) (l1 : Int32) (l2 : Int32) (l3 : Int32) (l4 : Int32) : Option (Int32 × Wl) := (idx (w 1 5) 8).bind (fun c1 => some ((w 1 5), (wst (wst (wst (wst (wst w (13 + 2 * c1) 0 l1) (13 + 2 * c1) 1 l2) (13 + 2 * c1) 2 l3) (13 + 2 * c1) 3 l4) 1 5 (((wst (wst (wst (wst w (13 + 2 * c1) 0 l1) (13 + 2 * c1) 1 l2) (13 + 2 * c1) 2 l3) (13 + 2 * c1) 3 l4) 1 5) + (1 : Int32)))))
theorem kX4_makeVenue {l : Launch} {Γ : Gl} {B : Bs} {w : Wl} {G : Gf} {sz : Nat} {l1 : Int32} {l2 : Int32} {l3 : Int32} {l4 : Int32} {r : (Int32 × Wl)} (hW : Wd Γ B w G) (h : sX4_makeVenue w l1 l2 l3 l4 = some r) : CtW l Γ yX4_makeVenue cX4_makeVenue 7 (some .int) 0 [.ref (B.1 + 74), .int l1, .int l2, .int l3, .int l4] G sz B (some (.int (r.1))) r.2 := by
  refine Ct.of rfl (Nat.le_of_ble_eq_true rfl) fun X hx hr hl hΓ hnm => ?_
  subst hl hΓ
  show J X 7 G sz 0 0 0 [some (.ref (B.1 + 74)), some (.int l1), some (.int l2), some (.int l3), some (.int l4), none, none] []
  unfold sX4_makeVenue at h
  refine J_al4 hx rfl rfl dX4_makeVenue_0 ?_
  refine g4_0 hx hW 1 (rfl : kd 74 = 12) fl_X4_9 rfl dX4_makeVenue_1 ?_
  refine g6_5 hx hW (rfl : kd 1 = 2) fl_X4_15 dX4_makeVenue_4 ?_
  refine J_is hx (by decide) (hc_of rfl) rfl dX4_makeVenue_7 ?_
  refine J_al4 hx rfl rfl dX4_makeVenue_9 ?_
  refine g4_0 hx hW 1 (rfl : kd 74 = 12) fl_X4_9 rfl dX4_makeVenue_10 ?_
  refine g6_9 hx hW 2 (rfl : kd 1 = 2) fl_X4_21 rfl dX4_makeVenue_13 ?_
  refine J_il hx rfl dX4_makeVenue_16 ?_
  obtain ⟨c1, hc2, h⟩ := bnd h
  refine J_a3 hx hW (13 + 2 * c1) (rfl : kd 2 = 3) hc2 rfl dX4_makeVenue_18 fun hk3 => ?_
  refine J_as hx (by decide) (hc_of rfl) rfl dX4_makeVenue_19 ?_
  refine J_al hx rfl dX4_makeVenue_21 ?_
  refine J_il4 hx rfl rfl dX4_makeVenue_23 ?_
  refine p9_0 hx hW hk3 fl_X4_25 dX4_makeVenue_24 fun G4 hW5 => ?_
  refine J_al hx rfl dX4_makeVenue_27 ?_
  refine J_il4 hx rfl rfl dX4_makeVenue_29 ?_
  refine p9_1 hx hW5 hk3 fl_X4_30 dX4_makeVenue_30 fun G6 hW7 => ?_
  refine J_al hx rfl dX4_makeVenue_33 ?_
  refine J_il4 hx rfl rfl dX4_makeVenue_35 ?_
  refine p9_2 hx hW7 hk3 fl_X4_33 dX4_makeVenue_36 fun G8 hW9 => ?_
  refine J_al hx rfl dX4_makeVenue_39 ?_
  refine J_il hx rfl dX4_makeVenue_41 ?_
  refine p9_3 hx hW9 hk3 fl_X4_36 dX4_makeVenue_43 fun G10 hW11 => ?_
  refine J_al4 hx rfl rfl dX4_makeVenue_46 ?_
  refine g4_0 hx hW11 1 (rfl : kd 74 = 12) fl_X4_9 rfl dX4_makeVenue_47 ?_
  refine J_dup hx dX4_makeVenue_50 ?_
  refine g6_5 hx hW11 (rfl : kd 1 = 2) fl_X4_15 dX4_makeVenue_51 ?_
  refine J_iconst hx (1 : Int32) dX4_makeVenue_54 rfl ?_
  refine J_iadd hx dX4_makeVenue_55 ?_
  refine p6_5 hx hW11 (rfl : kd 1 = 2) fl_X4_15 dX4_makeVenue_56 fun G12 hW13 => ?_
  refine J_il hx rfl dX4_makeVenue_59 ?_
  obtain rfl := Option.some.inj h
  exact J_iretW hx hr hW13 dX4_makeVenue_61 (Nat.le_refl 0) (Nat.le_refl 0)
theorem dX4_changeClimate_0 : decode cX4_changeClimate 0 = .ok (.aload_n 0, 1) := by decide +kernel
theorem dX4_changeClimate_1 : decode cX4_changeClimate 1 = .ok (.getfield 9, 3) := by decide +kernel
theorem dX4_changeClimate_4 : decode cX4_changeClimate 4 = .ok (.getfield 21, 3) := by decide +kernel
theorem dX4_changeClimate_7 : decode cX4_changeClimate 7 = .ok (.iload_n 1, 1) := by decide +kernel
theorem dX4_changeClimate_8 : decode cX4_changeClimate 8 = .ok (.aaload, 1) := by decide +kernel
theorem dX4_changeClimate_9 : decode cX4_changeClimate 9 = .ok (.astore 4, 2) := by decide +kernel
theorem dX4_changeClimate_11 : decode cX4_changeClimate 11 = .ok (.sipush 1000, 3) := by decide +kernel
theorem dX4_changeClimate_14 : decode cX4_changeClimate 14 = .ok (.aload 4, 2) := by decide +kernel
theorem dX4_changeClimate_16 : decode cX4_changeClimate 16 = .ok (.getfield 25, 3) := by decide +kernel
theorem dX4_changeClimate_19 : decode cX4_changeClimate 19 = .ok (.imul, 1) := by decide +kernel
theorem dX4_changeClimate_20 : decode cX4_changeClimate 20 = .ok (.aload 4, 2) := by decide +kernel
theorem dX4_changeClimate_22 : decode cX4_changeClimate 22 = .ok (.getfield 30, 3) := by decide +kernel
theorem dX4_changeClimate_25 : decode cX4_changeClimate 25 = .ok (.iadd, 1) := by decide +kernel
theorem dX4_changeClimate_26 : decode cX4_changeClimate 26 = .ok (.istore 5, 2) := by decide +kernel
theorem dX4_changeClimate_28 : decode cX4_changeClimate 28 = .ok (.aload 4, 2) := by decide +kernel
theorem dX4_changeClimate_30 : decode cX4_changeClimate 30 = .ok (.iload_n 2, 1) := by decide +kernel
theorem dX4_changeClimate_31 : decode cX4_changeClimate 31 = .ok (.putfield 25, 3) := by decide +kernel
theorem dX4_changeClimate_34 : decode cX4_changeClimate 34 = .ok (.aload 4, 2) := by decide +kernel
theorem dX4_changeClimate_36 : decode cX4_changeClimate 36 = .ok (.iload_n 3, 1) := by decide +kernel
theorem dX4_changeClimate_37 : decode cX4_changeClimate 37 = .ok (.putfield 30, 3) := by decide +kernel
theorem dX4_changeClimate_40 : decode cX4_changeClimate 40 = .ok (.iload 5, 2) := by decide +kernel
theorem dX4_changeClimate_42 : decode cX4_changeClimate 42 = .ok (.ireturn, 1) := by decide +kernel
def sX4_changeClimate (w : Wl) (l1 : Int32) (l2 : Int32) (l3 : Int32) : Option (Int32 × Wl) := (idx l1 8).bind (fun c1 => some ((((1000 : Int32) * (w (13 + 2 * c1) 0)) + (w (13 + 2 * c1) 1)), (wst (wst w (13 + 2 * c1) 0 l2) (13 + 2 * c1) 1 l3)))
theorem kX4_changeClimate {l : Launch} {Γ : Gl} {B : Bs} {w : Wl} {G : Gf} {sz : Nat} {l1 : Int32} {l2 : Int32} {l3 : Int32} {r : (Int32 × Wl)} (hW : Wd Γ B w G) (h : sX4_changeClimate w l1 l2 l3 = some r) : CtW l Γ yX4_changeClimate cX4_changeClimate 6 (some .int) 0 [.ref (B.1 + 74), .int l1, .int l2, .int l3] G sz B (some (.int (r.1))) r.2 := by
  refine Ct.of rfl (Nat.le_of_ble_eq_true rfl) fun X hx hr hl hΓ hnm => ?_
  subst hl hΓ
  show J X 6 G sz 0 0 0 [some (.ref (B.1 + 74)), some (.int l1), some (.int l2), some (.int l3), none, none] []
  unfold sX4_changeClimate at h
  refine J_al4 hx rfl rfl dX4_changeClimate_0 ?_
  refine g4_0 hx hW 1 (rfl : kd 74 = 12) fl_X4_9 rfl dX4_changeClimate_1 ?_
  refine g6_9 hx hW 2 (rfl : kd 1 = 2) fl_X4_21 rfl dX4_changeClimate_4 ?_
  refine J_il4 hx rfl rfl dX4_changeClimate_7 ?_
  obtain ⟨c1, hc2, h⟩ := bnd h
  refine J_a3 hx hW (13 + 2 * c1) (rfl : kd 2 = 3) hc2 rfl dX4_changeClimate_8 fun hk3 => ?_
  refine J_as hx (by decide) (hc_of rfl) rfl dX4_changeClimate_9 ?_
  refine J_sipush hx (1000 : Int32) dX4_changeClimate_11 rfl ?_
  refine J_al hx rfl dX4_changeClimate_14 ?_
  refine g9_0 hx hW hk3 fl_X4_25 dX4_changeClimate_16 ?_
  refine J_imul hx dX4_changeClimate_19 ?_
  refine J_al hx rfl dX4_changeClimate_20 ?_
  refine g9_1 hx hW hk3 fl_X4_30 dX4_changeClimate_22 ?_
  refine J_iadd hx dX4_changeClimate_25 ?_
  refine J_is hx (by decide) (hc_of rfl) rfl dX4_changeClimate_26 ?_
  refine J_al hx rfl dX4_changeClimate_28 ?_
  refine J_il4 hx rfl rfl dX4_changeClimate_30 ?_
  refine p9_0 hx hW hk3 fl_X4_25 dX4_changeClimate_31 fun G4 hW5 => ?_
  refine J_al hx rfl dX4_changeClimate_34 ?_
  refine J_il4 hx rfl rfl dX4_changeClimate_36 ?_
  refine p9_1 hx hW5 hk3 fl_X4_30 dX4_changeClimate_37 fun G6 hW7 => ?_
  refine J_il hx rfl dX4_changeClimate_40 ?_
  obtain rfl := Option.some.inj h
  exact J_iretW hx hr hW7 dX4_changeClimate_42 (Nat.le_refl 0) (Nat.le_refl 0)
theorem dX4_changeWay_0 : decode cX4_changeWay 0 = .ok (.aload_n 0, 1) := by decide +kernel
theorem dX4_changeWay_1 : decode cX4_changeWay 1 = .ok (.getfield 9, 3) := by decide +kernel
theorem dX4_changeWay_4 : decode cX4_changeWay 4 = .ok (.getfield 21, 3) := by decide +kernel
theorem dX4_changeWay_7 : decode cX4_changeWay 7 = .ok (.iload_n 1, 1) := by decide +kernel
theorem dX4_changeWay_8 : decode cX4_changeWay 8 = .ok (.aaload, 1) := by decide +kernel
theorem dX4_changeWay_9 : decode cX4_changeWay 9 = .ok (.getfield 39, 3) := by decide +kernel
theorem dX4_changeWay_12 : decode cX4_changeWay 12 = .ok (.iload_n 2, 1) := by decide +kernel
theorem dX4_changeWay_13 : decode cX4_changeWay 13 = .ok (.iaload, 1) := by decide +kernel
theorem dX4_changeWay_14 : decode cX4_changeWay 14 = .ok (.istore 4, 2) := by decide +kernel
theorem dX4_changeWay_16 : decode cX4_changeWay 16 = .ok (.aload_n 0, 1) := by decide +kernel
theorem dX4_changeWay_17 : decode cX4_changeWay 17 = .ok (.getfield 9, 3) := by decide +kernel
theorem dX4_changeWay_20 : decode cX4_changeWay 20 = .ok (.getfield 21, 3) := by decide +kernel
theorem dX4_changeWay_23 : decode cX4_changeWay 23 = .ok (.iload_n 1, 1) := by decide +kernel
theorem dX4_changeWay_24 : decode cX4_changeWay 24 = .ok (.aaload, 1) := by decide +kernel
theorem dX4_changeWay_25 : decode cX4_changeWay 25 = .ok (.getfield 39, 3) := by decide +kernel
theorem dX4_changeWay_28 : decode cX4_changeWay 28 = .ok (.iload_n 2, 1) := by decide +kernel
theorem dX4_changeWay_29 : decode cX4_changeWay 29 = .ok (.iload_n 3, 1) := by decide +kernel
theorem dX4_changeWay_30 : decode cX4_changeWay 30 = .ok (.iastore, 1) := by decide +kernel
theorem dX4_changeWay_31 : decode cX4_changeWay 31 = .ok (.aload_n 0, 1) := by decide +kernel
theorem dX4_changeWay_32 : decode cX4_changeWay 32 = .ok (.getfield 9, 3) := by decide +kernel
theorem dX4_changeWay_35 : decode cX4_changeWay 35 = .ok (.getfield 21, 3) := by decide +kernel
theorem dX4_changeWay_38 : decode cX4_changeWay 38 = .ok (.iload_n 2, 1) := by decide +kernel
theorem dX4_changeWay_39 : decode cX4_changeWay 39 = .ok (.aaload, 1) := by decide +kernel
theorem dX4_changeWay_40 : decode cX4_changeWay 40 = .ok (.getfield 39, 3) := by decide +kernel
theorem dX4_changeWay_43 : decode cX4_changeWay 43 = .ok (.iload_n 1, 1) := by decide +kernel
theorem dX4_changeWay_44 : decode cX4_changeWay 44 = .ok (.iload_n 3, 1) := by decide +kernel
theorem dX4_changeWay_45 : decode cX4_changeWay 45 = .ok (.iastore, 1) := by decide +kernel
theorem dX4_changeWay_46 : decode cX4_changeWay 46 = .ok (.iload 4, 2) := by decide +kernel
theorem dX4_changeWay_48 : decode cX4_changeWay 48 = .ok (.ireturn, 1) := by decide +kernel
def sX4_changeWay (w : Wl) (l1 : Int32) (l2 : Int32) (l3 : Int32) : Option (Int32 × Wl) := (idx l1 8).bind (fun c1 => (idx l2 8).bind (fun c4 => some ((w ((13 + 2 * c1) + 1) c4), (wst (wst w ((13 + 2 * c1) + 1) c4 l3) ((13 + 2 * c4) + 1) c1 l3))))
theorem kX4_changeWay {l : Launch} {Γ : Gl} {B : Bs} {w : Wl} {G : Gf} {sz : Nat} {l1 : Int32} {l2 : Int32} {l3 : Int32} {r : (Int32 × Wl)} (hW : Wd Γ B w G) (h : sX4_changeWay w l1 l2 l3 = some r) : CtW l Γ yX4_changeWay cX4_changeWay 5 (some .int) 0 [.ref (B.1 + 74), .int l1, .int l2, .int l3] G sz B (some (.int (r.1))) r.2 := by
  refine Ct.of rfl (Nat.le_of_ble_eq_true rfl) fun X hx hr hl hΓ hnm => ?_
  subst hl hΓ
  show J X 5 G sz 0 0 0 [some (.ref (B.1 + 74)), some (.int l1), some (.int l2), some (.int l3), none] []
  unfold sX4_changeWay at h
  refine J_al4 hx rfl rfl dX4_changeWay_0 ?_
  refine g4_0 hx hW 1 (rfl : kd 74 = 12) fl_X4_9 rfl dX4_changeWay_1 ?_
  refine g6_9 hx hW 2 (rfl : kd 1 = 2) fl_X4_21 rfl dX4_changeWay_4 ?_
  refine J_il4 hx rfl rfl dX4_changeWay_7 ?_
  obtain ⟨c1, hc2, h⟩ := bnd h
  refine J_a3 hx hW (13 + 2 * c1) (rfl : kd 2 = 3) hc2 rfl dX4_changeWay_8 fun hk3 => ?_
  refine g9_5 hx hW ((13 + 2 * c1) + 1) hk3 fl_X4_39 rfl dX4_changeWay_9 ?_
  refine J_il4 hx rfl rfl dX4_changeWay_12 ?_
  obtain ⟨c4, hc5, h⟩ := bnd h
  refine J_iaW hx hW (kd8 hk3) hc5 dX4_changeWay_13 ?_
  refine J_is hx (by decide) (hc_of rfl) rfl dX4_changeWay_14 ?_
  refine J_al4 hx rfl rfl dX4_changeWay_16 ?_
  refine g4_0 hx hW 1 (rfl : kd 74 = 12) fl_X4_9 rfl dX4_changeWay_17 ?_
  refine g6_9 hx hW 2 (rfl : kd 1 = 2) fl_X4_21 rfl dX4_changeWay_20 ?_
  refine J_il4 hx rfl rfl dX4_changeWay_23 ?_
  refine J_a3 hx hW (13 + 2 * c1) (rfl : kd 2 = 3) hc2 rfl dX4_changeWay_24 fun hk6 => ?_
  refine g9_5 hx hW ((13 + 2 * c1) + 1) hk6 fl_X4_39 rfl dX4_changeWay_25 ?_
  refine J_il4 hx rfl rfl dX4_changeWay_28 ?_
  refine J_il4 hx rfl rfl dX4_changeWay_29 ?_
  refine J_iaS hx hW (kd8 hk6) hc5 dX4_changeWay_30 fun G7 hW8 => ?_
  refine J_al4 hx rfl rfl dX4_changeWay_31 ?_
  refine g4_0 hx hW8 1 (rfl : kd 74 = 12) fl_X4_9 rfl dX4_changeWay_32 ?_
  refine g6_9 hx hW8 2 (rfl : kd 1 = 2) fl_X4_21 rfl dX4_changeWay_35 ?_
  refine J_il4 hx rfl rfl dX4_changeWay_38 ?_
  refine J_a3 hx hW8 (13 + 2 * c4) (rfl : kd 2 = 3) hc5 rfl dX4_changeWay_39 fun hk9 => ?_
  refine g9_5 hx hW8 ((13 + 2 * c4) + 1) hk9 fl_X4_39 rfl dX4_changeWay_40 ?_
  refine J_il4 hx rfl rfl dX4_changeWay_43 ?_
  refine J_il4 hx rfl rfl dX4_changeWay_44 ?_
  refine J_iaS hx hW8 (kd8 hk9) hc2 dX4_changeWay_45 fun G10 hW11 => ?_
  refine J_il hx rfl dX4_changeWay_46 ?_
  obtain rfl := Option.some.inj h
  exact J_iretW hx hr hW11 dX4_changeWay_48 (Nat.le_refl 0) (Nat.le_refl 0)
theorem dX4_changeLender_0 : decode cX4_changeLender 0 = .ok (.aload_n 0, 1) := by decide +kernel
theorem dX4_changeLender_1 : decode cX4_changeLender 1 = .ok (.getfield 9, 3) := by decide +kernel
theorem dX4_changeLender_4 : decode cX4_changeLender 4 = .ok (.getfield 43, 3) := by decide +kernel
theorem dX4_changeLender_7 : decode cX4_changeLender 7 = .ok (.iload_n 1, 1) := by decide +kernel
theorem dX4_changeLender_8 : decode cX4_changeLender 8 = .ok (.aaload, 1) := by decide +kernel
theorem dX4_changeLender_9 : decode cX4_changeLender 9 = .ok (.iload_n 2, 1) := by decide +kernel
theorem dX4_changeLender_10 : decode cX4_changeLender 10 = .ok (.iaload, 1) := by decide +kernel
theorem dX4_changeLender_11 : decode cX4_changeLender 11 = .ok (.istore 4, 2) := by decide +kernel
theorem dX4_changeLender_13 : decode cX4_changeLender 13 = .ok (.aload_n 0, 1) := by decide +kernel
theorem dX4_changeLender_14 : decode cX4_changeLender 14 = .ok (.getfield 9, 3) := by decide +kernel
theorem dX4_changeLender_17 : decode cX4_changeLender 17 = .ok (.getfield 43, 3) := by decide +kernel
theorem dX4_changeLender_20 : decode cX4_changeLender 20 = .ok (.iload_n 1, 1) := by decide +kernel
theorem dX4_changeLender_21 : decode cX4_changeLender 21 = .ok (.aaload, 1) := by decide +kernel
theorem dX4_changeLender_22 : decode cX4_changeLender 22 = .ok (.iload_n 2, 1) := by decide +kernel
theorem dX4_changeLender_23 : decode cX4_changeLender 23 = .ok (.iload_n 3, 1) := by decide +kernel
theorem dX4_changeLender_24 : decode cX4_changeLender 24 = .ok (.iastore, 1) := by decide +kernel
theorem dX4_changeLender_25 : decode cX4_changeLender 25 = .ok (.iload 4, 2) := by decide +kernel
theorem dX4_changeLender_27 : decode cX4_changeLender 27 = .ok (.ireturn, 1) := by decide +kernel
def sX4_changeLender (w : Wl) (l1 : Int32) (l2 : Int32) (l3 : Int32) : Option (Int32 × Wl) := (idx l1 6).bind (fun c1 => (idx l2 4).bind (fun c4 => some ((w (7 + c1) c4), (wst w (7 + c1) c4 l3))))
theorem kX4_changeLender {l : Launch} {Γ : Gl} {B : Bs} {w : Wl} {G : Gf} {sz : Nat} {l1 : Int32} {l2 : Int32} {l3 : Int32} {r : (Int32 × Wl)} (hW : Wd Γ B w G) (h : sX4_changeLender w l1 l2 l3 = some r) : CtW l Γ yX4_changeLender cX4_changeLender 5 (some .int) 0 [.ref (B.1 + 74), .int l1, .int l2, .int l3] G sz B (some (.int (r.1))) r.2 := by
  refine Ct.of rfl (Nat.le_of_ble_eq_true rfl) fun X hx hr hl hΓ hnm => ?_
  subst hl hΓ
  show J X 5 G sz 0 0 0 [some (.ref (B.1 + 74)), some (.int l1), some (.int l2), some (.int l3), none] []
  unfold sX4_changeLender at h
  refine J_al4 hx rfl rfl dX4_changeLender_0 ?_
  refine g4_0 hx hW 1 (rfl : kd 74 = 12) fl_X4_9 rfl dX4_changeLender_1 ?_
  refine g6_13 hx hW 6 (rfl : kd 1 = 2) fl_X4_43 rfl dX4_changeLender_4 ?_
  refine J_il4 hx rfl rfl dX4_changeLender_7 ?_
  obtain ⟨c1, hc2, h⟩ := bnd h
  refine J_a7 hx hW (7 + c1) (rfl : kd 6 = 7) hc2 rfl dX4_changeLender_8 fun hk3 => ?_
  refine J_il4 hx rfl rfl dX4_changeLender_9 ?_
  obtain ⟨c4, hc5, h⟩ := bnd h
  refine J_iaW hx hW hk3 hc5 dX4_changeLender_10 ?_
  refine J_is hx (by decide) (hc_of rfl) rfl dX4_changeLender_11 ?_
  refine J_al4 hx rfl rfl dX4_changeLender_13 ?_
  refine g4_0 hx hW 1 (rfl : kd 74 = 12) fl_X4_9 rfl dX4_changeLender_14 ?_
  refine g6_13 hx hW 6 (rfl : kd 1 = 2) fl_X4_43 rfl dX4_changeLender_17 ?_
  refine J_il4 hx rfl rfl dX4_changeLender_20 ?_
  refine J_a7 hx hW (7 + c1) (rfl : kd 6 = 7) hc2 rfl dX4_changeLender_21 fun hk6 => ?_
  refine J_il4 hx rfl rfl dX4_changeLender_22 ?_
  refine J_il4 hx rfl rfl dX4_changeLender_23 ?_
  refine J_iaS hx hW hk6 hc5 dX4_changeLender_24 fun G7 hW8 => ?_
  refine J_il hx rfl dX4_changeLender_25 ?_
  obtain rfl := Option.some.inj h
  exact J_iretW hx hr hW8 dX4_changeLender_27 (Nat.le_refl 0) (Nat.le_refl 0)
theorem dX4_changeWayRate_0 : decode cX4_changeWayRate 0 = .ok (.aload_n 0, 1) := by decide +kernel
theorem dX4_changeWayRate_1 : decode cX4_changeWayRate 1 = .ok (.getfield 9, 3) := by decide +kernel
theorem dX4_changeWayRate_4 : decode cX4_changeWayRate 4 = .ok (.getfield 47, 3) := by decide +kernel
theorem dX4_changeWayRate_7 : decode cX4_changeWayRate 7 = .ok (.istore_n 2, 1) := by decide +kernel
theorem dX4_changeWayRate_8 : decode cX4_changeWayRate 8 = .ok (.aload_n 0, 1) := by decide +kernel
theorem dX4_changeWayRate_9 : decode cX4_changeWayRate 9 = .ok (.getfield 9, 3) := by decide +kernel
theorem dX4_changeWayRate_12 : decode cX4_changeWayRate 12 = .ok (.iload_n 1, 1) := by decide +kernel
theorem dX4_changeWayRate_13 : decode cX4_changeWayRate 13 = .ok (.putfield 47, 3) := by decide +kernel
theorem dX4_changeWayRate_16 : decode cX4_changeWayRate 16 = .ok (.iload_n 2, 1) := by decide +kernel
theorem dX4_changeWayRate_17 : decode cX4_changeWayRate 17 = .ok (.ireturn, 1) := by decide +kernel
def sX4_changeWayRate (w : Wl) (l1 : Int32) : Option (Int32 × Wl) := some ((w 1 1), (wst w 1 1 l1))
theorem kX4_changeWayRate {l : Launch} {Γ : Gl} {B : Bs} {w : Wl} {G : Gf} {sz : Nat} {l1 : Int32} {r : (Int32 × Wl)} (hW : Wd Γ B w G) (h : sX4_changeWayRate w l1 = some r) : CtW l Γ yX4_changeWayRate cX4_changeWayRate 3 (some .int) 0 [.ref (B.1 + 74), .int l1] G sz B (some (.int (r.1))) r.2 := by
  refine Ct.of rfl (Nat.le_of_ble_eq_true rfl) fun X hx hr hl hΓ hnm => ?_
  subst hl hΓ
  show J X 3 G sz 0 0 0 [some (.ref (B.1 + 74)), some (.int l1), none] []
  unfold sX4_changeWayRate at h
  refine J_al4 hx rfl rfl dX4_changeWayRate_0 ?_
  refine g4_0 hx hW 1 (rfl : kd 74 = 12) fl_X4_9 rfl dX4_changeWayRate_1 ?_
  refine g6_1 hx hW (rfl : kd 1 = 2) fl_X4_47 dX4_changeWayRate_4 ?_
  refine J_is4 hx rfl (by decide) (hc_of rfl) rfl dX4_changeWayRate_7 ?_
  refine J_al4 hx rfl rfl dX4_changeWayRate_8 ?_
  refine g4_0 hx hW 1 (rfl : kd 74 = 12) fl_X4_9 rfl dX4_changeWayRate_9 ?_
  refine J_il4 hx rfl rfl dX4_changeWayRate_12 ?_
  refine p6_1 hx hW (rfl : kd 1 = 2) fl_X4_47 dX4_changeWayRate_13 fun G1 hW2 => ?_
  refine J_il4 hx rfl rfl dX4_changeWayRate_16 ?_
  obtain rfl := Option.some.inj h
  exact J_iretW hx hr hW2 dX4_changeWayRate_17 (Nat.le_refl 0) (Nat.le_refl 0)
theorem dX4_makeCourier_0 : decode cX4_makeCourier 0 = .ok (.aload_n 0, 1) := by decide +kernel
theorem dX4_makeCourier_1 : decode cX4_makeCourier 1 = .ok (.getfield 9, 3) := by decide +kernel
theorem dX4_makeCourier_4 : decode cX4_makeCourier 4 = .ok (.getfield 50, 3) := by decide +kernel
theorem dX4_makeCourier_7 : decode cX4_makeCourier 7 = .ok (.istore_n 2, 1) := by decide +kernel
theorem dX4_makeCourier_8 : decode cX4_makeCourier 8 = .ok (.aload_n 0, 1) := by decide +kernel
theorem dX4_makeCourier_9 : decode cX4_makeCourier 9 = .ok (.getfield 9, 3) := by decide +kernel
theorem dX4_makeCourier_12 : decode cX4_makeCourier 12 = .ok (.getfield 53, 3) := by decide +kernel
theorem dX4_makeCourier_15 : decode cX4_makeCourier 15 = .ok (.iload_n 2, 1) := by decide +kernel
theorem dX4_makeCourier_16 : decode cX4_makeCourier 16 = .ok (.iload_n 1, 1) := by decide +kernel
theorem dX4_makeCourier_17 : decode cX4_makeCourier 17 = .ok (.iastore, 1) := by decide +kernel
theorem dX4_makeCourier_18 : decode cX4_makeCourier 18 = .ok (.aload_n 0, 1) := by decide +kernel
theorem dX4_makeCourier_19 : decode cX4_makeCourier 19 = .ok (.getfield 9, 3) := by decide +kernel
theorem dX4_makeCourier_22 : decode cX4_makeCourier 22 = .ok (.dup, 1) := by decide +kernel
theorem dX4_makeCourier_23 : decode cX4_makeCourier 23 = .ok (.getfield 50, 3) := by decide +kernel
theorem dX4_makeCourier_26 : decode cX4_makeCourier 26 = .ok (.iconst 1, 1) := by decide +kernel
theorem dX4_makeCourier_27 : decode cX4_makeCourier 27 = .ok (.iadd, 1) := by decide +kernel
theorem dX4_makeCourier_28 : decode cX4_makeCourier 28 = .ok (.putfield 50, 3) := by decide +kernel
theorem dX4_makeCourier_31 : decode cX4_makeCourier 31 = .ok (.iload_n 2, 1) := by decide +kernel
theorem dX4_makeCourier_32 : decode cX4_makeCourier 32 = .ok (.ireturn, 1) := by decide +kernel
def sX4_makeCourier (w : Wl) (l1 : Int32) : Option (Int32 × Wl) := (idx (w 1 8) 4).bind (fun c1 => some ((w 1 8), (wst (wst w 5 c1 l1) 1 8 (((wst w 5 c1 l1) 1 8) + (1 : Int32)))))
theorem kX4_makeCourier {l : Launch} {Γ : Gl} {B : Bs} {w : Wl} {G : Gf} {sz : Nat} {l1 : Int32} {r : (Int32 × Wl)} (hW : Wd Γ B w G) (h : sX4_makeCourier w l1 = some r) : CtW l Γ yX4_makeCourier cX4_makeCourier 3 (some .int) 0 [.ref (B.1 + 74), .int l1] G sz B (some (.int (r.1))) r.2 := by
  refine Ct.of rfl (Nat.le_of_ble_eq_true rfl) fun X hx hr hl hΓ hnm => ?_
  subst hl hΓ
  show J X 3 G sz 0 0 0 [some (.ref (B.1 + 74)), some (.int l1), none] []
  unfold sX4_makeCourier at h
  refine J_al4 hx rfl rfl dX4_makeCourier_0 ?_
  refine g4_0 hx hW 1 (rfl : kd 74 = 12) fl_X4_9 rfl dX4_makeCourier_1 ?_
  refine g6_8 hx hW (rfl : kd 1 = 2) fl_X4_50 dX4_makeCourier_4 ?_
  refine J_is4 hx rfl (by decide) (hc_of rfl) rfl dX4_makeCourier_7 ?_
  refine J_al4 hx rfl rfl dX4_makeCourier_8 ?_
  refine g4_0 hx hW 1 (rfl : kd 74 = 12) fl_X4_9 rfl dX4_makeCourier_9 ?_
  refine g6_12 hx hW 5 (rfl : kd 1 = 2) fl_X4_53 rfl dX4_makeCourier_12 ?_
  refine J_il4 hx rfl rfl dX4_makeCourier_15 ?_
  refine J_il4 hx rfl rfl dX4_makeCourier_16 ?_
  obtain ⟨c1, hc2, h⟩ := bnd h
  refine J_iaS hx hW (rfl : kd 5 = 104) hc2 dX4_makeCourier_17 fun G3 hW4 => ?_
  refine J_al4 hx rfl rfl dX4_makeCourier_18 ?_
  refine g4_0 hx hW4 1 (rfl : kd 74 = 12) fl_X4_9 rfl dX4_makeCourier_19 ?_
  refine J_dup hx dX4_makeCourier_22 ?_
  refine g6_8 hx hW4 (rfl : kd 1 = 2) fl_X4_50 dX4_makeCourier_23 ?_
  refine J_iconst hx (1 : Int32) dX4_makeCourier_26 rfl ?_
  refine J_iadd hx dX4_makeCourier_27 ?_
  refine p6_8 hx hW4 (rfl : kd 1 = 2) fl_X4_50 dX4_makeCourier_28 fun G5 hW6 => ?_
  refine J_il4 hx rfl rfl dX4_makeCourier_31 ?_
  obtain rfl := Option.some.inj h
  exact J_iretW hx hr hW6 dX4_makeCourier_32 (Nat.le_refl 0) (Nat.le_refl 0)
theorem dX4_makeCrate_0 : decode cX4_makeCrate 0 = .ok (.aload_n 0, 1) := by decide +kernel
theorem dX4_makeCrate_1 : decode cX4_makeCrate 1 = .ok (.getfield 9, 3) := by decide +kernel
theorem dX4_makeCrate_4 : decode cX4_makeCrate 4 = .ok (.getfield 56, 3) := by decide +kernel
theorem dX4_makeCrate_7 : decode cX4_makeCrate 7 = .ok (.istore_n 3, 1) := by decide +kernel
theorem dX4_makeCrate_8 : decode cX4_makeCrate 8 = .ok (.aload_n 0, 1) := by decide +kernel
theorem dX4_makeCrate_9 : decode cX4_makeCrate 9 = .ok (.getfield 9, 3) := by decide +kernel
theorem dX4_makeCrate_12 : decode cX4_makeCrate 12 = .ok (.getfield 59, 3) := by decide +kernel
theorem dX4_makeCrate_15 : decode cX4_makeCrate 15 = .ok (.iload_n 3, 1) := by decide +kernel
theorem dX4_makeCrate_16 : decode cX4_makeCrate 16 = .ok (.aaload, 1) := by decide +kernel
theorem dX4_makeCrate_17 : decode cX4_makeCrate 17 = .ok (.astore 4, 2) := by decide +kernel
theorem dX4_makeCrate_19 : decode cX4_makeCrate 19 = .ok (.aload 4, 2) := by decide +kernel
theorem dX4_makeCrate_21 : decode cX4_makeCrate 21 = .ok (.iload_n 2, 1) := by decide +kernel
theorem dX4_makeCrate_22 : decode cX4_makeCrate 22 = .ok (.putfield 63, 3) := by decide +kernel
theorem dX4_makeCrate_25 : decode cX4_makeCrate 25 = .ok (.aload 4, 2) := by decide +kernel
theorem dX4_makeCrate_27 : decode cX4_makeCrate 27 = .ok (.iconst 1, 1) := by decide +kernel
theorem dX4_makeCrate_28 : decode cX4_makeCrate 28 = .ok (.putfield 68, 3) := by decide +kernel
theorem dX4_makeCrate_31 : decode cX4_makeCrate 31 = .ok (.aload 4, 2) := by decide +kernel
theorem dX4_makeCrate_33 : decode cX4_makeCrate 33 = .ok (.iload_n 1, 1) := by decide +kernel
theorem dX4_makeCrate_34 : decode cX4_makeCrate 34 = .ok (.invokevirtual 72, 3) := by decide +kernel
theorem dX4_makeCrate_37 : decode cX4_makeCrate 37 = .ok (.aload_n 0, 1) := by decide +kernel
theorem dX4_makeCrate_38 : decode cX4_makeCrate 38 = .ok (.getfield 9, 3) := by decide +kernel
theorem dX4_makeCrate_41 : decode cX4_makeCrate 41 = .ok (.dup, 1) := by decide +kernel
theorem dX4_makeCrate_42 : decode cX4_makeCrate 42 = .ok (.getfield 56, 3) := by decide +kernel
theorem dX4_makeCrate_45 : decode cX4_makeCrate 45 = .ok (.iconst 1, 1) := by decide +kernel
theorem dX4_makeCrate_46 : decode cX4_makeCrate 46 = .ok (.iadd, 1) := by decide +kernel
theorem dX4_makeCrate_47 : decode cX4_makeCrate 47 = .ok (.putfield 56, 3) := by decide +kernel
theorem dX4_makeCrate_50 : decode cX4_makeCrate 50 = .ok (.iload_n 3, 1) := by decide +kernel
theorem dX4_makeCrate_51 : decode cX4_makeCrate 51 = .ok (.ireturn, 1) := by decide +kernel
def sX4_makeCrate (w : Wl) (l1 : Int32) (l2 : Int32) : Option (Int32 × Wl) := (idx (w 1 6) 12).bind (fun c1 => (sX3_standAt (wst (wst w (29 + c1) 0 l2) (29 + c1) 1 (1 : Int32)) (29 + c1) l1).bind (fun r8 => some ((w 1 6), (wst r8 1 6 ((r8 1 6) + (1 : Int32))))))
theorem kX4_makeCrate {l : Launch} {Γ : Gl} {B : Bs} {w : Wl} {G : Gf} {sz : Nat} {l1 : Int32} {l2 : Int32} {r : (Int32 × Wl)} (hW : Wd Γ B w G) (h : sX4_makeCrate w l1 l2 = some r) : CtW l Γ yX4_makeCrate cX4_makeCrate 5 (some .int) 1 [.ref (B.1 + 74), .int l1, .int l2] G sz B (some (.int (r.1))) r.2 := by
  refine Ct.of rfl (Nat.le_of_ble_eq_true rfl) fun X hx hr hl hΓ hnm => ?_
  subst hl hΓ
  show J X 5 G sz 0 0 0 [some (.ref (B.1 + 74)), some (.int l1), some (.int l2), none, none] []
  unfold sX4_makeCrate at h
  refine J_al4 hx rfl rfl dX4_makeCrate_0 ?_
  refine g4_0 hx hW 1 (rfl : kd 74 = 12) fl_X4_9 rfl dX4_makeCrate_1 ?_
  refine g6_6 hx hW (rfl : kd 1 = 2) fl_X4_56 dX4_makeCrate_4 ?_
  refine J_is4 hx rfl (by decide) (hc_of rfl) rfl dX4_makeCrate_7 ?_
  refine J_al4 hx rfl rfl dX4_makeCrate_8 ?_
  refine g4_0 hx hW 1 (rfl : kd 74 = 12) fl_X4_9 rfl dX4_makeCrate_9 ?_
  refine g6_10 hx hW 3 (rfl : kd 1 = 2) fl_X4_59 rfl dX4_makeCrate_12 ?_
  refine J_il4 hx rfl rfl dX4_makeCrate_15 ?_
  obtain ⟨c1, hc2, h⟩ := bnd h
  refine J_a4 hx hW (29 + c1) (rfl : kd 3 = 4) hc2 rfl dX4_makeCrate_16 fun hk3 => ?_
  refine J_as hx (by decide) (hc_of rfl) rfl dX4_makeCrate_17 ?_
  refine J_al hx rfl dX4_makeCrate_19 ?_
  refine J_il4 hx rfl rfl dX4_makeCrate_21 ?_
  refine p3_0 hx hW hk3 fl_X4_63 dX4_makeCrate_22 fun G4 hW5 => ?_
  refine J_al hx rfl dX4_makeCrate_25 ?_
  refine J_iconst hx (1 : Int32) dX4_makeCrate_27 rfl ?_
  refine p3_1 hx hW5 hk3 fl_X4_68 (by decide) dX4_makeCrate_28 fun G6 hW7 => ?_
  refine J_al hx rfl dX4_makeCrate_31 ?_
  refine J_il4 hx rfl rfl dX4_makeCrate_33 ?_
  obtain ⟨r8, hr9, h⟩ := bnd h
  refine J_wrV hx (kX3_standAt hk3 hW7 hr9) ml_X4_72 lk_X3_standAt (ci := 2) rfl (hW7.obj hk3 (by decide) (by decide)) (rest := []) rfl rfl (by decide) (by decide) (Nat.le_of_ble_eq_true rfl) (Nat.le_refl 0) (Nat.le_refl 0) dX4_makeCrate_34 fun G10 hW11 => ?_
  show J X 5 G10 sz 0 0 37 [some (.ref (B.1 + 74)), some (.int l1), some (.int l2), some (.int (w 1 6)), some (.ref (B.1 + (29 + c1)))] []
  refine J_al4 hx rfl rfl dX4_makeCrate_37 ?_
  refine g4_0 hx hW11 1 (rfl : kd 74 = 12) fl_X4_9 rfl dX4_makeCrate_38 ?_
  refine J_dup hx dX4_makeCrate_41 ?_
  refine g6_6 hx hW11 (rfl : kd 1 = 2) fl_X4_56 dX4_makeCrate_42 ?_
  refine J_iconst hx (1 : Int32) dX4_makeCrate_45 rfl ?_
  refine J_iadd hx dX4_makeCrate_46 ?_
  refine p6_6 hx hW11 (rfl : kd 1 = 2) fl_X4_56 dX4_makeCrate_47 fun G12 hW13 => ?_
  refine J_il4 hx rfl rfl dX4_makeCrate_50 ?_
  obtain rfl := Option.some.inj h
  exact J_iretW hx hr hW13 dX4_makeCrate_51 (Nat.le_refl 0) (Nat.le_refl 0)
theorem dX4_makeWork_0 : decode cX4_makeWork 0 = .ok (.aload_n 0, 1) := by decide +kernel
theorem dX4_makeWork_1 : decode cX4_makeWork 1 = .ok (.getfield 9, 3) := by decide +kernel
theorem dX4_makeWork_4 : decode cX4_makeWork 4 = .ok (.getfield 76, 3) := by decide +kernel
theorem dX4_makeWork_7 : decode cX4_makeWork 7 = .ok (.istore 6, 2) := by decide +kernel
theorem dX4_makeWork_9 : decode cX4_makeWork 9 = .ok (.aload_n 0, 1) := by decide +kernel
theorem dX4_makeWork_10 : decode cX4_makeWork 10 = .ok (.getfield 9, 3) := by decide +kernel
theorem dX4_makeWork_13 : decode cX4_makeWork 13 = .ok (.getfield 79, 3) := by decide +kernel
theorem dX4_makeWork_16 : decode cX4_makeWork 16 = .ok (.iload 6, 2) := by decide +kernel
theorem dX4_makeWork_18 : decode cX4_makeWork 18 = .ok (.aaload, 1) := by decide +kernel
theorem dX4_makeWork_19 : decode cX4_makeWork 19 = .ok (.astore 7, 2) := by decide +kernel
theorem dX4_makeWork_21 : decode cX4_makeWork 21 = .ok (.aload 7, 2) := by decide +kernel
theorem dX4_makeWork_23 : decode cX4_makeWork 23 = .ok (.iload_n 2, 1) := by decide +kernel
theorem dX4_makeWork_24 : decode cX4_makeWork 24 = .ok (.putfield 83, 3) := by decide +kernel
theorem dX4_makeWork_27 : decode cX4_makeWork 27 = .ok (.aload 7, 2) := by decide +kernel
theorem dX4_makeWork_29 : decode cX4_makeWork 29 = .ok (.iload_n 3, 1) := by decide +kernel
theorem dX4_makeWork_30 : decode cX4_makeWork 30 = .ok (.putfield 88, 3) := by decide +kernel
theorem dX4_makeWork_33 : decode cX4_makeWork 33 = .ok (.aload 7, 2) := by decide +kernel
theorem dX4_makeWork_35 : decode cX4_makeWork 35 = .ok (.iload 4, 2) := by decide +kernel
theorem dX4_makeWork_37 : decode cX4_makeWork 37 = .ok (.putfield 91, 3) := by decide +kernel
theorem dX4_makeWork_40 : decode cX4_makeWork 40 = .ok (.aload 7, 2) := by decide +kernel
theorem dX4_makeWork_42 : decode cX4_makeWork 42 = .ok (.iload 5, 2) := by decide +kernel
theorem dX4_makeWork_44 : decode cX4_makeWork 44 = .ok (.putfield 94, 3) := by decide +kernel
theorem dX4_makeWork_47 : decode cX4_makeWork 47 = .ok (.aload 7, 2) := by decide +kernel
theorem dX4_makeWork_49 : decode cX4_makeWork 49 = .ok (.iconst (-1), 1) := by decide +kernel
theorem dX4_makeWork_50 : decode cX4_makeWork 50 = .ok (.putfield 97, 3) := by decide +kernel
theorem dX4_makeWork_53 : decode cX4_makeWork 53 = .ok (.aload 7, 2) := by decide +kernel
theorem dX4_makeWork_55 : decode cX4_makeWork 55 = .ok (.iload_n 1, 1) := by decide +kernel
theorem dX4_makeWork_56 : decode cX4_makeWork 56 = .ok (.putfield 100, 3) := by decide +kernel
theorem dX4_makeWork_59 : decode cX4_makeWork 59 = .ok (.aload_n 0, 1) := by decide +kernel
theorem dX4_makeWork_60 : decode cX4_makeWork 60 = .ok (.getfield 9, 3) := by decide +kernel
theorem dX4_makeWork_63 : decode cX4_makeWork 63 = .ok (.dup, 1) := by decide +kernel
theorem dX4_makeWork_64 : decode cX4_makeWork 64 = .ok (.getfield 76, 3) := by decide +kernel
theorem dX4_makeWork_67 : decode cX4_makeWork 67 = .ok (.iconst 1, 1) := by decide +kernel
theorem dX4_makeWork_68 : decode cX4_makeWork 68 = .ok (.iadd, 1) := by decide +kernel
theorem dX4_makeWork_69 : decode cX4_makeWork 69 = .ok (.putfield 76, 3) := by decide +kernel
theorem dX4_makeWork_72 : decode cX4_makeWork 72 = .ok (.iload 6, 2) := by decide +kernel
theorem dX4_makeWork_74 : decode cX4_makeWork 74 = .ok (.ireturn, 1) := by decide +kernel
def sX4_makeWork (w : Wl) (l1 : Int32) (l2 : Int32) (l3 : Int32) (l4 : Int32) (l5 : Int32) : Option (Int32 × Wl) := (idx (w 1 7) 16).bind (fun c1 => if l5 = 0 ∨ l5 = 1 then some ((w 1 7), (wst (wst (wst (wst (wst (wst (wst w (41 + 2 * c1) 0 l2) (41 + 2 * c1) 1 l3) (41 + 2 * c1) 2 l4) (41 + 2 * c1) 3 l5) (41 + 2 * c1) 4 (-1 : Int32)) (41 + 2 * c1) 5 l1) 1 7 (((wst (wst (wst (wst (wst (wst w (41 + 2 * c1) 0 l2) (41 + 2 * c1) 1 l3) (41 + 2 * c1) 2 l4) (41 + 2 * c1) 3 l5) (41 + 2 * c1) 4 (-1 : Int32)) (41 + 2 * c1) 5 l1) 1 7) + (1 : Int32)))) else none)
theorem kX4_makeWork {l : Launch} {Γ : Gl} {B : Bs} {w : Wl} {G : Gf} {sz : Nat} {l1 : Int32} {l2 : Int32} {l3 : Int32} {l4 : Int32} {l5 : Int32} {r : (Int32 × Wl)} (hW : Wd Γ B w G) (h : sX4_makeWork w l1 l2 l3 l4 l5 = some r) : CtW l Γ yX4_makeWork cX4_makeWork 8 (some .int) 0 [.ref (B.1 + 74), .int l1, .int l2, .int l3, .int l4, .int l5] G sz B (some (.int (r.1))) r.2 := by
  refine Ct.of rfl (Nat.le_of_ble_eq_true rfl) fun X hx hr hl hΓ hnm => ?_
  subst hl hΓ
  show J X 8 G sz 0 0 0 [some (.ref (B.1 + 74)), some (.int l1), some (.int l2), some (.int l3), some (.int l4), some (.int l5), none, none] []
  unfold sX4_makeWork at h
  refine J_al4 hx rfl rfl dX4_makeWork_0 ?_
  refine g4_0 hx hW 1 (rfl : kd 74 = 12) fl_X4_9 rfl dX4_makeWork_1 ?_
  refine g6_7 hx hW (rfl : kd 1 = 2) fl_X4_76 dX4_makeWork_4 ?_
  refine J_is hx (by decide) (hc_of rfl) rfl dX4_makeWork_7 ?_
  refine J_al4 hx rfl rfl dX4_makeWork_9 ?_
  refine g4_0 hx hW 1 (rfl : kd 74 = 12) fl_X4_9 rfl dX4_makeWork_10 ?_
  refine g6_11 hx hW 4 (rfl : kd 1 = 2) fl_X4_79 rfl dX4_makeWork_13 ?_
  refine J_il hx rfl dX4_makeWork_16 ?_
  obtain ⟨c1, hc2, h⟩ := bnd h
  refine J_a5 hx hW (41 + 2 * c1) (rfl : kd 4 = 5) hc2 rfl dX4_makeWork_18 fun hk3 => ?_
  refine J_as hx (by decide) (hc_of rfl) rfl dX4_makeWork_19 ?_
  refine J_al hx rfl dX4_makeWork_21 ?_
  refine J_il4 hx rfl rfl dX4_makeWork_23 ?_
  refine p11_0 hx hW hk3 fl_X4_83 dX4_makeWork_24 fun G4 hW5 => ?_
  refine J_al hx rfl dX4_makeWork_27 ?_
  refine J_il4 hx rfl rfl dX4_makeWork_29 ?_
  refine p11_1 hx hW5 hk3 fl_X4_88 dX4_makeWork_30 fun G6 hW7 => ?_
  refine J_al hx rfl dX4_makeWork_33 ?_
  refine J_il hx rfl dX4_makeWork_35 ?_
  refine p11_2 hx hW7 hk3 fl_X4_91 dX4_makeWork_37 fun G8 hW9 => ?_
  refine J_al hx rfl dX4_makeWork_40 ?_
  refine J_il hx rfl dX4_makeWork_42 ?_
  obtain ⟨hz12, h⟩ := grd h
  refine p11_3 hx hW9 hk3 fl_X4_94 hz12 dX4_makeWork_44 fun G10 hW11 => ?_
  refine J_al hx rfl dX4_makeWork_47 ?_
  refine J_iconst hx (-1 : Int32) dX4_makeWork_49 rfl ?_
  refine p11_4 hx hW11 hk3 fl_X4_97 dX4_makeWork_50 fun G13 hW14 => ?_
  refine J_al hx rfl dX4_makeWork_53 ?_
  refine J_il4 hx rfl rfl dX4_makeWork_55 ?_
  refine p11_5 hx hW14 hk3 fl_X4_100 dX4_makeWork_56 fun G15 hW16 => ?_
  refine J_al4 hx rfl rfl dX4_makeWork_59 ?_
  refine g4_0 hx hW16 1 (rfl : kd 74 = 12) fl_X4_9 rfl dX4_makeWork_60 ?_
  refine J_dup hx dX4_makeWork_63 ?_
  refine g6_7 hx hW16 (rfl : kd 1 = 2) fl_X4_76 dX4_makeWork_64 ?_
  refine J_iconst hx (1 : Int32) dX4_makeWork_67 rfl ?_
  refine J_iadd hx dX4_makeWork_68 ?_
  refine p6_7 hx hW16 (rfl : kd 1 = 2) fl_X4_76 dX4_makeWork_69 fun G17 hW18 => ?_
  refine J_il hx rfl dX4_makeWork_72 ?_
  obtain rfl := Option.some.inj h
  exact J_iretW hx hr hW18 dX4_makeWork_74 (Nat.le_refl 0) (Nat.le_refl 0)
theorem dX4_openCrate_0 : decode cX4_openCrate 0 = .ok (.aload_n 0, 1) := by decide +kernel
theorem dX4_openCrate_1 : decode cX4_openCrate 1 = .ok (.getfield 9, 3) := by decide +kernel
theorem dX4_openCrate_4 : decode cX4_openCrate 4 = .ok (.getfield 59, 3) := by decide +kernel
theorem dX4_openCrate_7 : decode cX4_openCrate 7 = .ok (.iload_n 1, 1) := by decide +kernel
theorem dX4_openCrate_8 : decode cX4_openCrate 8 = .ok (.aaload, 1) := by decide +kernel
theorem dX4_openCrate_9 : decode cX4_openCrate 9 = .ok (.iconst 1, 1) := by decide +kernel
theorem dX4_openCrate_10 : decode cX4_openCrate 10 = .ok (.putfield 68, 3) := by decide +kernel
theorem dX4_openCrate_13 : decode cX4_openCrate 13 = .ok (.iconst 0, 1) := by decide +kernel
theorem dX4_openCrate_14 : decode cX4_openCrate 14 = .ok (.istore_n 2, 1) := by decide +kernel
theorem dX4_openCrate_15 : decode cX4_openCrate 15 = .ok (.iload_n 2, 1) := by decide +kernel
theorem dX4_openCrate_16 : decode cX4_openCrate 16 = .ok (.aload_n 0, 1) := by decide +kernel
theorem dX4_openCrate_17 : decode cX4_openCrate 17 = .ok (.getfield 9, 3) := by decide +kernel
theorem dX4_openCrate_20 : decode cX4_openCrate 20 = .ok (.getfield 56, 3) := by decide +kernel
theorem dX4_openCrate_23 : decode cX4_openCrate 23 = .ok (.if_icmp .ge 45, 3) := by decide +kernel
theorem dX4_openCrate_26 : decode cX4_openCrate 26 = .ok (.aload_n 0, 1) := by decide +kernel
theorem dX4_openCrate_27 : decode cX4_openCrate 27 = .ok (.getfield 9, 3) := by decide +kernel
theorem dX4_openCrate_30 : decode cX4_openCrate 30 = .ok (.getfield 59, 3) := by decide +kernel
theorem dX4_openCrate_33 : decode cX4_openCrate 33 = .ok (.iload_n 2, 1) := by decide +kernel
theorem dX4_openCrate_34 : decode cX4_openCrate 34 = .ok (.aaload, 1) := by decide +kernel
theorem dX4_openCrate_35 : decode cX4_openCrate 35 = .ok (.astore_n 3, 1) := by decide +kernel
theorem dX4_openCrate_36 : decode cX4_openCrate 36 = .ok (.aload_n 3, 1) := by decide +kernel
theorem dX4_openCrate_37 : decode cX4_openCrate 37 = .ok (.getfield 103, 3) := by decide +kernel
theorem dX4_openCrate_40 : decode cX4_openCrate 40 = .ok (.iload_n 1, 1) := by decide +kernel
theorem dX4_openCrate_41 : decode cX4_openCrate 41 = .ok (.if_icmp .ne 21, 3) := by decide +kernel
theorem dX4_openCrate_44 : decode cX4_openCrate 44 = .ok (.aload_n 3, 1) := by decide +kernel
theorem dX4_openCrate_45 : decode cX4_openCrate 45 = .ok (.getfield 68, 3) := by decide +kernel
theorem dX4_openCrate_48 : decode cX4_openCrate 48 = .ok (.ifCond .ne 14, 3) := by decide +kernel
theorem dX4_openCrate_51 : decode cX4_openCrate 51 = .ok (.aload_n 3, 1) := by decide +kernel
theorem dX4_openCrate_52 : decode cX4_openCrate 52 = .ok (.aload_n 0, 1) := by decide +kernel
theorem dX4_openCrate_53 : decode cX4_openCrate 53 = .ok (.getfield 9, 3) := by decide +kernel
theorem dX4_openCrate_56 : decode cX4_openCrate 56 = .ok (.getfield 106, 3) := by decide +kernel
theorem dX4_openCrate_59 : decode cX4_openCrate 59 = .ok (.putfield 109, 3) := by decide +kernel
theorem dX4_openCrate_62 : decode cX4_openCrate 62 = .ok (.iinc 2 1, 3) := by decide +kernel
theorem dX4_openCrate_65 : decode cX4_openCrate 65 = .ok (.goto (-50), 3) := by decide +kernel
theorem dX4_openCrate_68 : decode cX4_openCrate 68 = .ok (.aload_n 0, 1) := by decide +kernel
theorem dX4_openCrate_69 : decode cX4_openCrate 69 = .ok (.getfield 9, 3) := by decide +kernel
theorem dX4_openCrate_72 : decode cX4_openCrate 72 = .ok (.iload_n 1, 1) := by decide +kernel
theorem dX4_openCrate_73 : decode cX4_openCrate 73 = .ok (.invokevirtual 112, 3) := by decide +kernel
theorem dX4_openCrate_76 : decode cX4_openCrate 76 = .ok (.ireturn, 1) := by decide +kernel
def sX4_openCrate_15 : Nat → Wl → Int32 → Int32 → Option (Int32 × Wl)
  | 0, _, _, _ => none
  | n + 1, w, l1, l2 => (if (w 1 6) ≤ l2 then (sX6_worksDirectlyIn w l1).bind (fun r2 => some (r2, w)) else (idx l2 12).bind (fun c4 => (if (w (29 + c4) 2) = l1 then (if (w (29 + c4) 1) = 0 then sX4_openCrate_15 n (wst w (29 + c4) 9 (w 1 0)) l1 (l2 + 1) else sX4_openCrate_15 n w l1 (l2 + 1)) else sX4_openCrate_15 n w l1 (l2 + 1))))
theorem tX4_openCrate_15 {X : Cx} {B : Bs} {sz : Nat} {r : (Int32 × Wl)} (hx : Fx X cX4_openCrate 4 RX4 1 0 0) (hr : Rt X (some .int) 0 0 (WΨ (xΓ X) B (some (.int (r.1))) r.2 sz)) : ∀ (n : Nat), ∀ (w : Wl) (l1 : Int32) (l2 : Int32) {G : Gf} (hW : Wd (xΓ X) B w G) (h : sX4_openCrate_15 n w l1 l2 = some r), J X 4 G sz 0 0 15 [some (.ref (B.1 + 74)), some (.int l1), some (.int l2), none] [] := by
  intro n
  induction n with
  | zero => intro w l1 l2 G hW h; rw [sX4_openCrate_15.eq_1] at h; cases h
  | succ n ih =>
    intro w l1 l2 G hW h
    rw [sX4_openCrate_15.eq_2] at h
    refine J_il4 hx rfl rfl dX4_openCrate_15 ?_
    refine J_al4 hx rfl rfl dX4_openCrate_16 ?_
    refine g4_0 hx hW 1 (rfl : kd 74 = 12) fl_X4_9 rfl dX4_openCrate_17 ?_
    refine g6_6 hx hW (rfl : kd 1 = 2) fl_X4_56 dX4_openCrate_20 ?_
    refine J_icmp_ge hx 68 dX4_openCrate_23 rfl (fun h1 => ?_) (fun h1 => ?_)
    · replace h := pos h h1
      refine J_al4 hx rfl rfl dX4_openCrate_68 ?_
      refine g4_0 hx hW 1 (rfl : kd 74 = 12) fl_X4_9 rfl dX4_openCrate_69 ?_
      refine J_il4 hx rfl rfl dX4_openCrate_72 ?_
      obtain ⟨r2, hr3, h⟩ := bnd h
      refine J_rdV hx (kX6_worksDirectlyIn  hW hr3) ml_X4_112 lk_X6_worksDirectlyIn (ci := 5) rfl (hW.obj (rfl : kd 1 = 2) (by decide) (by decide)) (rest := []) rfl rfl (by decide) (by decide) (Nat.le_of_ble_eq_true rfl) (Nat.le_refl 0) (Nat.le_refl 0) dX4_openCrate_73 ?_
      obtain rfl := Option.some.inj h
      exact J_iretW hx hr hW dX4_openCrate_76 (Nat.le_refl 0) (Nat.le_refl 0)
    · replace h := neg h h1
      refine J_al4 hx rfl rfl dX4_openCrate_26 ?_
      refine g4_0 hx hW 1 (rfl : kd 74 = 12) fl_X4_9 rfl dX4_openCrate_27 ?_
      refine g6_10 hx hW 3 (rfl : kd 1 = 2) fl_X4_59 rfl dX4_openCrate_30 ?_
      refine J_il4 hx rfl rfl dX4_openCrate_33 ?_
      obtain ⟨c4, hc5, h⟩ := bnd h
      refine J_a4 hx hW (29 + c4) (rfl : kd 3 = 4) hc5 rfl dX4_openCrate_34 fun hk6 => ?_
      refine J_as4 hx rfl (by decide) (hc_of rfl) rfl dX4_openCrate_35 ?_
      refine J_al4 hx rfl rfl dX4_openCrate_36 ?_
      refine g3_2 hx hW hk6 fl_X4_103 dX4_openCrate_37 ?_
      refine J_il4 hx rfl rfl dX4_openCrate_40 ?_
      refine J_icmp_ne hx 62 dX4_openCrate_41 rfl (fun h7 => ?_) (fun h7 => ?_)
      · replace h := neg h h7
        refine J_iinc hx (v' := (l2 + 1)) rfl rfl (by decide) (hc_of rfl) rfl dX4_openCrate_62 ?_
        refine J_goto hx 15 dX4_openCrate_65 rfl ?_
        refine J_lw (ls' := [some (.ref (B.1 + 74)), some (.int l1), some (.int (l2 + 1)), none]) (lwS (lwS (lwS (lwN lwZ)))) ?_
        exact ih _ _ _  hW h
      · replace h := pos h h7
        refine J_al4 hx rfl rfl dX4_openCrate_44 ?_
        refine g3_1 hx hW hk6 fl_X4_68 dX4_openCrate_45 ?_
        refine J_if_ne hx 62 dX4_openCrate_48 rfl (fun h8 => ?_) (fun h8 => ?_)
        · replace h := neg h h8
          refine J_iinc hx (v' := (l2 + 1)) rfl rfl (by decide) (hc_of rfl) rfl dX4_openCrate_62 ?_
          refine J_goto hx 15 dX4_openCrate_65 rfl ?_
          refine J_lw (ls' := [some (.ref (B.1 + 74)), some (.int l1), some (.int (l2 + 1)), none]) (lwS (lwS (lwS (lwN lwZ)))) ?_
          exact ih _ _ _  hW h
        · replace h := pos h h8
          refine J_al4 hx rfl rfl dX4_openCrate_51 ?_
          refine J_al4 hx rfl rfl dX4_openCrate_52 ?_
          refine g4_0 hx hW 1 (rfl : kd 74 = 12) fl_X4_9 rfl dX4_openCrate_53 ?_
          refine g6_0 hx hW (rfl : kd 1 = 2) fl_X4_106 dX4_openCrate_56 ?_
          refine p3_9 hx hW hk6 fl_X4_109 dX4_openCrate_59 fun G9 hW10 => ?_
          refine J_iinc hx (v' := (l2 + 1)) rfl rfl (by decide) (hc_of rfl) rfl dX4_openCrate_62 ?_
          refine J_goto hx 15 dX4_openCrate_65 rfl ?_
          refine J_lw (ls' := [some (.ref (B.1 + 74)), some (.int l1), some (.int (l2 + 1)), none]) (lwS (lwS (lwS (lwN lwZ)))) ?_
          exact ih _ _ _  hW10 h
def sX4_openCrate (w : Wl) (l1 : Int32) : Option (Int32 × Wl) := (idx l1 12).bind (fun c1 => sX4_openCrate_15 FU (wst w (29 + c1) 1 (1 : Int32)) l1 (0 : Int32))
theorem kX4_openCrate {l : Launch} {Γ : Gl} {B : Bs} {w : Wl} {G : Gf} {sz : Nat} {l1 : Int32} {r : (Int32 × Wl)} (hW : Wd Γ B w G) (h : sX4_openCrate w l1 = some r) : CtW l Γ yX4_openCrate cX4_openCrate 4 (some .int) 1 [.ref (B.1 + 74), .int l1] G sz B (some (.int (r.1))) r.2 := by
  refine Ct.of rfl (Nat.le_of_ble_eq_true rfl) fun X hx hr hl hΓ hnm => ?_
  subst hl hΓ
  show J X 4 G sz 0 0 0 [some (.ref (B.1 + 74)), some (.int l1), none, none] []
  unfold sX4_openCrate at h
  refine J_al4 hx rfl rfl dX4_openCrate_0 ?_
  refine g4_0 hx hW 1 (rfl : kd 74 = 12) fl_X4_9 rfl dX4_openCrate_1 ?_
  refine g6_10 hx hW 3 (rfl : kd 1 = 2) fl_X4_59 rfl dX4_openCrate_4 ?_
  refine J_il4 hx rfl rfl dX4_openCrate_7 ?_
  obtain ⟨c1, hc2, h⟩ := bnd h
  refine J_a4 hx hW (29 + c1) (rfl : kd 3 = 4) hc2 rfl dX4_openCrate_8 fun hk3 => ?_
  refine J_iconst hx (1 : Int32) dX4_openCrate_9 rfl ?_
  refine p3_1 hx hW hk3 fl_X4_68 (by decide) dX4_openCrate_10 fun G4 hW5 => ?_
  refine J_iconst hx (0 : Int32) dX4_openCrate_13 rfl ?_
  refine J_is4 hx rfl (by decide) (hc_of rfl) rfl dX4_openCrate_14 ?_
  exact tX4_openCrate_15 hx hr _ _ _ _  hW5 h
theorem dX4_closeCrate_0 : decode cX4_closeCrate 0 = .ok (.aload_n 0, 1) := by decide +kernel
theorem dX4_closeCrate_1 : decode cX4_closeCrate 1 = .ok (.getfield 9, 3) := by decide +kernel
theorem dX4_closeCrate_4 : decode cX4_closeCrate 4 = .ok (.getfield 59, 3) := by decide +kernel
theorem dX4_closeCrate_7 : decode cX4_closeCrate 7 = .ok (.iload_n 1, 1) := by decide +kernel
theorem dX4_closeCrate_8 : decode cX4_closeCrate 8 = .ok (.aaload, 1) := by decide +kernel
theorem dX4_closeCrate_9 : decode cX4_closeCrate 9 = .ok (.astore_n 2, 1) := by decide +kernel
theorem dX4_closeCrate_10 : decode cX4_closeCrate 10 = .ok (.aload_n 0, 1) := by decide +kernel
theorem dX4_closeCrate_11 : decode cX4_closeCrate 11 = .ok (.getfield 9, 3) := by decide +kernel
theorem dX4_closeCrate_14 : decode cX4_closeCrate 14 = .ok (.iload_n 1, 1) := by decide +kernel
theorem dX4_closeCrate_15 : decode cX4_closeCrate 15 = .ok (.invokevirtual 116, 3) := by decide +kernel
theorem dX4_closeCrate_18 : decode cX4_closeCrate 18 = .ok (.istore_n 3, 1) := by decide +kernel
theorem dX4_closeCrate_19 : decode cX4_closeCrate 19 = .ok (.aload_n 0, 1) := by decide +kernel
theorem dX4_closeCrate_20 : decode cX4_closeCrate 20 = .ok (.getfield 9, 3) := by decide +kernel
theorem dX4_closeCrate_23 : decode cX4_closeCrate 23 = .ok (.iload_n 3, 1) := by decide +kernel
theorem dX4_closeCrate_24 : decode cX4_closeCrate 24 = .ok (.invokevirtual 119, 3) := by decide +kernel
theorem dX4_closeCrate_27 : decode cX4_closeCrate 27 = .ok (.ifCond .eq 35, 3) := by decide +kernel
theorem dX4_closeCrate_30 : decode cX4_closeCrate 30 = .ok (.aload_n 2, 1) := by decide +kernel
theorem dX4_closeCrate_31 : decode cX4_closeCrate 31 = .ok (.aload_n 0, 1) := by decide +kernel
theorem dX4_closeCrate_32 : decode cX4_closeCrate 32 = .ok (.getfield 9, 3) := by decide +kernel
theorem dX4_closeCrate_35 : decode cX4_closeCrate 35 = .ok (.getfield 21, 3) := by decide +kernel
theorem dX4_closeCrate_38 : decode cX4_closeCrate 38 = .ok (.iload_n 3, 1) := by decide +kernel
theorem dX4_closeCrate_39 : decode cX4_closeCrate 39 = .ok (.aaload, 1) := by decide +kernel
theorem dX4_closeCrate_40 : decode cX4_closeCrate 40 = .ok (.getfield 25, 3) := by decide +kernel
theorem dX4_closeCrate_43 : decode cX4_closeCrate 43 = .ok (.putfield 123, 3) := by decide +kernel
theorem dX4_closeCrate_46 : decode cX4_closeCrate 46 = .ok (.aload_n 2, 1) := by decide +kernel
theorem dX4_closeCrate_47 : decode cX4_closeCrate 47 = .ok (.aload_n 0, 1) := by decide +kernel
theorem dX4_closeCrate_48 : decode cX4_closeCrate 48 = .ok (.getfield 9, 3) := by decide +kernel
theorem dX4_closeCrate_51 : decode cX4_closeCrate 51 = .ok (.getfield 21, 3) := by decide +kernel
theorem dX4_closeCrate_54 : decode cX4_closeCrate 54 = .ok (.iload_n 3, 1) := by decide +kernel
theorem dX4_closeCrate_55 : decode cX4_closeCrate 55 = .ok (.aaload, 1) := by decide +kernel
theorem dX4_closeCrate_56 : decode cX4_closeCrate 56 = .ok (.getfield 30, 3) := by decide +kernel
theorem dX4_closeCrate_59 : decode cX4_closeCrate 59 = .ok (.putfield 124, 3) := by decide +kernel
theorem dX4_closeCrate_62 : decode cX4_closeCrate 62 = .ok (.aload_n 2, 1) := by decide +kernel
theorem dX4_closeCrate_63 : decode cX4_closeCrate 63 = .ok (.iconst 0, 1) := by decide +kernel
theorem dX4_closeCrate_64 : decode cX4_closeCrate 64 = .ok (.putfield 68, 3) := by decide +kernel
theorem dX4_closeCrate_67 : decode cX4_closeCrate 67 = .ok (.aload_n 2, 1) := by decide +kernel
theorem dX4_closeCrate_68 : decode cX4_closeCrate 68 = .ok (.aload_n 0, 1) := by decide +kernel
theorem dX4_closeCrate_69 : decode cX4_closeCrate 69 = .ok (.getfield 9, 3) := by decide +kernel
theorem dX4_closeCrate_72 : decode cX4_closeCrate 72 = .ok (.getfield 106, 3) := by decide +kernel
theorem dX4_closeCrate_75 : decode cX4_closeCrate 75 = .ok (.putfield 109, 3) := by decide +kernel
theorem dX4_closeCrate_78 : decode cX4_closeCrate 78 = .ok (.aload_n 0, 1) := by decide +kernel
theorem dX4_closeCrate_79 : decode cX4_closeCrate 79 = .ok (.getfield 9, 3) := by decide +kernel
theorem dX4_closeCrate_82 : decode cX4_closeCrate 82 = .ok (.iload_n 1, 1) := by decide +kernel
theorem dX4_closeCrate_83 : decode cX4_closeCrate 83 = .ok (.invokevirtual 125, 3) := by decide +kernel
theorem dX4_closeCrate_86 : decode cX4_closeCrate 86 = .ok (.ireturn, 1) := by decide +kernel
def sX4_closeCrate_62 (w : Wl) (l1 : Int32) (o2 : Nat) : Option (Int32 × Wl) := (sX6_worksInOrBelow (wst (wst w o2 1 (0 : Int32)) o2 9 ((wst w o2 1 (0 : Int32)) 1 0)) l1).bind (fun r5 => some (r5, (wst (wst w o2 1 (0 : Int32)) o2 9 ((wst w o2 1 (0 : Int32)) 1 0))))
theorem tX4_closeCrate_62 {X : Cx} {B : Bs} {sz : Nat} {r : (Int32 × Wl)} (hx : Fx X cX4_closeCrate 4 RX4 3 0 0) (hr : Rt X (some .int) 0 0 (WΨ (xΓ X) B (some (.int (r.1))) r.2 sz)) : ∀ (w : Wl) (l1 : Int32) (o2 : Nat) (ho2 : kd o2 = 9) {G : Gf} (hW : Wd (xΓ X) B w G) (h : sX4_closeCrate_62  w l1 o2 = some r), J X 4 G sz 0 0 62 [some (.ref (B.1 + 74)), some (.int l1), some (.ref (B.1 + o2)), none] [] := by
  intro w l1 o2 ho2 G hW h
  unfold sX4_closeCrate_62 at h
  refine J_al4 hx rfl rfl dX4_closeCrate_62 ?_
  refine J_iconst hx (0 : Int32) dX4_closeCrate_63 rfl ?_
  refine p3_1 hx hW ho2 fl_X4_68 (by decide) dX4_closeCrate_64 fun G1 hW2 => ?_
  refine J_al4 hx rfl rfl dX4_closeCrate_67 ?_
  refine J_al4 hx rfl rfl dX4_closeCrate_68 ?_
  refine g4_0 hx hW2 1 (rfl : kd 74 = 12) fl_X4_9 rfl dX4_closeCrate_69 ?_
  refine g6_0 hx hW2 (rfl : kd 1 = 2) fl_X4_106 dX4_closeCrate_72 ?_
  refine p3_9 hx hW2 ho2 fl_X4_109 dX4_closeCrate_75 fun G3 hW4 => ?_
  refine J_al4 hx rfl rfl dX4_closeCrate_78 ?_
  refine g4_0 hx hW4 1 (rfl : kd 74 = 12) fl_X4_9 rfl dX4_closeCrate_79 ?_
  refine J_il4 hx rfl rfl dX4_closeCrate_82 ?_
  obtain ⟨r5, hr6, h⟩ := bnd h
  refine J_rdV hx (kX6_worksInOrBelow  hW4 hr6) ml_X4_125 lk_X6_worksInOrBelow (ci := 5) rfl (hW4.obj (rfl : kd 1 = 2) (by decide) (by decide)) (rest := []) rfl rfl (by decide) (by decide) (Nat.le_of_ble_eq_true rfl) (Nat.le_refl 0) (Nat.le_refl 0) dX4_closeCrate_83 ?_
  obtain rfl := Option.some.inj h
  exact J_iretW hx hr hW4 dX4_closeCrate_86 (Nat.le_refl 0) (Nat.le_refl 0)
def sX4_closeCrate (w : Wl) (l1 : Int32) : Option (Int32 × Wl) := (idx l1 12).bind (fun c1 => (sX6_venueOfCrate w l1).bind (fun r4 => (sX6_hasVenue w r4).bind (fun r6 => (if r6 = true then (idx r4 8).bind (fun c9 => sX4_closeCrate_62 (wst (wst w (29 + c1) 7 (w (13 + 2 * c9) 0)) (29 + c1) 8 ((wst w (29 + c1) 7 (w (13 + 2 * c9) 0)) (13 + 2 * c9) 1)) l1 (29 + c1)) else sX4_closeCrate_62 w l1 (29 + c1)))))
theorem kX4_closeCrate {l : Launch} {Γ : Gl} {B : Bs} {w : Wl} {G : Gf} {sz : Nat} {l1 : Int32} {r : (Int32 × Wl)} (hW : Wd Γ B w G) (h : sX4_closeCrate w l1 = some r) : CtW l Γ yX4_closeCrate cX4_closeCrate 4 (some .int) 3 [.ref (B.1 + 74), .int l1] G sz B (some (.int (r.1))) r.2 := by
  refine Ct.of rfl (Nat.le_of_ble_eq_true rfl) fun X hx hr hl hΓ hnm => ?_
  subst hl hΓ
  show J X 4 G sz 0 0 0 [some (.ref (B.1 + 74)), some (.int l1), none, none] []
  unfold sX4_closeCrate at h
  refine J_al4 hx rfl rfl dX4_closeCrate_0 ?_
  refine g4_0 hx hW 1 (rfl : kd 74 = 12) fl_X4_9 rfl dX4_closeCrate_1 ?_
  refine g6_10 hx hW 3 (rfl : kd 1 = 2) fl_X4_59 rfl dX4_closeCrate_4 ?_
  refine J_il4 hx rfl rfl dX4_closeCrate_7 ?_
  obtain ⟨c1, hc2, h⟩ := bnd h
  refine J_a4 hx hW (29 + c1) (rfl : kd 3 = 4) hc2 rfl dX4_closeCrate_8 fun hk3 => ?_
  refine J_as4 hx rfl (by decide) (hc_of rfl) rfl dX4_closeCrate_9 ?_
  refine J_al4 hx rfl rfl dX4_closeCrate_10 ?_
  refine g4_0 hx hW 1 (rfl : kd 74 = 12) fl_X4_9 rfl dX4_closeCrate_11 ?_
  refine J_il4 hx rfl rfl dX4_closeCrate_14 ?_
  obtain ⟨r4, hr5, h⟩ := bnd h
  refine J_rdV hx (kX6_venueOfCrate  hW hr5) ml_X4_116 lk_X6_venueOfCrate (ci := 5) rfl (hW.obj (rfl : kd 1 = 2) (by decide) (by decide)) (rest := []) rfl rfl (by decide) (by decide) (Nat.le_of_ble_eq_true rfl) (Nat.le_refl 0) (Nat.le_refl 0) dX4_closeCrate_15 ?_
  refine J_is4 hx rfl (by decide) (hc_of rfl) rfl dX4_closeCrate_18 ?_
  refine J_al4 hx rfl rfl dX4_closeCrate_19 ?_
  refine g4_0 hx hW 1 (rfl : kd 74 = 12) fl_X4_9 rfl dX4_closeCrate_20 ?_
  refine J_il4 hx rfl rfl dX4_closeCrate_23 ?_
  obtain ⟨r6, hr7, h⟩ := bnd h
  refine J_rdV hx (kX6_hasVenue  hW hr7) ml_X4_119 lk_X6_hasVenue (ci := 5) rfl (hW.obj (rfl : kd 1 = 2) (by decide) (by decide)) (rest := []) rfl rfl (by decide) (by decide) (Nat.le_of_ble_eq_true rfl) (Nat.le_refl 0) (Nat.le_refl 0) dX4_closeCrate_24 ?_
  refine J_bif_eq hx 62 dX4_closeCrate_27 rfl (fun h8 => ?_) (fun h8 => ?_)
  · replace h := neg h (bft h8)
    refine J_lw (ls' := [some (.ref (B.1 + 74)), some (.int l1), some (.ref (B.1 + (29 + c1))), none]) (lwS (lwS (lwS (lwN lwZ)))) ?_
    exact tX4_closeCrate_62 hx hr _ _ _ hk3 hW h
  · replace h := pos h h8
    refine J_al4 hx rfl rfl dX4_closeCrate_30 ?_
    refine J_al4 hx rfl rfl dX4_closeCrate_31 ?_
    refine g4_0 hx hW 1 (rfl : kd 74 = 12) fl_X4_9 rfl dX4_closeCrate_32 ?_
    refine g6_9 hx hW 2 (rfl : kd 1 = 2) fl_X4_21 rfl dX4_closeCrate_35 ?_
    refine J_il4 hx rfl rfl dX4_closeCrate_38 ?_
    obtain ⟨c9, hc10, h⟩ := bnd h
    refine J_a3 hx hW (13 + 2 * c9) (rfl : kd 2 = 3) hc10 rfl dX4_closeCrate_39 fun hk11 => ?_
    refine g9_0 hx hW hk11 fl_X4_25 dX4_closeCrate_40 ?_
    refine p3_7 hx hW hk3 fl_X4_123 dX4_closeCrate_43 fun G12 hW13 => ?_
    refine J_al4 hx rfl rfl dX4_closeCrate_46 ?_
    refine J_al4 hx rfl rfl dX4_closeCrate_47 ?_
    refine g4_0 hx hW13 1 (rfl : kd 74 = 12) fl_X4_9 rfl dX4_closeCrate_48 ?_
    refine g6_9 hx hW13 2 (rfl : kd 1 = 2) fl_X4_21 rfl dX4_closeCrate_51 ?_
    refine J_il4 hx rfl rfl dX4_closeCrate_54 ?_
    refine J_a3 hx hW13 (13 + 2 * c9) (rfl : kd 2 = 3) hc10 rfl dX4_closeCrate_55 fun hk14 => ?_
    refine g9_1 hx hW13 hk14 fl_X4_30 dX4_closeCrate_56 ?_
    refine p3_8 hx hW13 hk3 fl_X4_124 dX4_closeCrate_59 fun G15 hW16 => ?_
    refine J_lw (ls' := [some (.ref (B.1 + 74)), some (.int l1), some (.ref (B.1 + (29 + c1))), none]) (lwS (lwS (lwS (lwN lwZ)))) ?_
    exact tX4_closeCrate_62 hx hr _ _ _ hk3 hW16 h
theorem dX4_putCrateInto_0 : decode cX4_putCrateInto 0 = .ok (.aload_n 0, 1) := by decide +kernel
theorem dX4_putCrateInto_1 : decode cX4_putCrateInto 1 = .ok (.getfield 9, 3) := by decide +kernel
theorem dX4_putCrateInto_4 : decode cX4_putCrateInto 4 = .ok (.getfield 59, 3) := by decide +kernel
theorem dX4_putCrateInto_7 : decode cX4_putCrateInto 7 = .ok (.iload_n 1, 1) := by decide +kernel
theorem dX4_putCrateInto_8 : decode cX4_putCrateInto 8 = .ok (.aaload, 1) := by decide +kernel
theorem dX4_putCrateInto_9 : decode cX4_putCrateInto 9 = .ok (.iconst (-1), 1) := by decide +kernel
theorem dX4_putCrateInto_10 : decode cX4_putCrateInto 10 = .ok (.invokevirtual 72, 3) := by decide +kernel
theorem dX4_putCrateInto_13 : decode cX4_putCrateInto 13 = .ok (.aload_n 0, 1) := by decide +kernel
theorem dX4_putCrateInto_14 : decode cX4_putCrateInto 14 = .ok (.getfield 9, 3) := by decide +kernel
theorem dX4_putCrateInto_17 : decode cX4_putCrateInto 17 = .ok (.getfield 59, 3) := by decide +kernel
theorem dX4_putCrateInto_20 : decode cX4_putCrateInto 20 = .ok (.iload_n 1, 1) := by decide +kernel
theorem dX4_putCrateInto_21 : decode cX4_putCrateInto 21 = .ok (.aaload, 1) := by decide +kernel
theorem dX4_putCrateInto_22 : decode cX4_putCrateInto 22 = .ok (.iload_n 2, 1) := by decide +kernel
theorem dX4_putCrateInto_23 : decode cX4_putCrateInto 23 = .ok (.putfield 103, 3) := by decide +kernel
theorem dX4_putCrateInto_26 : decode cX4_putCrateInto 26 = .ok (.aload_n 0, 1) := by decide +kernel
theorem dX4_putCrateInto_27 : decode cX4_putCrateInto 27 = .ok (.getfield 9, 3) := by decide +kernel
theorem dX4_putCrateInto_30 : decode cX4_putCrateInto 30 = .ok (.iload_n 2, 1) := by decide +kernel
theorem dX4_putCrateInto_31 : decode cX4_putCrateInto 31 = .ok (.invokevirtual 128, 3) := by decide +kernel
theorem dX4_putCrateInto_34 : decode cX4_putCrateInto 34 = .ok (.ireturn, 1) := by decide +kernel
def sX4_putCrateInto (w : Wl) (l1 : Int32) (l2 : Int32) : Option (Int32 × Wl) := (idx l1 12).bind (fun c1 => (sX3_standAt w (29 + c1) (-1 : Int32)).bind (fun r4 => (sX6_cratesDirectlyIn (wst r4 (29 + c1) 2 l2) l2).bind (fun r11 => some (r11, (wst r4 (29 + c1) 2 l2)))))
theorem kX4_putCrateInto {l : Launch} {Γ : Gl} {B : Bs} {w : Wl} {G : Gf} {sz : Nat} {l1 : Int32} {l2 : Int32} {r : (Int32 × Wl)} (hW : Wd Γ B w G) (h : sX4_putCrateInto w l1 l2 = some r) : CtW l Γ yX4_putCrateInto cX4_putCrateInto 3 (some .int) 1 [.ref (B.1 + 74), .int l1, .int l2] G sz B (some (.int (r.1))) r.2 := by
  refine Ct.of rfl (Nat.le_of_ble_eq_true rfl) fun X hx hr hl hΓ hnm => ?_
  subst hl hΓ
  show J X 3 G sz 0 0 0 [some (.ref (B.1 + 74)), some (.int l1), some (.int l2)] []
  unfold sX4_putCrateInto at h
  refine J_al4 hx rfl rfl dX4_putCrateInto_0 ?_
  refine g4_0 hx hW 1 (rfl : kd 74 = 12) fl_X4_9 rfl dX4_putCrateInto_1 ?_
  refine g6_10 hx hW 3 (rfl : kd 1 = 2) fl_X4_59 rfl dX4_putCrateInto_4 ?_
  refine J_il4 hx rfl rfl dX4_putCrateInto_7 ?_
  obtain ⟨c1, hc2, h⟩ := bnd h
  refine J_a4 hx hW (29 + c1) (rfl : kd 3 = 4) hc2 rfl dX4_putCrateInto_8 fun hk3 => ?_
  refine J_iconst hx (-1 : Int32) dX4_putCrateInto_9 rfl ?_
  obtain ⟨r4, hr5, h⟩ := bnd h
  refine J_wrV hx (kX3_standAt hk3 hW hr5) ml_X4_72 lk_X3_standAt (ci := 2) rfl (hW.obj hk3 (by decide) (by decide)) (rest := []) rfl rfl (by decide) (by decide) (Nat.le_of_ble_eq_true rfl) (Nat.le_refl 0) (Nat.le_refl 0) dX4_putCrateInto_10 fun G6 hW7 => ?_
  show J X 3 G6 sz 0 0 13 [some (.ref (B.1 + 74)), some (.int l1), some (.int l2)] []
  refine J_al4 hx rfl rfl dX4_putCrateInto_13 ?_
  refine g4_0 hx hW7 1 (rfl : kd 74 = 12) fl_X4_9 rfl dX4_putCrateInto_14 ?_
  refine g6_10 hx hW7 3 (rfl : kd 1 = 2) fl_X4_59 rfl dX4_putCrateInto_17 ?_
  refine J_il4 hx rfl rfl dX4_putCrateInto_20 ?_
  refine J_a4 hx hW7 (29 + c1) (rfl : kd 3 = 4) hc2 rfl dX4_putCrateInto_21 fun hk8 => ?_
  refine J_il4 hx rfl rfl dX4_putCrateInto_22 ?_
  refine p3_2 hx hW7 hk8 fl_X4_103 dX4_putCrateInto_23 fun G9 hW10 => ?_
  refine J_al4 hx rfl rfl dX4_putCrateInto_26 ?_
  refine g4_0 hx hW10 1 (rfl : kd 74 = 12) fl_X4_9 rfl dX4_putCrateInto_27 ?_
  refine J_il4 hx rfl rfl dX4_putCrateInto_30 ?_
  obtain ⟨r11, hr12, h⟩ := bnd h
  refine J_rdV hx (kX6_cratesDirectlyIn  hW10 hr12) ml_X4_128 lk_X6_cratesDirectlyIn (ci := 5) rfl (hW10.obj (rfl : kd 1 = 2) (by decide) (by decide)) (rest := []) rfl rfl (by decide) (by decide) (Nat.le_of_ble_eq_true rfl) (Nat.le_refl 0) (Nat.le_refl 0) dX4_putCrateInto_31 ?_
  obtain rfl := Option.some.inj h
  exact J_iretW hx hr hW10 dX4_putCrateInto_34 (Nat.le_refl 0) (Nat.le_refl 0)
theorem dX4_takeCrateOut_0 : decode cX4_takeCrateOut 0 = .ok (.aload_n 0, 1) := by decide +kernel
theorem dX4_takeCrateOut_1 : decode cX4_takeCrateOut 1 = .ok (.getfield 9, 3) := by decide +kernel
theorem dX4_takeCrateOut_4 : decode cX4_takeCrateOut 4 = .ok (.getfield 59, 3) := by decide +kernel
theorem dX4_takeCrateOut_7 : decode cX4_takeCrateOut 7 = .ok (.iload_n 1, 1) := by decide +kernel
theorem dX4_takeCrateOut_8 : decode cX4_takeCrateOut 8 = .ok (.aaload, 1) := by decide +kernel
theorem dX4_takeCrateOut_9 : decode cX4_takeCrateOut 9 = .ok (.getfield 103, 3) := by decide +kernel
theorem dX4_takeCrateOut_12 : decode cX4_takeCrateOut 12 = .ok (.istore_n 2, 1) := by decide +kernel
theorem dX4_takeCrateOut_13 : decode cX4_takeCrateOut 13 = .ok (.aload_n 0, 1) := by decide +kernel
theorem dX4_takeCrateOut_14 : decode cX4_takeCrateOut 14 = .ok (.getfield 9, 3) := by decide +kernel
theorem dX4_takeCrateOut_17 : decode cX4_takeCrateOut 17 = .ok (.getfield 59, 3) := by decide +kernel
theorem dX4_takeCrateOut_20 : decode cX4_takeCrateOut 20 = .ok (.iload_n 1, 1) := by decide +kernel
theorem dX4_takeCrateOut_21 : decode cX4_takeCrateOut 21 = .ok (.aaload, 1) := by decide +kernel
theorem dX4_takeCrateOut_22 : decode cX4_takeCrateOut 22 = .ok (.aload_n 0, 1) := by decide +kernel
theorem dX4_takeCrateOut_23 : decode cX4_takeCrateOut 23 = .ok (.getfield 9, 3) := by decide +kernel
theorem dX4_takeCrateOut_26 : decode cX4_takeCrateOut 26 = .ok (.iload_n 1, 1) := by decide +kernel
theorem dX4_takeCrateOut_27 : decode cX4_takeCrateOut 27 = .ok (.invokevirtual 116, 3) := by decide +kernel
theorem dX4_takeCrateOut_30 : decode cX4_takeCrateOut 30 = .ok (.invokevirtual 72, 3) := by decide +kernel
theorem dX4_takeCrateOut_33 : decode cX4_takeCrateOut 33 = .ok (.iload_n 2, 1) := by decide +kernel
theorem dX4_takeCrateOut_34 : decode cX4_takeCrateOut 34 = .ok (.ireturn, 1) := by decide +kernel
def sX4_takeCrateOut (w : Wl) (l1 : Int32) : Option (Int32 × Wl) := (idx l1 12).bind (fun c1 => (sX6_venueOfCrate w l1).bind (fun r5 => (sX3_standAt w (29 + c1) r5).bind (fun r7 => some ((w (29 + c1) 2), r7))))
theorem kX4_takeCrateOut {l : Launch} {Γ : Gl} {B : Bs} {w : Wl} {G : Gf} {sz : Nat} {l1 : Int32} {r : (Int32 × Wl)} (hW : Wd Γ B w G) (h : sX4_takeCrateOut w l1 = some r) : CtW l Γ yX4_takeCrateOut cX4_takeCrateOut 3 (some .int) 2 [.ref (B.1 + 74), .int l1] G sz B (some (.int (r.1))) r.2 := by
  refine Ct.of rfl (Nat.le_of_ble_eq_true rfl) fun X hx hr hl hΓ hnm => ?_
  subst hl hΓ
  show J X 3 G sz 0 0 0 [some (.ref (B.1 + 74)), some (.int l1), none] []
  unfold sX4_takeCrateOut at h
  refine J_al4 hx rfl rfl dX4_takeCrateOut_0 ?_
  refine g4_0 hx hW 1 (rfl : kd 74 = 12) fl_X4_9 rfl dX4_takeCrateOut_1 ?_
  refine g6_10 hx hW 3 (rfl : kd 1 = 2) fl_X4_59 rfl dX4_takeCrateOut_4 ?_
  refine J_il4 hx rfl rfl dX4_takeCrateOut_7 ?_
  obtain ⟨c1, hc2, h⟩ := bnd h
  refine J_a4 hx hW (29 + c1) (rfl : kd 3 = 4) hc2 rfl dX4_takeCrateOut_8 fun hk3 => ?_
  refine g3_2 hx hW hk3 fl_X4_103 dX4_takeCrateOut_9 ?_
  refine J_is4 hx rfl (by decide) (hc_of rfl) rfl dX4_takeCrateOut_12 ?_
  refine J_al4 hx rfl rfl dX4_takeCrateOut_13 ?_
  refine g4_0 hx hW 1 (rfl : kd 74 = 12) fl_X4_9 rfl dX4_takeCrateOut_14 ?_
  refine g6_10 hx hW 3 (rfl : kd 1 = 2) fl_X4_59 rfl dX4_takeCrateOut_17 ?_
  refine J_il4 hx rfl rfl dX4_takeCrateOut_20 ?_
  refine J_a4 hx hW (29 + c1) (rfl : kd 3 = 4) hc2 rfl dX4_takeCrateOut_21 fun hk4 => ?_
  refine J_al4 hx rfl rfl dX4_takeCrateOut_22 ?_
  refine g4_0 hx hW 1 (rfl : kd 74 = 12) fl_X4_9 rfl dX4_takeCrateOut_23 ?_
  refine J_il4 hx rfl rfl dX4_takeCrateOut_26 ?_
  obtain ⟨r5, hr6, h⟩ := bnd h
  refine J_rdV hx (kX6_venueOfCrate  hW hr6) ml_X4_116 lk_X6_venueOfCrate (ci := 5) rfl (hW.obj (rfl : kd 1 = 2) (by decide) (by decide)) (rest := [.ref (B.1 + (29 + c1))]) rfl rfl (by decide) (by decide) (Nat.le_of_ble_eq_true rfl) (Nat.le_refl 0) (Nat.le_refl 0) dX4_takeCrateOut_27 ?_
  obtain ⟨r7, hr8, h⟩ := bnd h
  refine J_wrV hx (kX3_standAt hk4 hW hr8) ml_X4_72 lk_X3_standAt (ci := 2) rfl (hW.obj hk4 (by decide) (by decide)) (rest := []) rfl rfl (by decide) (by decide) (Nat.le_of_ble_eq_true rfl) (Nat.le_refl 0) (Nat.le_refl 0) dX4_takeCrateOut_30 fun G9 hW10 => ?_
  show J X 3 G9 sz 0 0 33 [some (.ref (B.1 + 74)), some (.int l1), some (.int (w (29 + c1) 2))] []
  refine J_il4 hx rfl rfl dX4_takeCrateOut_33 ?_
  obtain rfl := Option.some.inj h
  exact J_iretW hx hr hW10 dX4_takeCrateOut_34 (Nat.le_refl 0) (Nat.le_refl 0)
theorem dX4_packWork_0 : decode cX4_packWork 0 = .ok (.aload_n 0, 1) := by decide +kernel
theorem dX4_packWork_1 : decode cX4_packWork 1 = .ok (.getfield 9, 3) := by decide +kernel
theorem dX4_packWork_4 : decode cX4_packWork 4 = .ok (.getfield 79, 3) := by decide +kernel
theorem dX4_packWork_7 : decode cX4_packWork 7 = .ok (.iload_n 1, 1) := by decide +kernel
theorem dX4_packWork_8 : decode cX4_packWork 8 = .ok (.aaload, 1) := by decide +kernel
theorem dX4_packWork_9 : decode cX4_packWork 9 = .ok (.iload_n 2, 1) := by decide +kernel
theorem dX4_packWork_10 : decode cX4_packWork 10 = .ok (.putfield 97, 3) := by decide +kernel
theorem dX4_packWork_13 : decode cX4_packWork 13 = .ok (.aload_n 0, 1) := by decide +kernel
theorem dX4_packWork_14 : decode cX4_packWork 14 = .ok (.getfield 9, 3) := by decide +kernel
theorem dX4_packWork_17 : decode cX4_packWork 17 = .ok (.getfield 79, 3) := by decide +kernel
theorem dX4_packWork_20 : decode cX4_packWork 20 = .ok (.iload_n 1, 1) := by decide +kernel
theorem dX4_packWork_21 : decode cX4_packWork 21 = .ok (.aaload, 1) := by decide +kernel
theorem dX4_packWork_22 : decode cX4_packWork 22 = .ok (.iconst (-1), 1) := by decide +kernel
theorem dX4_packWork_23 : decode cX4_packWork 23 = .ok (.putfield 100, 3) := by decide +kernel
theorem dX4_packWork_26 : decode cX4_packWork 26 = .ok (.aload_n 0, 1) := by decide +kernel
theorem dX4_packWork_27 : decode cX4_packWork 27 = .ok (.getfield 9, 3) := by decide +kernel
theorem dX4_packWork_30 : decode cX4_packWork 30 = .ok (.iload_n 2, 1) := by decide +kernel
theorem dX4_packWork_31 : decode cX4_packWork 31 = .ok (.invokevirtual 112, 3) := by decide +kernel
theorem dX4_packWork_34 : decode cX4_packWork 34 = .ok (.ireturn, 1) := by decide +kernel
def sX4_packWork (w : Wl) (l1 : Int32) (l2 : Int32) : Option (Int32 × Wl) := (idx l1 16).bind (fun c1 => (sX6_worksDirectlyIn (wst (wst w (41 + 2 * c1) 4 l2) (41 + 2 * c1) 5 (-1 : Int32)) l2).bind (fun r9 => some (r9, (wst (wst w (41 + 2 * c1) 4 l2) (41 + 2 * c1) 5 (-1 : Int32)))))
theorem kX4_packWork {l : Launch} {Γ : Gl} {B : Bs} {w : Wl} {G : Gf} {sz : Nat} {l1 : Int32} {l2 : Int32} {r : (Int32 × Wl)} (hW : Wd Γ B w G) (h : sX4_packWork w l1 l2 = some r) : CtW l Γ yX4_packWork cX4_packWork 3 (some .int) 1 [.ref (B.1 + 74), .int l1, .int l2] G sz B (some (.int (r.1))) r.2 := by
  refine Ct.of rfl (Nat.le_of_ble_eq_true rfl) fun X hx hr hl hΓ hnm => ?_
  subst hl hΓ
  show J X 3 G sz 0 0 0 [some (.ref (B.1 + 74)), some (.int l1), some (.int l2)] []
  unfold sX4_packWork at h
  refine J_al4 hx rfl rfl dX4_packWork_0 ?_
  refine g4_0 hx hW 1 (rfl : kd 74 = 12) fl_X4_9 rfl dX4_packWork_1 ?_
  refine g6_11 hx hW 4 (rfl : kd 1 = 2) fl_X4_79 rfl dX4_packWork_4 ?_
  refine J_il4 hx rfl rfl dX4_packWork_7 ?_
  obtain ⟨c1, hc2, h⟩ := bnd h
  refine J_a5 hx hW (41 + 2 * c1) (rfl : kd 4 = 5) hc2 rfl dX4_packWork_8 fun hk3 => ?_
  refine J_il4 hx rfl rfl dX4_packWork_9 ?_
  refine p11_4 hx hW hk3 fl_X4_97 dX4_packWork_10 fun G4 hW5 => ?_
  refine J_al4 hx rfl rfl dX4_packWork_13 ?_
  refine g4_0 hx hW5 1 (rfl : kd 74 = 12) fl_X4_9 rfl dX4_packWork_14 ?_
  refine g6_11 hx hW5 4 (rfl : kd 1 = 2) fl_X4_79 rfl dX4_packWork_17 ?_
  refine J_il4 hx rfl rfl dX4_packWork_20 ?_
  refine J_a5 hx hW5 (41 + 2 * c1) (rfl : kd 4 = 5) hc2 rfl dX4_packWork_21 fun hk6 => ?_
  refine J_iconst hx (-1 : Int32) dX4_packWork_22 rfl ?_
  refine p11_5 hx hW5 hk6 fl_X4_100 dX4_packWork_23 fun G7 hW8 => ?_
  refine J_al4 hx rfl rfl dX4_packWork_26 ?_
  refine g4_0 hx hW8 1 (rfl : kd 74 = 12) fl_X4_9 rfl dX4_packWork_27 ?_
  refine J_il4 hx rfl rfl dX4_packWork_30 ?_
  obtain ⟨r9, hr10, h⟩ := bnd h
  refine J_rdV hx (kX6_worksDirectlyIn  hW8 hr10) ml_X4_112 lk_X6_worksDirectlyIn (ci := 5) rfl (hW8.obj (rfl : kd 1 = 2) (by decide) (by decide)) (rest := []) rfl rfl (by decide) (by decide) (Nat.le_of_ble_eq_true rfl) (Nat.le_refl 0) (Nat.le_refl 0) dX4_packWork_31 ?_
  obtain rfl := Option.some.inj h
  exact J_iretW hx hr hW8 dX4_packWork_34 (Nat.le_refl 0) (Nat.le_refl 0)
theorem dX4_unpackWork_0 : decode cX4_unpackWork 0 = .ok (.aload_n 0, 1) := by decide +kernel
theorem dX4_unpackWork_1 : decode cX4_unpackWork 1 = .ok (.getfield 9, 3) := by decide +kernel
theorem dX4_unpackWork_4 : decode cX4_unpackWork 4 = .ok (.iload_n 1, 1) := by decide +kernel
theorem dX4_unpackWork_5 : decode cX4_unpackWork 5 = .ok (.invokevirtual 131, 3) := by decide +kernel
theorem dX4_unpackWork_8 : decode cX4_unpackWork 8 = .ok (.istore_n 2, 1) := by decide +kernel
theorem dX4_unpackWork_9 : decode cX4_unpackWork 9 = .ok (.aload_n 0, 1) := by decide +kernel
theorem dX4_unpackWork_10 : decode cX4_unpackWork 10 = .ok (.getfield 9, 3) := by decide +kernel
theorem dX4_unpackWork_13 : decode cX4_unpackWork 13 = .ok (.getfield 79, 3) := by decide +kernel
theorem dX4_unpackWork_16 : decode cX4_unpackWork 16 = .ok (.iload_n 1, 1) := by decide +kernel
theorem dX4_unpackWork_17 : decode cX4_unpackWork 17 = .ok (.aaload, 1) := by decide +kernel
theorem dX4_unpackWork_18 : decode cX4_unpackWork 18 = .ok (.iconst (-1), 1) := by decide +kernel
theorem dX4_unpackWork_19 : decode cX4_unpackWork 19 = .ok (.putfield 97, 3) := by decide +kernel
theorem dX4_unpackWork_22 : decode cX4_unpackWork 22 = .ok (.aload_n 0, 1) := by decide +kernel
theorem dX4_unpackWork_23 : decode cX4_unpackWork 23 = .ok (.getfield 9, 3) := by decide +kernel
theorem dX4_unpackWork_26 : decode cX4_unpackWork 26 = .ok (.getfield 79, 3) := by decide +kernel
theorem dX4_unpackWork_29 : decode cX4_unpackWork 29 = .ok (.iload_n 1, 1) := by decide +kernel
theorem dX4_unpackWork_30 : decode cX4_unpackWork 30 = .ok (.aaload, 1) := by decide +kernel
theorem dX4_unpackWork_31 : decode cX4_unpackWork 31 = .ok (.iload_n 2, 1) := by decide +kernel
theorem dX4_unpackWork_32 : decode cX4_unpackWork 32 = .ok (.putfield 100, 3) := by decide +kernel
theorem dX4_unpackWork_35 : decode cX4_unpackWork 35 = .ok (.iload_n 2, 1) := by decide +kernel
theorem dX4_unpackWork_36 : decode cX4_unpackWork 36 = .ok (.ireturn, 1) := by decide +kernel
def sX4_unpackWork (w : Wl) (l1 : Int32) : Option (Int32 × Wl) := (sX6_venueOfWork w l1).bind (fun r1 => (idx l1 16).bind (fun c3 => some (r1, (wst (wst w (41 + 2 * c3) 4 (-1 : Int32)) (41 + 2 * c3) 5 r1))))
theorem kX4_unpackWork {l : Launch} {Γ : Gl} {B : Bs} {w : Wl} {G : Gf} {sz : Nat} {l1 : Int32} {r : (Int32 × Wl)} (hW : Wd Γ B w G) (h : sX4_unpackWork w l1 = some r) : CtW l Γ yX4_unpackWork cX4_unpackWork 3 (some .int) 2 [.ref (B.1 + 74), .int l1] G sz B (some (.int (r.1))) r.2 := by
  refine Ct.of rfl (Nat.le_of_ble_eq_true rfl) fun X hx hr hl hΓ hnm => ?_
  subst hl hΓ
  show J X 3 G sz 0 0 0 [some (.ref (B.1 + 74)), some (.int l1), none] []
  unfold sX4_unpackWork at h
  refine J_al4 hx rfl rfl dX4_unpackWork_0 ?_
  refine g4_0 hx hW 1 (rfl : kd 74 = 12) fl_X4_9 rfl dX4_unpackWork_1 ?_
  refine J_il4 hx rfl rfl dX4_unpackWork_4 ?_
  obtain ⟨r1, hr2, h⟩ := bnd h
  refine J_rdV hx (kX6_venueOfWork  hW hr2) ml_X4_131 lk_X6_venueOfWork (ci := 5) rfl (hW.obj (rfl : kd 1 = 2) (by decide) (by decide)) (rest := []) rfl rfl (by decide) (by decide) (Nat.le_of_ble_eq_true rfl) (Nat.le_refl 0) (Nat.le_refl 0) dX4_unpackWork_5 ?_
  refine J_is4 hx rfl (by decide) (hc_of rfl) rfl dX4_unpackWork_8 ?_
  refine J_al4 hx rfl rfl dX4_unpackWork_9 ?_
  refine g4_0 hx hW 1 (rfl : kd 74 = 12) fl_X4_9 rfl dX4_unpackWork_10 ?_
  refine g6_11 hx hW 4 (rfl : kd 1 = 2) fl_X4_79 rfl dX4_unpackWork_13 ?_
  refine J_il4 hx rfl rfl dX4_unpackWork_16 ?_
  obtain ⟨c3, hc4, h⟩ := bnd h
  refine J_a5 hx hW (41 + 2 * c3) (rfl : kd 4 = 5) hc4 rfl dX4_unpackWork_17 fun hk5 => ?_
  refine J_iconst hx (-1 : Int32) dX4_unpackWork_18 rfl ?_
  refine p11_4 hx hW hk5 fl_X4_97 dX4_unpackWork_19 fun G6 hW7 => ?_
  refine J_al4 hx rfl rfl dX4_unpackWork_22 ?_
  refine g4_0 hx hW7 1 (rfl : kd 74 = 12) fl_X4_9 rfl dX4_unpackWork_23 ?_
  refine g6_11 hx hW7 4 (rfl : kd 1 = 2) fl_X4_79 rfl dX4_unpackWork_26 ?_
  refine J_il4 hx rfl rfl dX4_unpackWork_29 ?_
  refine J_a5 hx hW7 (41 + 2 * c3) (rfl : kd 4 = 5) hc4 rfl dX4_unpackWork_30 fun hk8 => ?_
  refine J_il4 hx rfl rfl dX4_unpackWork_31 ?_
  refine p11_5 hx hW7 hk8 fl_X4_100 dX4_unpackWork_32 fun G9 hW10 => ?_
  refine J_il4 hx rfl rfl dX4_unpackWork_35 ?_
  obtain rfl := Option.some.inj h
  exact J_iretW hx hr hW10 dX4_unpackWork_36 (Nat.le_refl 0) (Nat.le_refl 0)
theorem dX4_sendCrate_0 : decode cX4_sendCrate 0 = .ok (.aload_n 0, 1) := by decide +kernel
theorem dX4_sendCrate_1 : decode cX4_sendCrate 1 = .ok (.getfield 9, 3) := by decide +kernel
theorem dX4_sendCrate_4 : decode cX4_sendCrate 4 = .ok (.getfield 59, 3) := by decide +kernel
theorem dX4_sendCrate_7 : decode cX4_sendCrate 7 = .ok (.iload_n 1, 1) := by decide +kernel
theorem dX4_sendCrate_8 : decode cX4_sendCrate 8 = .ok (.aaload, 1) := by decide +kernel
theorem dX4_sendCrate_9 : decode cX4_sendCrate 9 = .ok (.astore 4, 2) := by decide +kernel
theorem dX4_sendCrate_11 : decode cX4_sendCrate 11 = .ok (.aload 4, 2) := by decide +kernel
theorem dX4_sendCrate_13 : decode cX4_sendCrate 13 = .ok (.aload_n 0, 1) := by decide +kernel
theorem dX4_sendCrate_14 : decode cX4_sendCrate 14 = .ok (.getfield 9, 3) := by decide +kernel
theorem dX4_sendCrate_17 : decode cX4_sendCrate 17 = .ok (.getfield 106, 3) := by decide +kernel
theorem dX4_sendCrate_20 : decode cX4_sendCrate 20 = .ok (.aload_n 0, 1) := by decide +kernel
theorem dX4_sendCrate_21 : decode cX4_sendCrate 21 = .ok (.getfield 9, 3) := by decide +kernel
theorem dX4_sendCrate_24 : decode cX4_sendCrate 24 = .ok (.aload 4, 2) := by decide +kernel
theorem dX4_sendCrate_26 : decode cX4_sendCrate 26 = .ok (.getfield 134, 3) := by decide +kernel
theorem dX4_sendCrate_29 : decode cX4_sendCrate 29 = .ok (.iload_n 2, 1) := by decide +kernel
theorem dX4_sendCrate_30 : decode cX4_sendCrate 30 = .ok (.invokevirtual 135, 3) := by decide +kernel
theorem dX4_sendCrate_33 : decode cX4_sendCrate 33 = .ok (.iadd, 1) := by decide +kernel
theorem dX4_sendCrate_34 : decode cX4_sendCrate 34 = .ok (.putfield 139, 3) := by decide +kernel
theorem dX4_sendCrate_37 : decode cX4_sendCrate 37 = .ok (.aload 4, 2) := by decide +kernel
theorem dX4_sendCrate_39 : decode cX4_sendCrate 39 = .ok (.iconst (-1), 1) := by decide +kernel
theorem dX4_sendCrate_40 : decode cX4_sendCrate 40 = .ok (.putfield 134, 3) := by decide +kernel
theorem dX4_sendCrate_43 : decode cX4_sendCrate 43 = .ok (.aload 4, 2) := by decide +kernel
theorem dX4_sendCrate_45 : decode cX4_sendCrate 45 = .ok (.iload_n 2, 1) := by decide +kernel
theorem dX4_sendCrate_46 : decode cX4_sendCrate 46 = .ok (.putfield 142, 3) := by decide +kernel
theorem dX4_sendCrate_49 : decode cX4_sendCrate 49 = .ok (.aload 4, 2) := by decide +kernel
theorem dX4_sendCrate_51 : decode cX4_sendCrate 51 = .ok (.iload_n 3, 1) := by decide +kernel
theorem dX4_sendCrate_52 : decode cX4_sendCrate 52 = .ok (.putfield 145, 3) := by decide +kernel
theorem dX4_sendCrate_55 : decode cX4_sendCrate 55 = .ok (.aload_n 0, 1) := by decide +kernel
theorem dX4_sendCrate_56 : decode cX4_sendCrate 56 = .ok (.getfield 9, 3) := by decide +kernel
theorem dX4_sendCrate_59 : decode cX4_sendCrate 59 = .ok (.iload_n 3, 1) := by decide +kernel
theorem dX4_sendCrate_60 : decode cX4_sendCrate 60 = .ok (.invokevirtual 148, 3) := by decide +kernel
theorem dX4_sendCrate_63 : decode cX4_sendCrate 63 = .ok (.ifCond .eq 13, 3) := by decide +kernel
theorem dX4_sendCrate_66 : decode cX4_sendCrate 66 = .ok (.aload_n 0, 1) := by decide +kernel
theorem dX4_sendCrate_67 : decode cX4_sendCrate 67 = .ok (.getfield 9, 3) := by decide +kernel
theorem dX4_sendCrate_70 : decode cX4_sendCrate 70 = .ok (.getfield 53, 3) := by decide +kernel
theorem dX4_sendCrate_73 : decode cX4_sendCrate 73 = .ok (.iload_n 3, 1) := by decide +kernel
theorem dX4_sendCrate_74 : decode cX4_sendCrate 74 = .ok (.iconst (-1), 1) := by decide +kernel
theorem dX4_sendCrate_75 : decode cX4_sendCrate 75 = .ok (.iastore, 1) := by decide +kernel
theorem dX4_sendCrate_76 : decode cX4_sendCrate 76 = .ok (.aload 4, 2) := by decide +kernel
theorem dX4_sendCrate_78 : decode cX4_sendCrate 78 = .ok (.getfield 139, 3) := by decide +kernel
theorem dX4_sendCrate_81 : decode cX4_sendCrate 81 = .ok (.ireturn, 1) := by decide +kernel
def sX4_sendCrate (w : Wl) (l1 : Int32) (l2 : Int32) (l3 : Int32) : Option (Int32 × Wl) := (idx l1 12).bind (fun c1 => (sX6_hoursBetween w (w (29 + c1) 3) l2).bind (fun r4 => (sX6_hasCourier (wst (wst (wst (wst w (29 + c1) 5 ((w 1 0) + r4)) (29 + c1) 3 (-1 : Int32)) (29 + c1) 4 l2) (29 + c1) 6 l3) l3).bind (fun r14 => (if r14 = true then (idx l3 4).bind (fun c17 => some (((wst (wst (wst (wst (wst w (29 + c1) 5 ((w 1 0) + r4)) (29 + c1) 3 (-1 : Int32)) (29 + c1) 4 l2) (29 + c1) 6 l3) 5 c17 (-1 : Int32)) (29 + c1) 5), (wst (wst (wst (wst (wst w (29 + c1) 5 ((w 1 0) + r4)) (29 + c1) 3 (-1 : Int32)) (29 + c1) 4 l2) (29 + c1) 6 l3) 5 c17 (-1 : Int32)))) else some (((wst (wst (wst (wst w (29 + c1) 5 ((w 1 0) + r4)) (29 + c1) 3 (-1 : Int32)) (29 + c1) 4 l2) (29 + c1) 6 l3) (29 + c1) 5), (wst (wst (wst (wst w (29 + c1) 5 ((w 1 0) + r4)) (29 + c1) 3 (-1 : Int32)) (29 + c1) 4 l2) (29 + c1) 6 l3))))))
theorem kX4_sendCrate {l : Launch} {Γ : Gl} {B : Bs} {w : Wl} {G : Gf} {sz : Nat} {l1 : Int32} {l2 : Int32} {l3 : Int32} {r : (Int32 × Wl)} (hW : Wd Γ B w G) (h : sX4_sendCrate w l1 l2 l3 = some r) : CtW l Γ yX4_sendCrate cX4_sendCrate 5 (some .int) 2 [.ref (B.1 + 74), .int l1, .int l2, .int l3] G sz B (some (.int (r.1))) r.2 := by
  refine Ct.of rfl (Nat.le_of_ble_eq_true rfl) fun X hx hr hl hΓ hnm => ?_
  subst hl hΓ
  show J X 5 G sz 0 0 0 [some (.ref (B.1 + 74)), some (.int l1), some (.int l2), some (.int l3), none] []
  unfold sX4_sendCrate at h
  refine J_al4 hx rfl rfl dX4_sendCrate_0 ?_
  refine g4_0 hx hW 1 (rfl : kd 74 = 12) fl_X4_9 rfl dX4_sendCrate_1 ?_
  refine g6_10 hx hW 3 (rfl : kd 1 = 2) fl_X4_59 rfl dX4_sendCrate_4 ?_
  refine J_il4 hx rfl rfl dX4_sendCrate_7 ?_
  obtain ⟨c1, hc2, h⟩ := bnd h
  refine J_a4 hx hW (29 + c1) (rfl : kd 3 = 4) hc2 rfl dX4_sendCrate_8 fun hk3 => ?_
  refine J_as hx (by decide) (hc_of rfl) rfl dX4_sendCrate_9 ?_
  refine J_al hx rfl dX4_sendCrate_11 ?_
  refine J_al4 hx rfl rfl dX4_sendCrate_13 ?_
  refine g4_0 hx hW 1 (rfl : kd 74 = 12) fl_X4_9 rfl dX4_sendCrate_14 ?_
  refine g6_0 hx hW (rfl : kd 1 = 2) fl_X4_106 dX4_sendCrate_17 ?_
  refine J_al4 hx rfl rfl dX4_sendCrate_20 ?_
  refine g4_0 hx hW 1 (rfl : kd 74 = 12) fl_X4_9 rfl dX4_sendCrate_21 ?_
  refine J_al hx rfl dX4_sendCrate_24 ?_
  refine g3_3 hx hW hk3 fl_X4_134 dX4_sendCrate_26 ?_
  refine J_il4 hx rfl rfl dX4_sendCrate_29 ?_
  obtain ⟨r4, hr5, h⟩ := bnd h
  refine J_rdV hx (kX6_hoursBetween  hW hr5) ml_X4_135 lk_X6_hoursBetween (ci := 5) rfl (hW.obj (rfl : kd 1 = 2) (by decide) (by decide)) (rest := [.int (w 1 0), .ref (B.1 + (29 + c1))]) rfl rfl (by decide) (by decide) (Nat.le_of_ble_eq_true rfl) (Nat.le_refl 0) (Nat.le_refl 0) dX4_sendCrate_30 ?_
  refine J_iadd hx dX4_sendCrate_33 ?_
  refine p3_5 hx hW hk3 fl_X4_139 dX4_sendCrate_34 fun G6 hW7 => ?_
  refine J_al hx rfl dX4_sendCrate_37 ?_
  refine J_iconst hx (-1 : Int32) dX4_sendCrate_39 rfl ?_
  refine p3_3 hx hW7 hk3 fl_X4_134 dX4_sendCrate_40 fun G8 hW9 => ?_
  refine J_al hx rfl dX4_sendCrate_43 ?_
  refine J_il4 hx rfl rfl dX4_sendCrate_45 ?_
  refine p3_4 hx hW9 hk3 fl_X4_142 dX4_sendCrate_46 fun G10 hW11 => ?_
  refine J_al hx rfl dX4_sendCrate_49 ?_
  refine J_il4 hx rfl rfl dX4_sendCrate_51 ?_
  refine p3_6 hx hW11 hk3 fl_X4_145 dX4_sendCrate_52 fun G12 hW13 => ?_
  refine J_al4 hx rfl rfl dX4_sendCrate_55 ?_
  refine g4_0 hx hW13 1 (rfl : kd 74 = 12) fl_X4_9 rfl dX4_sendCrate_56 ?_
  refine J_il4 hx rfl rfl dX4_sendCrate_59 ?_
  obtain ⟨r14, hr15, h⟩ := bnd h
  refine J_rdV hx (kX6_hasCourier  hW13 hr15) ml_X4_148 lk_X6_hasCourier (ci := 5) rfl (hW13.obj (rfl : kd 1 = 2) (by decide) (by decide)) (rest := []) rfl rfl (by decide) (by decide) (Nat.le_of_ble_eq_true rfl) (Nat.le_refl 0) (Nat.le_refl 0) dX4_sendCrate_60 ?_
  refine J_bif_eq hx 76 dX4_sendCrate_63 rfl (fun h16 => ?_) (fun h16 => ?_)
  · replace h := neg h (bft h16)
    refine J_al hx rfl dX4_sendCrate_76 ?_
    refine g3_5 hx hW13 hk3 fl_X4_139 dX4_sendCrate_78 ?_
    obtain rfl := Option.some.inj h
    exact J_iretW hx hr hW13 dX4_sendCrate_81 (Nat.le_refl 0) (Nat.le_refl 0)
  · replace h := pos h h16
    refine J_al4 hx rfl rfl dX4_sendCrate_66 ?_
    refine g4_0 hx hW13 1 (rfl : kd 74 = 12) fl_X4_9 rfl dX4_sendCrate_67 ?_
    refine g6_12 hx hW13 5 (rfl : kd 1 = 2) fl_X4_53 rfl dX4_sendCrate_70 ?_
    refine J_il4 hx rfl rfl dX4_sendCrate_73 ?_
    refine J_iconst hx (-1 : Int32) dX4_sendCrate_74 rfl ?_
    obtain ⟨c17, hc18, h⟩ := bnd h
    refine J_iaS hx hW13 (rfl : kd 5 = 104) hc18 dX4_sendCrate_75 fun G19 hW20 => ?_
    refine J_al hx rfl dX4_sendCrate_76 ?_
    refine g3_5 hx hW20 hk3 fl_X4_139 dX4_sendCrate_78 ?_
    obtain rfl := Option.some.inj h
    exact J_iretW hx hr hW20 dX4_sendCrate_81 (Nat.le_refl 0) (Nat.le_refl 0)
theorem dX4_arrive_0 : decode cX4_arrive 0 = .ok (.aload_n 0, 1) := by decide +kernel
theorem dX4_arrive_1 : decode cX4_arrive 1 = .ok (.getfield 9, 3) := by decide +kernel
theorem dX4_arrive_4 : decode cX4_arrive 4 = .ok (.getfield 59, 3) := by decide +kernel
theorem dX4_arrive_7 : decode cX4_arrive 7 = .ok (.iload_n 1, 1) := by decide +kernel
theorem dX4_arrive_8 : decode cX4_arrive 8 = .ok (.aaload, 1) := by decide +kernel
theorem dX4_arrive_9 : decode cX4_arrive 9 = .ok (.astore_n 2, 1) := by decide +kernel
theorem dX4_arrive_10 : decode cX4_arrive 10 = .ok (.aload_n 0, 1) := by decide +kernel
theorem dX4_arrive_11 : decode cX4_arrive 11 = .ok (.getfield 9, 3) := by decide +kernel
theorem dX4_arrive_14 : decode cX4_arrive 14 = .ok (.aload_n 2, 1) := by decide +kernel
theorem dX4_arrive_15 : decode cX4_arrive 15 = .ok (.getfield 145, 3) := by decide +kernel
theorem dX4_arrive_18 : decode cX4_arrive 18 = .ok (.invokevirtual 148, 3) := by decide +kernel
theorem dX4_arrive_21 : decode cX4_arrive 21 = .ok (.ifCond .eq 19, 3) := by decide +kernel
theorem dX4_arrive_24 : decode cX4_arrive 24 = .ok (.aload_n 0, 1) := by decide +kernel
theorem dX4_arrive_25 : decode cX4_arrive 25 = .ok (.getfield 9, 3) := by decide +kernel
theorem dX4_arrive_28 : decode cX4_arrive 28 = .ok (.getfield 53, 3) := by decide +kernel
theorem dX4_arrive_31 : decode cX4_arrive 31 = .ok (.aload_n 2, 1) := by decide +kernel
theorem dX4_arrive_32 : decode cX4_arrive 32 = .ok (.getfield 145, 3) := by decide +kernel
theorem dX4_arrive_35 : decode cX4_arrive 35 = .ok (.aload_n 2, 1) := by decide +kernel
theorem dX4_arrive_36 : decode cX4_arrive 36 = .ok (.getfield 142, 3) := by decide +kernel
theorem dX4_arrive_39 : decode cX4_arrive 39 = .ok (.iastore, 1) := by decide +kernel
theorem dX4_arrive_40 : decode cX4_arrive 40 = .ok (.aload_n 2, 1) := by decide +kernel
theorem dX4_arrive_41 : decode cX4_arrive 41 = .ok (.aload_n 2, 1) := by decide +kernel
theorem dX4_arrive_42 : decode cX4_arrive 42 = .ok (.getfield 142, 3) := by decide +kernel
theorem dX4_arrive_45 : decode cX4_arrive 45 = .ok (.invokevirtual 72, 3) := by decide +kernel
theorem dX4_arrive_48 : decode cX4_arrive 48 = .ok (.aload_n 2, 1) := by decide +kernel
theorem dX4_arrive_49 : decode cX4_arrive 49 = .ok (.aload_n 0, 1) := by decide +kernel
theorem dX4_arrive_50 : decode cX4_arrive 50 = .ok (.getfield 9, 3) := by decide +kernel
theorem dX4_arrive_53 : decode cX4_arrive 53 = .ok (.getfield 106, 3) := by decide +kernel
theorem dX4_arrive_56 : decode cX4_arrive 56 = .ok (.putfield 109, 3) := by decide +kernel
theorem dX4_arrive_59 : decode cX4_arrive 59 = .ok (.iconst 0, 1) := by decide +kernel
theorem dX4_arrive_60 : decode cX4_arrive 60 = .ok (.istore_n 3, 1) := by decide +kernel
theorem dX4_arrive_61 : decode cX4_arrive 61 = .ok (.iload_n 3, 1) := by decide +kernel
theorem dX4_arrive_62 : decode cX4_arrive 62 = .ok (.aload_n 0, 1) := by decide +kernel
theorem dX4_arrive_63 : decode cX4_arrive 63 = .ok (.getfield 9, 3) := by decide +kernel
theorem dX4_arrive_66 : decode cX4_arrive 66 = .ok (.getfield 76, 3) := by decide +kernel
theorem dX4_arrive_69 : decode cX4_arrive 69 = .ok (.if_icmp .ge 50, 3) := by decide +kernel
theorem dX4_arrive_72 : decode cX4_arrive 72 = .ok (.aload_n 0, 1) := by decide +kernel
theorem dX4_arrive_73 : decode cX4_arrive 73 = .ok (.getfield 9, 3) := by decide +kernel
theorem dX4_arrive_76 : decode cX4_arrive 76 = .ok (.aload_n 0, 1) := by decide +kernel
theorem dX4_arrive_77 : decode cX4_arrive 77 = .ok (.getfield 9, 3) := by decide +kernel
theorem dX4_arrive_80 : decode cX4_arrive 80 = .ok (.getfield 79, 3) := by decide +kernel
theorem dX4_arrive_83 : decode cX4_arrive 83 = .ok (.iload_n 3, 1) := by decide +kernel
theorem dX4_arrive_84 : decode cX4_arrive 84 = .ok (.aaload, 1) := by decide +kernel
theorem dX4_arrive_85 : decode cX4_arrive 85 = .ok (.getfield 97, 3) := by decide +kernel
theorem dX4_arrive_88 : decode cX4_arrive 88 = .ok (.iload_n 1, 1) := by decide +kernel
theorem dX4_arrive_89 : decode cX4_arrive 89 = .ok (.invokevirtual 163, 3) := by decide +kernel
theorem dX4_arrive_92 : decode cX4_arrive 92 = .ok (.ifCond .eq 21, 3) := by decide +kernel
theorem dX4_arrive_95 : decode cX4_arrive 95 = .ok (.aload_n 0, 1) := by decide +kernel
theorem dX4_arrive_96 : decode cX4_arrive 96 = .ok (.getfield 9, 3) := by decide +kernel
theorem dX4_arrive_99 : decode cX4_arrive 99 = .ok (.getfield 79, 3) := by decide +kernel
theorem dX4_arrive_102 : decode cX4_arrive 102 = .ok (.iload_n 3, 1) := by decide +kernel
theorem dX4_arrive_103 : decode cX4_arrive 103 = .ok (.aaload, 1) := by decide +kernel
theorem dX4_arrive_104 : decode cX4_arrive 104 = .ok (.dup, 1) := by decide +kernel
theorem dX4_arrive_105 : decode cX4_arrive 105 = .ok (.getfield 91, 3) := by decide +kernel
theorem dX4_arrive_108 : decode cX4_arrive 108 = .ok (.iconst 1, 1) := by decide +kernel
theorem dX4_arrive_109 : decode cX4_arrive 109 = .ok (.isub, 1) := by decide +kernel
theorem dX4_arrive_110 : decode cX4_arrive 110 = .ok (.putfield 91, 3) := by decide +kernel
theorem dX4_arrive_113 : decode cX4_arrive 113 = .ok (.iinc 3 1, 3) := by decide +kernel
theorem dX4_arrive_116 : decode cX4_arrive 116 = .ok (.goto (-55), 3) := by decide +kernel
theorem dX4_arrive_119 : decode cX4_arrive 119 = .ok (.aload_n 0, 1) := by decide +kernel
theorem dX4_arrive_120 : decode cX4_arrive 120 = .ok (.getfield 9, 3) := by decide +kernel
theorem dX4_arrive_123 : decode cX4_arrive 123 = .ok (.dup, 1) := by decide +kernel
theorem dX4_arrive_124 : decode cX4_arrive 124 = .ok (.getfield 151, 3) := by decide +kernel
theorem dX4_arrive_127 : decode cX4_arrive 127 = .ok (.iconst 1, 1) := by decide +kernel
theorem dX4_arrive_128 : decode cX4_arrive 128 = .ok (.iadd, 1) := by decide +kernel
theorem dX4_arrive_129 : decode cX4_arrive 129 = .ok (.putfield 151, 3) := by decide +kernel
theorem dX4_arrive_132 : decode cX4_arrive 132 = .ok (.return_, 1) := by decide +kernel
def sX4_arrive_61 : Nat → Wl → Int32 → Int32 → Option Wl
  | 0, _, _, _ => none
  | n + 1, w, l1, l3 => (if (w 1 7) ≤ l3 then some (wst w 1 4 ((w 1 4) + (1 : Int32))) else (idx l3 16).bind (fun c4 => (sX6_isInOrBelow w (w (41 + 2 * c4) 4) l1).bind (fun r7 => (if r7 = true then sX4_arrive_61 n (wst w (41 + 2 * c4) 2 ((w (41 + 2 * c4) 2) - (1 : Int32))) l1 (l3 + 1) else sX4_arrive_61 n w l1 (l3 + 1)))))
theorem tX4_arrive_61 {X : Cx} {B : Bs} {sz : Nat} {r : Wl} (hx : Fx X cX4_arrive 4 RX4 2 0 0) (hr : Rt X none 0 0 (WΨ (xΓ X) B none r sz)) : ∀ (n : Nat), ∀ (w : Wl) (l1 : Int32) (l3 : Int32) {G : Gf} (hW : Wd (xΓ X) B w G) (h : sX4_arrive_61 n w l1 l3 = some r), J X 4 G sz 0 0 61 [some (.ref (B.1 + 74)), some (.int l1), none, some (.int l3)] [] := by
  intro n
  induction n with
  | zero => intro w l1 l3 G hW h; rw [sX4_arrive_61.eq_1] at h; cases h
  | succ n ih =>
    intro w l1 l3 G hW h
    rw [sX4_arrive_61.eq_2] at h
    refine J_il4 hx rfl rfl dX4_arrive_61 ?_
    refine J_al4 hx rfl rfl dX4_arrive_62 ?_
    refine g4_0 hx hW 1 (rfl : kd 74 = 12) fl_X4_9 rfl dX4_arrive_63 ?_
    refine g6_7 hx hW (rfl : kd 1 = 2) fl_X4_76 dX4_arrive_66 ?_
    refine J_icmp_ge hx 119 dX4_arrive_69 rfl (fun h1 => ?_) (fun h1 => ?_)
    · replace h := pos h h1
      refine J_al4 hx rfl rfl dX4_arrive_119 ?_
      refine g4_0 hx hW 1 (rfl : kd 74 = 12) fl_X4_9 rfl dX4_arrive_120 ?_
      refine J_dup hx dX4_arrive_123 ?_
      refine g6_4 hx hW (rfl : kd 1 = 2) fl_X4_151 dX4_arrive_124 ?_
      refine J_iconst hx (1 : Int32) dX4_arrive_127 rfl ?_
      refine J_iadd hx dX4_arrive_128 ?_
      refine p6_4 hx hW (rfl : kd 1 = 2) fl_X4_151 dX4_arrive_129 fun G2 hW3 => ?_
      obtain rfl := Option.some.inj h
      exact J_vretW hx hr hW3 dX4_arrive_132 (Nat.le_refl 0) (Nat.le_refl 0)
    · replace h := neg h h1
      refine J_al4 hx rfl rfl dX4_arrive_72 ?_
      refine g4_0 hx hW 1 (rfl : kd 74 = 12) fl_X4_9 rfl dX4_arrive_73 ?_
      refine J_al4 hx rfl rfl dX4_arrive_76 ?_
      refine g4_0 hx hW 1 (rfl : kd 74 = 12) fl_X4_9 rfl dX4_arrive_77 ?_
      refine g6_11 hx hW 4 (rfl : kd 1 = 2) fl_X4_79 rfl dX4_arrive_80 ?_
      refine J_il4 hx rfl rfl dX4_arrive_83 ?_
      obtain ⟨c4, hc5, h⟩ := bnd h
      refine J_a5 hx hW (41 + 2 * c4) (rfl : kd 4 = 5) hc5 rfl dX4_arrive_84 fun hk6 => ?_
      refine g11_4 hx hW hk6 fl_X4_97 dX4_arrive_85 ?_
      refine J_il4 hx rfl rfl dX4_arrive_88 ?_
      obtain ⟨r7, hr8, h⟩ := bnd h
      refine J_rdV hx (kX6_isInOrBelow  hW hr8) ml_X4_163 lk_X6_isInOrBelow (ci := 5) rfl (hW.obj (rfl : kd 1 = 2) (by decide) (by decide)) (rest := []) rfl rfl (by decide) (by decide) (Nat.le_of_ble_eq_true rfl) (Nat.le_refl 0) (Nat.le_refl 0) dX4_arrive_89 ?_
      refine J_bif_eq hx 113 dX4_arrive_92 rfl (fun h9 => ?_) (fun h9 => ?_)
      · replace h := neg h (bft h9)
        refine J_iinc hx (v' := (l3 + 1)) rfl rfl (by decide) (hc_of rfl) rfl dX4_arrive_113 ?_
        refine J_goto hx 61 dX4_arrive_116 rfl ?_
        exact ih _ _ _  hW h
      · replace h := pos h h9
        refine J_al4 hx rfl rfl dX4_arrive_95 ?_
        refine g4_0 hx hW 1 (rfl : kd 74 = 12) fl_X4_9 rfl dX4_arrive_96 ?_
        refine g6_11 hx hW 4 (rfl : kd 1 = 2) fl_X4_79 rfl dX4_arrive_99 ?_
        refine J_il4 hx rfl rfl dX4_arrive_102 ?_
        refine J_a5 hx hW (41 + 2 * c4) (rfl : kd 4 = 5) hc5 rfl dX4_arrive_103 fun hk10 => ?_
        refine J_dup hx dX4_arrive_104 ?_
        refine g11_2 hx hW hk10 fl_X4_91 dX4_arrive_105 ?_
        refine J_iconst hx (1 : Int32) dX4_arrive_108 rfl ?_
        refine J_isub hx dX4_arrive_109 ?_
        refine p11_2 hx hW hk10 fl_X4_91 dX4_arrive_110 fun G11 hW12 => ?_
        refine J_iinc hx (v' := (l3 + 1)) rfl rfl (by decide) (hc_of rfl) rfl dX4_arrive_113 ?_
        refine J_goto hx 61 dX4_arrive_116 rfl ?_
        exact ih _ _ _  hW12 h
def sX4_arrive_40 (w : Wl) (l1 : Int32) (o2 : Nat) : Option Wl := (sX3_standAt w o2 (w o2 4)).bind (fun r1 => sX4_arrive_61 FU (wst r1 o2 9 (r1 1 0)) l1 (0 : Int32))
theorem tX4_arrive_40 {X : Cx} {B : Bs} {sz : Nat} {r : Wl} (hx : Fx X cX4_arrive 4 RX4 2 0 0) (hr : Rt X none 0 0 (WΨ (xΓ X) B none r sz)) : ∀ (w : Wl) (l1 : Int32) (o2 : Nat) (ho2 : kd o2 = 9) {G : Gf} (hW : Wd (xΓ X) B w G) (h : sX4_arrive_40  w l1 o2 = some r), J X 4 G sz 0 0 40 [some (.ref (B.1 + 74)), some (.int l1), some (.ref (B.1 + o2)), none] [] := by
  intro w l1 o2 ho2 G hW h
  unfold sX4_arrive_40 at h
  refine J_al4 hx rfl rfl dX4_arrive_40 ?_
  refine J_al4 hx rfl rfl dX4_arrive_41 ?_
  refine g3_4 hx hW ho2 fl_X4_142 dX4_arrive_42 ?_
  obtain ⟨r1, hr2, h⟩ := bnd h
  refine J_wrV hx (kX3_standAt ho2 hW hr2) ml_X4_72 lk_X3_standAt (ci := 2) rfl (hW.obj ho2 (by decide) (by decide)) (rest := []) rfl rfl (by decide) (by decide) (Nat.le_of_ble_eq_true rfl) (Nat.le_refl 0) (Nat.le_refl 0) dX4_arrive_45 fun G3 hW4 => ?_
  show J X 4 G3 sz 0 0 48 [some (.ref (B.1 + 74)), some (.int l1), some (.ref (B.1 + o2)), none] []
  refine J_al4 hx rfl rfl dX4_arrive_48 ?_
  refine J_al4 hx rfl rfl dX4_arrive_49 ?_
  refine g4_0 hx hW4 1 (rfl : kd 74 = 12) fl_X4_9 rfl dX4_arrive_50 ?_
  refine g6_0 hx hW4 (rfl : kd 1 = 2) fl_X4_106 dX4_arrive_53 ?_
  refine p3_9 hx hW4 ho2 fl_X4_109 dX4_arrive_56 fun G5 hW6 => ?_
  refine J_iconst hx (0 : Int32) dX4_arrive_59 rfl ?_
  refine J_is4 hx rfl (by decide) (hc_of rfl) rfl dX4_arrive_60 ?_
  refine J_lw (ls' := [some (.ref (B.1 + 74)), some (.int l1), none, some (.int (0 : Int32))]) (lwS (lwS (lwN (lwS lwZ)))) ?_
  exact tX4_arrive_61 hx hr _ _ _ _  hW6 h
def sX4_arrive (w : Wl) (l1 : Int32) : Option Wl := (idx l1 12).bind (fun c1 => (sX6_hasCourier w (w (29 + c1) 6)).bind (fun r4 => (if r4 = true then (idx (w (29 + c1) 6) 4).bind (fun c7 => sX4_arrive_40 (wst w 5 c7 (w (29 + c1) 4)) l1 (29 + c1)) else sX4_arrive_40 w l1 (29 + c1))))
theorem kX4_arrive {l : Launch} {Γ : Gl} {B : Bs} {w : Wl} {G : Gf} {sz : Nat} {l1 : Int32} {r : Wl} (hW : Wd Γ B w G) (h : sX4_arrive w l1 = some r) : CtW l Γ yX4_arrive cX4_arrive 4 none 2 [.ref (B.1 + 74), .int l1] G sz B none r := by
  refine Ct.of rfl (Nat.le_of_ble_eq_true rfl) fun X hx hr hl hΓ hnm => ?_
  subst hl hΓ
  show J X 4 G sz 0 0 0 [some (.ref (B.1 + 74)), some (.int l1), none, none] []
  unfold sX4_arrive at h
  refine J_al4 hx rfl rfl dX4_arrive_0 ?_
  refine g4_0 hx hW 1 (rfl : kd 74 = 12) fl_X4_9 rfl dX4_arrive_1 ?_
  refine g6_10 hx hW 3 (rfl : kd 1 = 2) fl_X4_59 rfl dX4_arrive_4 ?_
  refine J_il4 hx rfl rfl dX4_arrive_7 ?_
  obtain ⟨c1, hc2, h⟩ := bnd h
  refine J_a4 hx hW (29 + c1) (rfl : kd 3 = 4) hc2 rfl dX4_arrive_8 fun hk3 => ?_
  refine J_as4 hx rfl (by decide) (hc_of rfl) rfl dX4_arrive_9 ?_
  refine J_al4 hx rfl rfl dX4_arrive_10 ?_
  refine g4_0 hx hW 1 (rfl : kd 74 = 12) fl_X4_9 rfl dX4_arrive_11 ?_
  refine J_al4 hx rfl rfl dX4_arrive_14 ?_
  refine g3_6 hx hW hk3 fl_X4_145 dX4_arrive_15 ?_
  obtain ⟨r4, hr5, h⟩ := bnd h
  refine J_rdV hx (kX6_hasCourier  hW hr5) ml_X4_148 lk_X6_hasCourier (ci := 5) rfl (hW.obj (rfl : kd 1 = 2) (by decide) (by decide)) (rest := []) rfl rfl (by decide) (by decide) (Nat.le_of_ble_eq_true rfl) (Nat.le_refl 0) (Nat.le_refl 0) dX4_arrive_18 ?_
  refine J_bif_eq hx 40 dX4_arrive_21 rfl (fun h6 => ?_) (fun h6 => ?_)
  · replace h := neg h (bft h6)
    exact tX4_arrive_40 hx hr _ _ _ hk3 hW h
  · replace h := pos h h6
    refine J_al4 hx rfl rfl dX4_arrive_24 ?_
    refine g4_0 hx hW 1 (rfl : kd 74 = 12) fl_X4_9 rfl dX4_arrive_25 ?_
    refine g6_12 hx hW 5 (rfl : kd 1 = 2) fl_X4_53 rfl dX4_arrive_28 ?_
    refine J_al4 hx rfl rfl dX4_arrive_31 ?_
    refine g3_6 hx hW hk3 fl_X4_145 dX4_arrive_32 ?_
    refine J_al4 hx rfl rfl dX4_arrive_35 ?_
    refine g3_4 hx hW hk3 fl_X4_142 dX4_arrive_36 ?_
    obtain ⟨c7, hc8, h⟩ := bnd h
    refine J_iaS hx hW (rfl : kd 5 = 104) hc8 dX4_arrive_39 fun G9 hW10 => ?_
    exact tX4_arrive_40 hx hr _ _ _ hk3 hW10 h
theorem dX4_premiumOf_0 : decode cX4_premiumOf 0 = .ok (.iload_n 0, 1) := by decide +kernel
theorem dX4_premiumOf_1 : decode cX4_premiumOf 1 = .ok (.i2l, 1) := by decide +kernel
theorem dX4_premiumOf_2 : decode cX4_premiumOf 2 = .ok (.iload_n 1, 1) := by decide +kernel
theorem dX4_premiumOf_3 : decode cX4_premiumOf 3 = .ok (.i2l, 1) := by decide +kernel
theorem dX4_premiumOf_4 : decode cX4_premiumOf 4 = .ok (.lmul, 1) := by decide +kernel
theorem dX4_premiumOf_5 : decode cX4_premiumOf 5 = .ok (.ldc2_w 181, 3) := by decide +kernel
theorem dX4_premiumOf_8 : decode cX4_premiumOf 8 = .ok (.ldiv, 1) := by decide +kernel
theorem dX4_premiumOf_9 : decode cX4_premiumOf 9 = .ok (.l2i, 1) := by decide +kernel
theorem dX4_premiumOf_10 : decode cX4_premiumOf 10 = .ok (.ireturn, 1) := by decide +kernel
def sX4_premiumOf (w : Wl) (l0 : Int32) (l1 : Int32) : Option Int32 := some ((l0.toInt64 * l1.toInt64) / (10000 : Int64)).toInt32
theorem kX4_premiumOf {l : Launch} {Γ : Gl} {B : Bs} {w : Wl} {G : Gf} {sz : Nat} {l0 : Int32} {l1 : Int32} {r : Int32} (hW : Wd Γ B w G) (h : sX4_premiumOf w l0 l1 = some r) : CtR l Γ yX4_premiumOf cX4_premiumOf 2 (some .int) 0 [.int l0, .int l1] G sz (.int (r)) := by
  refine Ct.of rfl (Nat.le_of_ble_eq_true rfl) fun X hx hr hl hΓ hnm => ?_
  subst hl hΓ
  show J X 2 G sz 0 0 0 [some (.int l0), some (.int l1)] []
  unfold sX4_premiumOf at h
  refine J_il4 hx rfl rfl dX4_premiumOf_0 ?_
  refine J_i2l hx dX4_premiumOf_1 ?_
  refine J_il4 hx rfl rfl dX4_premiumOf_2 ?_
  refine J_i2l hx dX4_premiumOf_3 ?_
  refine J_lmul hx dX4_premiumOf_4 ?_
  refine J_ldc2 hx cn_X4_181 dX4_premiumOf_5 ?_
  refine J_ldiv hx (by decide) dX4_premiumOf_8 ?_
  refine J_l2i hx dX4_premiumOf_9 ?_
  exact J_iretR hx hr dX4_premiumOf_10 (Nat.le_refl 0) (Nat.le_refl 0) (Option.some.inj h)
theorem dX4_endDay_0 : decode cX4_endDay 0 = .ok (.iconst 0, 1) := by decide +kernel
theorem dX4_endDay_1 : decode cX4_endDay 1 = .ok (.istore_n 1, 1) := by decide +kernel
theorem dX4_endDay_2 : decode cX4_endDay 2 = .ok (.iload_n 1, 1) := by decide +kernel
theorem dX4_endDay_3 : decode cX4_endDay 3 = .ok (.aload_n 0, 1) := by decide +kernel
theorem dX4_endDay_4 : decode cX4_endDay 4 = .ok (.getfield 9, 3) := by decide +kernel
theorem dX4_endDay_7 : decode cX4_endDay 7 = .ok (.getfield 76, 3) := by decide +kernel
theorem dX4_endDay_10 : decode cX4_endDay 10 = .ok (.if_icmp .ge 148, 3) := by decide +kernel
theorem dX4_endDay_13 : decode cX4_endDay 13 = .ok (.aload_n 0, 1) := by decide +kernel
theorem dX4_endDay_14 : decode cX4_endDay 14 = .ok (.getfield 9, 3) := by decide +kernel
theorem dX4_endDay_17 : decode cX4_endDay 17 = .ok (.getfield 79, 3) := by decide +kernel
theorem dX4_endDay_20 : decode cX4_endDay 20 = .ok (.iload_n 1, 1) := by decide +kernel
theorem dX4_endDay_21 : decode cX4_endDay 21 = .ok (.aaload, 1) := by decide +kernel
theorem dX4_endDay_22 : decode cX4_endDay 22 = .ok (.astore_n 2, 1) := by decide +kernel
theorem dX4_endDay_23 : decode cX4_endDay 23 = .ok (.aload_n 0, 1) := by decide +kernel
theorem dX4_endDay_24 : decode cX4_endDay 24 = .ok (.getfield 9, 3) := by decide +kernel
theorem dX4_endDay_27 : decode cX4_endDay 27 = .ok (.iload_n 1, 1) := by decide +kernel
theorem dX4_endDay_28 : decode cX4_endDay 28 = .ok (.invokevirtual 131, 3) := by decide +kernel
theorem dX4_endDay_31 : decode cX4_endDay 31 = .ok (.istore_n 3, 1) := by decide +kernel
theorem dX4_endDay_32 : decode cX4_endDay 32 = .ok (.aload_n 0, 1) := by decide +kernel
theorem dX4_endDay_33 : decode cX4_endDay 33 = .ok (.getfield 9, 3) := by decide +kernel
theorem dX4_endDay_36 : decode cX4_endDay 36 = .ok (.iload_n 3, 1) := by decide +kernel
theorem dX4_endDay_37 : decode cX4_endDay 37 = .ok (.invokevirtual 119, 3) := by decide +kernel
theorem dX4_endDay_40 : decode cX4_endDay 40 = .ok (.ifCond .eq 51, 3) := by decide +kernel
theorem dX4_endDay_43 : decode cX4_endDay 43 = .ok (.aload_n 2, 1) := by decide +kernel
theorem dX4_endDay_44 : decode cX4_endDay 44 = .ok (.getfield 88, 3) := by decide +kernel
theorem dX4_endDay_47 : decode cX4_endDay 47 = .ok (.aload_n 0, 1) := by decide +kernel
theorem dX4_endDay_48 : decode cX4_endDay 48 = .ok (.getfield 9, 3) := by decide +kernel
theorem dX4_endDay_51 : decode cX4_endDay 51 = .ok (.getfield 21, 3) := by decide +kernel
theorem dX4_endDay_54 : decode cX4_endDay 54 = .ok (.iload_n 3, 1) := by decide +kernel
theorem dX4_endDay_55 : decode cX4_endDay 55 = .ok (.aaload, 1) := by decide +kernel
theorem dX4_endDay_56 : decode cX4_endDay 56 = .ok (.getfield 33, 3) := by decide +kernel
theorem dX4_endDay_59 : decode cX4_endDay 59 = .ok (.invokestatic 167, 3) := by decide +kernel
theorem dX4_endDay_62 : decode cX4_endDay 62 = .ok (.istore 4, 2) := by decide +kernel
theorem dX4_endDay_64 : decode cX4_endDay 64 = .ok (.aload_n 0, 1) := by decide +kernel
theorem dX4_endDay_65 : decode cX4_endDay 65 = .ok (.getfield 9, 3) := by decide +kernel
theorem dX4_endDay_68 : decode cX4_endDay 68 = .ok (.getfield 21, 3) := by decide +kernel
theorem dX4_endDay_71 : decode cX4_endDay 71 = .ok (.iload_n 3, 1) := by decide +kernel
theorem dX4_endDay_72 : decode cX4_endDay 72 = .ok (.aaload, 1) := by decide +kernel
theorem dX4_endDay_73 : decode cX4_endDay 73 = .ok (.dup, 1) := by decide +kernel
theorem dX4_endDay_74 : decode cX4_endDay 74 = .ok (.getfield 170, 3) := by decide +kernel
theorem dX4_endDay_77 : decode cX4_endDay 77 = .ok (.iload 4, 2) := by decide +kernel
theorem dX4_endDay_79 : decode cX4_endDay 79 = .ok (.iadd, 1) := by decide +kernel
theorem dX4_endDay_80 : decode cX4_endDay 80 = .ok (.putfield 170, 3) := by decide +kernel
theorem dX4_endDay_83 : decode cX4_endDay 83 = .ok (.aload_n 2, 1) := by decide +kernel
theorem dX4_endDay_84 : decode cX4_endDay 84 = .ok (.iload_n 3, 1) := by decide +kernel
theorem dX4_endDay_85 : decode cX4_endDay 85 = .ok (.invokevirtual 173, 3) := by decide +kernel
theorem dX4_endDay_88 : decode cX4_endDay 88 = .ok (.goto 39, 3) := by decide +kernel
theorem dX4_endDay_91 : decode cX4_endDay 91 = .ok (.aload_n 2, 1) := by decide +kernel
theorem dX4_endDay_92 : decode cX4_endDay 92 = .ok (.getfield 88, 3) := by decide +kernel
theorem dX4_endDay_95 : decode cX4_endDay 95 = .ok (.aload_n 0, 1) := by decide +kernel
theorem dX4_endDay_96 : decode cX4_endDay 96 = .ok (.getfield 9, 3) := by decide +kernel
theorem dX4_endDay_99 : decode cX4_endDay 99 = .ok (.getfield 47, 3) := by decide +kernel
theorem dX4_endDay_102 : decode cX4_endDay 102 = .ok (.invokestatic 167, 3) := by decide +kernel
theorem dX4_endDay_105 : decode cX4_endDay 105 = .ok (.istore 4, 2) := by decide +kernel
theorem dX4_endDay_107 : decode cX4_endDay 107 = .ok (.aload_n 0, 1) := by decide +kernel
theorem dX4_endDay_108 : decode cX4_endDay 108 = .ok (.getfield 9, 3) := by decide +kernel
theorem dX4_endDay_111 : decode cX4_endDay 111 = .ok (.dup, 1) := by decide +kernel
theorem dX4_endDay_112 : decode cX4_endDay 112 = .ok (.getfield 176, 3) := by decide +kernel
theorem dX4_endDay_115 : decode cX4_endDay 115 = .ok (.iload 4, 2) := by decide +kernel
theorem dX4_endDay_117 : decode cX4_endDay 117 = .ok (.iadd, 1) := by decide +kernel
theorem dX4_endDay_118 : decode cX4_endDay 118 = .ok (.putfield 176, 3) := by decide +kernel
theorem dX4_endDay_121 : decode cX4_endDay 121 = .ok (.aload_n 2, 1) := by decide +kernel
theorem dX4_endDay_122 : decode cX4_endDay 122 = .ok (.bipush 8, 2) := by decide +kernel
theorem dX4_endDay_124 : decode cX4_endDay 124 = .ok (.invokevirtual 173, 3) := by decide +kernel
theorem dX4_endDay_127 : decode cX4_endDay 127 = .ok (.aload_n 2, 1) := by decide +kernel
theorem dX4_endDay_128 : decode cX4_endDay 128 = .ok (.dup, 1) := by decide +kernel
theorem dX4_endDay_129 : decode cX4_endDay 129 = .ok (.getfield 179, 3) := by decide +kernel
theorem dX4_endDay_132 : decode cX4_endDay 132 = .ok (.iload 4, 2) := by decide +kernel
theorem dX4_endDay_134 : decode cX4_endDay 134 = .ok (.iadd, 1) := by decide +kernel
theorem dX4_endDay_135 : decode cX4_endDay 135 = .ok (.putfield 179, 3) := by decide +kernel
theorem dX4_endDay_138 : decode cX4_endDay 138 = .ok (.aload_n 0, 1) := by decide +kernel
theorem dX4_endDay_139 : decode cX4_endDay 139 = .ok (.getfield 9, 3) := by decide +kernel
theorem dX4_endDay_142 : decode cX4_endDay 142 = .ok (.dup, 1) := by decide +kernel
theorem dX4_endDay_143 : decode cX4_endDay 143 = .ok (.getfield 180, 3) := by decide +kernel
theorem dX4_endDay_146 : decode cX4_endDay 146 = .ok (.iload 4, 2) := by decide +kernel
theorem dX4_endDay_148 : decode cX4_endDay 148 = .ok (.iadd, 1) := by decide +kernel
theorem dX4_endDay_149 : decode cX4_endDay 149 = .ok (.putfield 180, 3) := by decide +kernel
theorem dX4_endDay_152 : decode cX4_endDay 152 = .ok (.iinc 1 1, 3) := by decide +kernel
theorem dX4_endDay_155 : decode cX4_endDay 155 = .ok (.goto (-153), 3) := by decide +kernel
theorem dX4_endDay_158 : decode cX4_endDay 158 = .ok (.return_, 1) := by decide +kernel
def sX4_endDay_127 (k2 : Wl → Int32 → Option Wl) (w : Wl) (l1 : Int32) (o2 : Nat) (l4 : Int32) : Option Wl := k2 (wst (wst w o2 6 ((w o2 6) + l4)) 1 2 (((wst w o2 6 ((w o2 6) + l4)) 1 2) + l4)) (l1 + 1)
theorem tX4_endDay_127 {X : Cx} {B : Bs} {sz : Nat} {r : Wl} (hx : Fx X cX4_endDay 5 RX4 2 0 0) (hr : Rt X none 0 0 (WΨ (xΓ X) B none r sz)) (k2 : Wl → Int32 → Option Wl) (hk2 : ∀ (w : Wl) (l1 : Int32) {G : Gf} (hW : Wd (xΓ X) B w G) (h : k2 w l1 = some r), J X 5 G sz 0 0 2 [some (.ref (B.1 + 74)), some (.int l1), none, none, none] []) : ∀ (w : Wl) (l1 : Int32) (o2 : Nat) (l4 : Int32) (ho2 : kd o2 = 10) {G : Gf} (hW : Wd (xΓ X) B w G) (h : sX4_endDay_127 k2  w l1 o2 l4 = some r), J X 5 G sz 0 0 127 [some (.ref (B.1 + 74)), some (.int l1), some (.ref (B.1 + o2)), none, some (.int l4)] [] := by
  intro w l1 o2 l4 ho2 G hW h
  unfold sX4_endDay_127 at h
  refine J_al4 hx rfl rfl dX4_endDay_127 ?_
  refine J_dup hx dX4_endDay_128 ?_
  refine g11_6 hx hW ho2 fl_X4_179 dX4_endDay_129 ?_
  refine J_il hx rfl dX4_endDay_132 ?_
  refine J_iadd hx dX4_endDay_134 ?_
  refine p11_6 hx hW ho2 fl_X4_179 dX4_endDay_135 fun G1 hW2 => ?_
  refine J_al4 hx rfl rfl dX4_endDay_138 ?_
  refine g4_0 hx hW2 1 (rfl : kd 74 = 12) fl_X4_9 rfl dX4_endDay_139 ?_
  refine J_dup hx dX4_endDay_142 ?_
  refine g6_2 hx hW2 (rfl : kd 1 = 2) fl_X4_180 dX4_endDay_143 ?_
  refine J_il hx rfl dX4_endDay_146 ?_
  refine J_iadd hx dX4_endDay_148 ?_
  refine p6_2 hx hW2 (rfl : kd 1 = 2) fl_X4_180 dX4_endDay_149 fun G3 hW4 => ?_
  refine J_iinc hx (v' := (l1 + 1)) rfl rfl (by decide) (hc_of rfl) rfl dX4_endDay_152 ?_
  refine J_goto hx 2 dX4_endDay_155 rfl ?_
  refine J_lw (ls' := [some (.ref (B.1 + 74)), some (.int (l1 + 1)), none, none, none]) (lwS (lwS (lwN (lwN (lwN lwZ))))) ?_
  exact hk2 _ _  hW4 h
def sX4_endDay_2 : Nat → Wl → Int32 → Option Wl
  | 0, _, _ => none
  | n + 1, w, l1 => (if (w 1 7) ≤ l1 then some w else (idx l1 16).bind (fun c2 => (sX6_venueOfWork w l1).bind (fun r5 => (sX6_hasVenue w r5).bind (fun r7 => (if r7 = true then (idx r5 8).bind (fun c18 => (sX4_premiumOf w (w (41 + 2 * c2) 1) (w (13 + 2 * c18) 2)).bind (fun r21 => (sX11_notePlace (wst w (13 + 2 * c18) 4 ((w (13 + 2 * c18) 4) + r21)) (41 + 2 * c2) r5).bind (fun r26 => sX4_endDay_127 (fun w l1 => sX4_endDay_2 n w l1) r26 l1 (41 + 2 * c2) r21))) else (sX4_premiumOf w (w (41 + 2 * c2) 1) (w 1 1)).bind (fun r10 => (sX11_notePlace (wst w 1 3 ((w 1 3) + r10)) (41 + 2 * c2) (8 : Int32)).bind (fun r14 => sX4_endDay_127 (fun w l1 => sX4_endDay_2 n w l1) r14 l1 (41 + 2 * c2) r10)))))))
theorem tX4_endDay_2 {X : Cx} {B : Bs} {sz : Nat} {r : Wl} (hx : Fx X cX4_endDay 5 RX4 2 0 0) (hr : Rt X none 0 0 (WΨ (xΓ X) B none r sz)) : ∀ (n : Nat), ∀ (w : Wl) (l1 : Int32) {G : Gf} (hW : Wd (xΓ X) B w G) (h : sX4_endDay_2 n w l1 = some r), J X 5 G sz 0 0 2 [some (.ref (B.1 + 74)), some (.int l1), none, none, none] [] := by
  intro n
  induction n with
  | zero => intro w l1 G hW h; rw [sX4_endDay_2.eq_1] at h; cases h
  | succ n ih =>
    intro w l1 G hW h
    rw [sX4_endDay_2.eq_2] at h
    refine J_il4 hx rfl rfl dX4_endDay_2 ?_
    refine J_al4 hx rfl rfl dX4_endDay_3 ?_
    refine g4_0 hx hW 1 (rfl : kd 74 = 12) fl_X4_9 rfl dX4_endDay_4 ?_
    refine g6_7 hx hW (rfl : kd 1 = 2) fl_X4_76 dX4_endDay_7 ?_
    refine J_icmp_ge hx 158 dX4_endDay_10 rfl (fun h1 => ?_) (fun h1 => ?_)
    · replace h := pos h h1
      obtain rfl := Option.some.inj h
      exact J_vretW hx hr hW dX4_endDay_158 (Nat.le_refl 0) (Nat.le_refl 0)
    · replace h := neg h h1
      refine J_al4 hx rfl rfl dX4_endDay_13 ?_
      refine g4_0 hx hW 1 (rfl : kd 74 = 12) fl_X4_9 rfl dX4_endDay_14 ?_
      refine g6_11 hx hW 4 (rfl : kd 1 = 2) fl_X4_79 rfl dX4_endDay_17 ?_
      refine J_il4 hx rfl rfl dX4_endDay_20 ?_
      obtain ⟨c2, hc3, h⟩ := bnd h
      refine J_a5 hx hW (41 + 2 * c2) (rfl : kd 4 = 5) hc3 rfl dX4_endDay_21 fun hk4 => ?_
      refine J_as4 hx rfl (by decide) (hc_of rfl) rfl dX4_endDay_22 ?_
      refine J_al4 hx rfl rfl dX4_endDay_23 ?_
      refine g4_0 hx hW 1 (rfl : kd 74 = 12) fl_X4_9 rfl dX4_endDay_24 ?_
      refine J_il4 hx rfl rfl dX4_endDay_27 ?_
      obtain ⟨r5, hr6, h⟩ := bnd h
      refine J_rdV hx (kX6_venueOfWork  hW hr6) ml_X4_131 lk_X6_venueOfWork (ci := 5) rfl (hW.obj (rfl : kd 1 = 2) (by decide) (by decide)) (rest := []) rfl rfl (by decide) (by decide) (Nat.le_of_ble_eq_true rfl) (Nat.le_refl 0) (Nat.le_refl 0) dX4_endDay_28 ?_
      refine J_is4 hx rfl (by decide) (hc_of rfl) rfl dX4_endDay_31 ?_
      refine J_al4 hx rfl rfl dX4_endDay_32 ?_
      refine g4_0 hx hW 1 (rfl : kd 74 = 12) fl_X4_9 rfl dX4_endDay_33 ?_
      refine J_il4 hx rfl rfl dX4_endDay_36 ?_
      obtain ⟨r7, hr8, h⟩ := bnd h
      refine J_rdV hx (kX6_hasVenue  hW hr8) ml_X4_119 lk_X6_hasVenue (ci := 5) rfl (hW.obj (rfl : kd 1 = 2) (by decide) (by decide)) (rest := []) rfl rfl (by decide) (by decide) (Nat.le_of_ble_eq_true rfl) (Nat.le_refl 0) (Nat.le_refl 0) dX4_endDay_37 ?_
      refine J_bif_eq hx 91 dX4_endDay_40 rfl (fun h9 => ?_) (fun h9 => ?_)
      · replace h := neg h (bft h9)
        refine J_al4 hx rfl rfl dX4_endDay_91 ?_
        refine g11_1 hx hW hk4 fl_X4_88 dX4_endDay_92 ?_
        refine J_al4 hx rfl rfl dX4_endDay_95 ?_
        refine g4_0 hx hW 1 (rfl : kd 74 = 12) fl_X4_9 rfl dX4_endDay_96 ?_
        refine g6_1 hx hW (rfl : kd 1 = 2) fl_X4_47 dX4_endDay_99 ?_
        obtain ⟨r10, hr11, h⟩ := bnd h
        refine J_rdS hx (kX4_premiumOf  hW hr11) ml_X4_167 lk_X4_premiumOf (rest := []) rfl rfl (by decide) (by decide) (Nat.le_of_ble_eq_true rfl) (Nat.le_refl 0) (Nat.le_refl 0) dX4_endDay_102 ?_
        refine J_is hx (by decide) (hc_of rfl) rfl dX4_endDay_105 ?_
        refine J_al4 hx rfl rfl dX4_endDay_107 ?_
        refine g4_0 hx hW 1 (rfl : kd 74 = 12) fl_X4_9 rfl dX4_endDay_108 ?_
        refine J_dup hx dX4_endDay_111 ?_
        refine g6_3 hx hW (rfl : kd 1 = 2) fl_X4_176 dX4_endDay_112 ?_
        refine J_il hx rfl dX4_endDay_115 ?_
        refine J_iadd hx dX4_endDay_117 ?_
        refine p6_3 hx hW (rfl : kd 1 = 2) fl_X4_176 dX4_endDay_118 fun G12 hW13 => ?_
        refine J_al4 hx rfl rfl dX4_endDay_121 ?_
        refine J_bipush hx (8 : Int32) dX4_endDay_122 rfl ?_
        obtain ⟨r14, hr15, h⟩ := bnd h
        refine J_wrV hx (kX11_notePlace hk4 hW13 hr15) ml_X4_173 lk_X11_notePlace (ci := 9) rfl (hW13.obj hk4 (by decide) (by decide)) (rest := []) rfl rfl (by decide) (by decide) (Nat.le_of_ble_eq_true rfl) (Nat.le_refl 0) (Nat.le_refl 0) dX4_endDay_124 fun G16 hW17 => ?_
        show J X 5 G16 sz 0 0 127 [some (.ref (B.1 + 74)), some (.int l1), some (.ref (B.1 + (41 + 2 * c2))), some (.int r5), some (.int r10)] []
        refine J_lw (ls' := [some (.ref (B.1 + 74)), some (.int l1), some (.ref (B.1 + (41 + 2 * c2))), none, some (.int r10)]) (lwS (lwS (lwS (lwN (lwS lwZ))))) ?_
        exact tX4_endDay_127 hx hr _ ih _ _ _ _ hk4 hW17 h
      · replace h := pos h h9
        refine J_al4 hx rfl rfl dX4_endDay_43 ?_
        refine g11_1 hx hW hk4 fl_X4_88 dX4_endDay_44 ?_
        refine J_al4 hx rfl rfl dX4_endDay_47 ?_
        refine g4_0 hx hW 1 (rfl : kd 74 = 12) fl_X4_9 rfl dX4_endDay_48 ?_
        refine g6_9 hx hW 2 (rfl : kd 1 = 2) fl_X4_21 rfl dX4_endDay_51 ?_
        refine J_il4 hx rfl rfl dX4_endDay_54 ?_
        obtain ⟨c18, hc19, h⟩ := bnd h
        refine J_a3 hx hW (13 + 2 * c18) (rfl : kd 2 = 3) hc19 rfl dX4_endDay_55 fun hk20 => ?_
        refine g9_2 hx hW hk20 fl_X4_33 dX4_endDay_56 ?_
        obtain ⟨r21, hr22, h⟩ := bnd h
        refine J_rdS hx (kX4_premiumOf  hW hr22) ml_X4_167 lk_X4_premiumOf (rest := []) rfl rfl (by decide) (by decide) (Nat.le_of_ble_eq_true rfl) (Nat.le_refl 0) (Nat.le_refl 0) dX4_endDay_59 ?_
        refine J_is hx (by decide) (hc_of rfl) rfl dX4_endDay_62 ?_
        refine J_al4 hx rfl rfl dX4_endDay_64 ?_
        refine g4_0 hx hW 1 (rfl : kd 74 = 12) fl_X4_9 rfl dX4_endDay_65 ?_
        refine g6_9 hx hW 2 (rfl : kd 1 = 2) fl_X4_21 rfl dX4_endDay_68 ?_
        refine J_il4 hx rfl rfl dX4_endDay_71 ?_
        refine J_a3 hx hW (13 + 2 * c18) (rfl : kd 2 = 3) hc19 rfl dX4_endDay_72 fun hk23 => ?_
        refine J_dup hx dX4_endDay_73 ?_
        refine g9_4 hx hW hk23 fl_X4_170 dX4_endDay_74 ?_
        refine J_il hx rfl dX4_endDay_77 ?_
        refine J_iadd hx dX4_endDay_79 ?_
        refine p9_4 hx hW hk23 fl_X4_170 dX4_endDay_80 fun G24 hW25 => ?_
        refine J_al4 hx rfl rfl dX4_endDay_83 ?_
        refine J_il4 hx rfl rfl dX4_endDay_84 ?_
        obtain ⟨r26, hr27, h⟩ := bnd h
        refine J_wrV hx (kX11_notePlace hk4 hW25 hr27) ml_X4_173 lk_X11_notePlace (ci := 9) rfl (hW25.obj hk4 (by decide) (by decide)) (rest := []) rfl rfl (by decide) (by decide) (Nat.le_of_ble_eq_true rfl) (Nat.le_refl 0) (Nat.le_refl 0) dX4_endDay_85 fun G28 hW29 => ?_
        show J X 5 G28 sz 0 0 88 [some (.ref (B.1 + 74)), some (.int l1), some (.ref (B.1 + (41 + 2 * c2))), some (.int r5), some (.int r21)] []
        refine J_goto hx 127 dX4_endDay_88 rfl ?_
        refine J_lw (ls' := [some (.ref (B.1 + 74)), some (.int l1), some (.ref (B.1 + (41 + 2 * c2))), none, some (.int r21)]) (lwS (lwS (lwS (lwN (lwS lwZ))))) ?_
        exact tX4_endDay_127 hx hr _ ih _ _ _ _ hk4 hW29 h
def sX4_endDay (w : Wl) : Option Wl := sX4_endDay_2 FU w (0 : Int32)
theorem kX4_endDay {l : Launch} {Γ : Gl} {B : Bs} {w : Wl} {G : Gf} {sz : Nat} {r : Wl} (hW : Wd Γ B w G) (h : sX4_endDay w  = some r) : CtW l Γ yX4_endDay cX4_endDay 5 none 2 [.ref (B.1 + 74)] G sz B none r := by
  refine Ct.of rfl (Nat.le_of_ble_eq_true rfl) fun X hx hr hl hΓ hnm => ?_
  subst hl hΓ
  show J X 5 G sz 0 0 0 [some (.ref (B.1 + 74)), none, none, none, none] []
  unfold sX4_endDay at h
  refine J_iconst hx (0 : Int32) dX4_endDay_0 rfl ?_
  refine J_is4 hx rfl (by decide) (hc_of rfl) rfl dX4_endDay_1 ?_
  exact tX4_endDay_2 hx hr _ _ _  hW h
theorem dX4_passHour_0 : decode cX4_passHour 0 = .ok (.aload_n 0, 1) := by decide +kernel
theorem dX4_passHour_1 : decode cX4_passHour 1 = .ok (.getfield 9, 3) := by decide +kernel
theorem dX4_passHour_4 : decode cX4_passHour 4 = .ok (.dup, 1) := by decide +kernel
theorem dX4_passHour_5 : decode cX4_passHour 5 = .ok (.getfield 106, 3) := by decide +kernel
theorem dX4_passHour_8 : decode cX4_passHour 8 = .ok (.iconst 1, 1) := by decide +kernel
theorem dX4_passHour_9 : decode cX4_passHour 9 = .ok (.iadd, 1) := by decide +kernel
theorem dX4_passHour_10 : decode cX4_passHour 10 = .ok (.putfield 106, 3) := by decide +kernel
theorem dX4_passHour_13 : decode cX4_passHour 13 = .ok (.iconst 0, 1) := by decide +kernel
theorem dX4_passHour_14 : decode cX4_passHour 14 = .ok (.istore_n 1, 1) := by decide +kernel
theorem dX4_passHour_15 : decode cX4_passHour 15 = .ok (.iload_n 1, 1) := by decide +kernel
theorem dX4_passHour_16 : decode cX4_passHour 16 = .ok (.aload_n 0, 1) := by decide +kernel
theorem dX4_passHour_17 : decode cX4_passHour 17 = .ok (.getfield 9, 3) := by decide +kernel
theorem dX4_passHour_20 : decode cX4_passHour 20 = .ok (.getfield 56, 3) := by decide +kernel
theorem dX4_passHour_23 : decode cX4_passHour 23 = .ok (.if_icmp .ge 52, 3) := by decide +kernel
theorem dX4_passHour_26 : decode cX4_passHour 26 = .ok (.aload_n 0, 1) := by decide +kernel
theorem dX4_passHour_27 : decode cX4_passHour 27 = .ok (.getfield 9, 3) := by decide +kernel
theorem dX4_passHour_30 : decode cX4_passHour 30 = .ok (.getfield 59, 3) := by decide +kernel
theorem dX4_passHour_33 : decode cX4_passHour 33 = .ok (.iload_n 1, 1) := by decide +kernel
theorem dX4_passHour_34 : decode cX4_passHour 34 = .ok (.aaload, 1) := by decide +kernel
theorem dX4_passHour_35 : decode cX4_passHour 35 = .ok (.getfield 142, 3) := by decide +kernel
theorem dX4_passHour_38 : decode cX4_passHour 38 = .ok (.iconst (-1), 1) := by decide +kernel
theorem dX4_passHour_39 : decode cX4_passHour 39 = .ok (.if_icmp .eq 30, 3) := by decide +kernel
theorem dX4_passHour_42 : decode cX4_passHour 42 = .ok (.aload_n 0, 1) := by decide +kernel
theorem dX4_passHour_43 : decode cX4_passHour 43 = .ok (.getfield 9, 3) := by decide +kernel
theorem dX4_passHour_46 : decode cX4_passHour 46 = .ok (.getfield 59, 3) := by decide +kernel
theorem dX4_passHour_49 : decode cX4_passHour 49 = .ok (.iload_n 1, 1) := by decide +kernel
theorem dX4_passHour_50 : decode cX4_passHour 50 = .ok (.aaload, 1) := by decide +kernel
theorem dX4_passHour_51 : decode cX4_passHour 51 = .ok (.getfield 139, 3) := by decide +kernel
theorem dX4_passHour_54 : decode cX4_passHour 54 = .ok (.aload_n 0, 1) := by decide +kernel
theorem dX4_passHour_55 : decode cX4_passHour 55 = .ok (.getfield 9, 3) := by decide +kernel
theorem dX4_passHour_58 : decode cX4_passHour 58 = .ok (.getfield 106, 3) := by decide +kernel
theorem dX4_passHour_61 : decode cX4_passHour 61 = .ok (.if_icmp .ne 8, 3) := by decide +kernel
theorem dX4_passHour_64 : decode cX4_passHour 64 = .ok (.aload_n 0, 1) := by decide +kernel
theorem dX4_passHour_65 : decode cX4_passHour 65 = .ok (.iload_n 1, 1) := by decide +kernel
theorem dX4_passHour_66 : decode cX4_passHour 66 = .ok (.invokevirtual 157, 3) := by decide +kernel
theorem dX4_passHour_69 : decode cX4_passHour 69 = .ok (.iinc 1 1, 3) := by decide +kernel
theorem dX4_passHour_72 : decode cX4_passHour 72 = .ok (.goto (-57), 3) := by decide +kernel
theorem dX4_passHour_75 : decode cX4_passHour 75 = .ok (.aload_n 0, 1) := by decide +kernel
theorem dX4_passHour_76 : decode cX4_passHour 76 = .ok (.getfield 9, 3) := by decide +kernel
theorem dX4_passHour_79 : decode cX4_passHour 79 = .ok (.getfield 106, 3) := by decide +kernel
theorem dX4_passHour_82 : decode cX4_passHour 82 = .ok (.bipush 24, 2) := by decide +kernel
theorem dX4_passHour_84 : decode cX4_passHour 84 = .ok (.irem, 1) := by decide +kernel
theorem dX4_passHour_85 : decode cX4_passHour 85 = .ok (.ifCond .ne 7, 3) := by decide +kernel
theorem dX4_passHour_88 : decode cX4_passHour 88 = .ok (.aload_n 0, 1) := by decide +kernel
theorem dX4_passHour_89 : decode cX4_passHour 89 = .ok (.invokevirtual 160, 3) := by decide +kernel
theorem dX4_passHour_92 : decode cX4_passHour 92 = .ok (.return_, 1) := by decide +kernel
def sX4_passHour_15 : Nat → Wl → Int32 → Option Wl
  | 0, _, _ => none
  | n + 1, w, l1 => (if (w 1 6) ≤ l1 then (if ((w 1 0) - ((w 1 0) / (24 : Int32)) * (24 : Int32)) = 0 then (sX4_endDay w ).bind (fun r3 => some r3) else some w) else (idx l1 12).bind (fun c7 => (if (w (29 + c7) 4) = (-1 : Int32) then sX4_passHour_15 n w (l1 + 1) else (if (w (29 + c7) 5) = (w 1 0) then (sX4_arrive w l1).bind (fun r13 => sX4_passHour_15 n r13 (l1 + 1)) else sX4_passHour_15 n w (l1 + 1)))))
theorem tX4_passHour_15 {X : Cx} {B : Bs} {sz : Nat} {r : Wl} (hx : Fx X cX4_passHour 2 RX4 3 0 0) (hr : Rt X none 0 0 (WΨ (xΓ X) B none r sz)) : ∀ (n : Nat), ∀ (w : Wl) (l1 : Int32) {G : Gf} (hW : Wd (xΓ X) B w G) (h : sX4_passHour_15 n w l1 = some r), J X 2 G sz 0 0 15 [some (.ref (B.1 + 74)), some (.int l1)] [] := by
  intro n
  induction n with
  | zero => intro w l1 G hW h; rw [sX4_passHour_15.eq_1] at h; cases h
  | succ n ih =>
    intro w l1 G hW h
    rw [sX4_passHour_15.eq_2] at h
    refine J_il4 hx rfl rfl dX4_passHour_15 ?_
    refine J_al4 hx rfl rfl dX4_passHour_16 ?_
    refine g4_0 hx hW 1 (rfl : kd 74 = 12) fl_X4_9 rfl dX4_passHour_17 ?_
    refine g6_6 hx hW (rfl : kd 1 = 2) fl_X4_56 dX4_passHour_20 ?_
    refine J_icmp_ge hx 75 dX4_passHour_23 rfl (fun h1 => ?_) (fun h1 => ?_)
    · replace h := pos h h1
      refine J_al4 hx rfl rfl dX4_passHour_75 ?_
      refine g4_0 hx hW 1 (rfl : kd 74 = 12) fl_X4_9 rfl dX4_passHour_76 ?_
      refine g6_0 hx hW (rfl : kd 1 = 2) fl_X4_106 dX4_passHour_79 ?_
      refine J_bipush hx (24 : Int32) dX4_passHour_82 rfl ?_
      refine J_irem hx (by decide) dX4_passHour_84 ?_
      refine J_if_ne hx 92 dX4_passHour_85 rfl (fun h2 => ?_) (fun h2 => ?_)
      · replace h := neg h h2
        obtain rfl := Option.some.inj h
        exact J_vretW hx hr hW dX4_passHour_92 (Nat.le_refl 0) (Nat.le_refl 0)
      · replace h := pos h h2
        refine J_al4 hx rfl rfl dX4_passHour_88 ?_
        obtain ⟨r3, hr4, h⟩ := bnd h
        refine J_wrV hx (kX4_endDay  hW hr4) ml_X4_160 lk_X4_endDay (ci := 3) rfl (hW.obj (rfl : kd 74 = 12) (by decide) (by decide)) (rest := []) rfl rfl (by decide) (by decide) (Nat.le_of_ble_eq_true rfl) (Nat.le_refl 0) (Nat.le_refl 0) dX4_passHour_89 fun G5 hW6 => ?_
        show J X 2 G5 sz 0 0 92 [some (.ref (B.1 + 74)), some (.int l1)] []
        obtain rfl := Option.some.inj h
        exact J_vretW hx hr hW6 dX4_passHour_92 (Nat.le_refl 0) (Nat.le_refl 0)
    · replace h := neg h h1
      refine J_al4 hx rfl rfl dX4_passHour_26 ?_
      refine g4_0 hx hW 1 (rfl : kd 74 = 12) fl_X4_9 rfl dX4_passHour_27 ?_
      refine g6_10 hx hW 3 (rfl : kd 1 = 2) fl_X4_59 rfl dX4_passHour_30 ?_
      refine J_il4 hx rfl rfl dX4_passHour_33 ?_
      obtain ⟨c7, hc8, h⟩ := bnd h
      refine J_a4 hx hW (29 + c7) (rfl : kd 3 = 4) hc8 rfl dX4_passHour_34 fun hk9 => ?_
      refine g3_4 hx hW hk9 fl_X4_142 dX4_passHour_35 ?_
      refine J_iconst hx (-1 : Int32) dX4_passHour_38 rfl ?_
      refine J_icmp_eq hx 69 dX4_passHour_39 rfl (fun h10 => ?_) (fun h10 => ?_)
      · replace h := pos h h10
        refine J_iinc hx (v' := (l1 + 1)) rfl rfl (by decide) (hc_of rfl) rfl dX4_passHour_69 ?_
        refine J_goto hx 15 dX4_passHour_72 rfl ?_
        exact ih _ _  hW h
      · replace h := neg h h10
        refine J_al4 hx rfl rfl dX4_passHour_42 ?_
        refine g4_0 hx hW 1 (rfl : kd 74 = 12) fl_X4_9 rfl dX4_passHour_43 ?_
        refine g6_10 hx hW 3 (rfl : kd 1 = 2) fl_X4_59 rfl dX4_passHour_46 ?_
        refine J_il4 hx rfl rfl dX4_passHour_49 ?_
        refine J_a4 hx hW (29 + c7) (rfl : kd 3 = 4) hc8 rfl dX4_passHour_50 fun hk11 => ?_
        refine g3_5 hx hW hk11 fl_X4_139 dX4_passHour_51 ?_
        refine J_al4 hx rfl rfl dX4_passHour_54 ?_
        refine g4_0 hx hW 1 (rfl : kd 74 = 12) fl_X4_9 rfl dX4_passHour_55 ?_
        refine g6_0 hx hW (rfl : kd 1 = 2) fl_X4_106 dX4_passHour_58 ?_
        refine J_icmp_ne hx 69 dX4_passHour_61 rfl (fun h12 => ?_) (fun h12 => ?_)
        · replace h := neg h h12
          refine J_iinc hx (v' := (l1 + 1)) rfl rfl (by decide) (hc_of rfl) rfl dX4_passHour_69 ?_
          refine J_goto hx 15 dX4_passHour_72 rfl ?_
          exact ih _ _  hW h
        · replace h := pos h h12
          refine J_al4 hx rfl rfl dX4_passHour_64 ?_
          refine J_il4 hx rfl rfl dX4_passHour_65 ?_
          obtain ⟨r13, hr14, h⟩ := bnd h
          refine J_wrV hx (kX4_arrive  hW hr14) ml_X4_157 lk_X4_arrive (ci := 3) rfl (hW.obj (rfl : kd 74 = 12) (by decide) (by decide)) (rest := []) rfl rfl (by decide) (by decide) (Nat.le_of_ble_eq_true rfl) (Nat.le_refl 0) (Nat.le_refl 0) dX4_passHour_66 fun G15 hW16 => ?_
          show J X 2 G15 sz 0 0 69 [some (.ref (B.1 + 74)), some (.int l1)] []
          refine J_iinc hx (v' := (l1 + 1)) rfl rfl (by decide) (hc_of rfl) rfl dX4_passHour_69 ?_
          refine J_goto hx 15 dX4_passHour_72 rfl ?_
          exact ih _ _  hW16 h
def sX4_passHour (w : Wl) : Option Wl := sX4_passHour_15 FU (wst w 1 0 ((w 1 0) + (1 : Int32))) (0 : Int32)
theorem kX4_passHour {l : Launch} {Γ : Gl} {B : Bs} {w : Wl} {G : Gf} {sz : Nat} {r : Wl} (hW : Wd Γ B w G) (h : sX4_passHour w  = some r) : CtW l Γ yX4_passHour cX4_passHour 2 none 3 [.ref (B.1 + 74)] G sz B none r := by
  refine Ct.of rfl (Nat.le_of_ble_eq_true rfl) fun X hx hr hl hΓ hnm => ?_
  subst hl hΓ
  show J X 2 G sz 0 0 0 [some (.ref (B.1 + 74)), none] []
  unfold sX4_passHour at h
  refine J_al4 hx rfl rfl dX4_passHour_0 ?_
  refine g4_0 hx hW 1 (rfl : kd 74 = 12) fl_X4_9 rfl dX4_passHour_1 ?_
  refine J_dup hx dX4_passHour_4 ?_
  refine g6_0 hx hW (rfl : kd 1 = 2) fl_X4_106 dX4_passHour_5 ?_
  refine J_iconst hx (1 : Int32) dX4_passHour_8 rfl ?_
  refine J_iadd hx dX4_passHour_9 ?_
  refine p6_0 hx hW (rfl : kd 1 = 2) fl_X4_106 dX4_passHour_10 fun G1 hW2 => ?_
  refine J_iconst hx (0 : Int32) dX4_passHour_13 rfl ?_
  refine J_is4 hx rfl (by decide) (hc_of rfl) rfl dX4_passHour_14 ?_
  exact tX4_passHour_15 hx hr _ _ _  hW2 h
theorem dX4_letHoursPass_0 : decode cX4_letHoursPass 0 = .ok (.aload_n 0, 1) := by decide +kernel
theorem dX4_letHoursPass_1 : decode cX4_letHoursPass 1 = .ok (.getfield 9, 3) := by decide +kernel
theorem dX4_letHoursPass_4 : decode cX4_letHoursPass 4 = .ok (.getfield 151, 3) := by decide +kernel
theorem dX4_letHoursPass_7 : decode cX4_letHoursPass 7 = .ok (.istore_n 2, 1) := by decide +kernel
theorem dX4_letHoursPass_8 : decode cX4_letHoursPass 8 = .ok (.iconst 0, 1) := by decide +kernel
theorem dX4_letHoursPass_9 : decode cX4_letHoursPass 9 = .ok (.istore_n 3, 1) := by decide +kernel
theorem dX4_letHoursPass_10 : decode cX4_letHoursPass 10 = .ok (.iload_n 3, 1) := by decide +kernel
theorem dX4_letHoursPass_11 : decode cX4_letHoursPass 11 = .ok (.iload_n 1, 1) := by decide +kernel
theorem dX4_letHoursPass_12 : decode cX4_letHoursPass 12 = .ok (.if_icmp .ge 13, 3) := by decide +kernel
theorem dX4_letHoursPass_15 : decode cX4_letHoursPass 15 = .ok (.aload_n 0, 1) := by decide +kernel
theorem dX4_letHoursPass_16 : decode cX4_letHoursPass 16 = .ok (.invokevirtual 154, 3) := by decide +kernel
theorem dX4_letHoursPass_19 : decode cX4_letHoursPass 19 = .ok (.iinc 3 1, 3) := by decide +kernel
theorem dX4_letHoursPass_22 : decode cX4_letHoursPass 22 = .ok (.goto (-12), 3) := by decide +kernel
theorem dX4_letHoursPass_25 : decode cX4_letHoursPass 25 = .ok (.aload_n 0, 1) := by decide +kernel
theorem dX4_letHoursPass_26 : decode cX4_letHoursPass 26 = .ok (.getfield 9, 3) := by decide +kernel
theorem dX4_letHoursPass_29 : decode cX4_letHoursPass 29 = .ok (.getfield 151, 3) := by decide +kernel
theorem dX4_letHoursPass_32 : decode cX4_letHoursPass 32 = .ok (.iload_n 2, 1) := by decide +kernel
theorem dX4_letHoursPass_33 : decode cX4_letHoursPass 33 = .ok (.isub, 1) := by decide +kernel
theorem dX4_letHoursPass_34 : decode cX4_letHoursPass 34 = .ok (.ireturn, 1) := by decide +kernel
def sX4_letHoursPass_10 : Nat → Wl → Int32 → Int32 → Int32 → Option (Int32 × Wl)
  | 0, _, _, _, _ => none
  | n + 1, w, l1, l2, l3 => (if l1 ≤ l3 then some (((w 1 4) - l2), w) else (sX4_passHour w ).bind (fun r2 => sX4_letHoursPass_10 n r2 l1 l2 (l3 + 1)))
theorem tX4_letHoursPass_10 {X : Cx} {B : Bs} {sz : Nat} {r : (Int32 × Wl)} (hx : Fx X cX4_letHoursPass 4 RX4 4 0 0) (hr : Rt X (some .int) 0 0 (WΨ (xΓ X) B (some (.int (r.1))) r.2 sz)) : ∀ (n : Nat), ∀ (w : Wl) (l1 : Int32) (l2 : Int32) (l3 : Int32) {G : Gf} (hW : Wd (xΓ X) B w G) (h : sX4_letHoursPass_10 n w l1 l2 l3 = some r), J X 4 G sz 0 0 10 [some (.ref (B.1 + 74)), some (.int l1), some (.int l2), some (.int l3)] [] := by
  intro n
  induction n with
  | zero => intro w l1 l2 l3 G hW h; rw [sX4_letHoursPass_10.eq_1] at h; cases h
  | succ n ih =>
    intro w l1 l2 l3 G hW h
    rw [sX4_letHoursPass_10.eq_2] at h
    refine J_il4 hx rfl rfl dX4_letHoursPass_10 ?_
    refine J_il4 hx rfl rfl dX4_letHoursPass_11 ?_
    refine J_icmp_ge hx 25 dX4_letHoursPass_12 rfl (fun h1 => ?_) (fun h1 => ?_)
    · replace h := pos h h1
      refine J_al4 hx rfl rfl dX4_letHoursPass_25 ?_
      refine g4_0 hx hW 1 (rfl : kd 74 = 12) fl_X4_9 rfl dX4_letHoursPass_26 ?_
      refine g6_4 hx hW (rfl : kd 1 = 2) fl_X4_151 dX4_letHoursPass_29 ?_
      refine J_il4 hx rfl rfl dX4_letHoursPass_32 ?_
      refine J_isub hx dX4_letHoursPass_33 ?_
      obtain rfl := Option.some.inj h
      exact J_iretW hx hr hW dX4_letHoursPass_34 (Nat.le_refl 0) (Nat.le_refl 0)
    · replace h := neg h h1
      refine J_al4 hx rfl rfl dX4_letHoursPass_15 ?_
      obtain ⟨r2, hr3, h⟩ := bnd h
      refine J_wrV hx (kX4_passHour  hW hr3) ml_X4_154 lk_X4_passHour (ci := 3) rfl (hW.obj (rfl : kd 74 = 12) (by decide) (by decide)) (rest := []) rfl rfl (by decide) (by decide) (Nat.le_of_ble_eq_true rfl) (Nat.le_refl 0) (Nat.le_refl 0) dX4_letHoursPass_16 fun G4 hW5 => ?_
      show J X 4 G4 sz 0 0 19 [some (.ref (B.1 + 74)), some (.int l1), some (.int l2), some (.int l3)] []
      refine J_iinc hx (v' := (l3 + 1)) rfl rfl (by decide) (hc_of rfl) rfl dX4_letHoursPass_19 ?_
      refine J_goto hx 10 dX4_letHoursPass_22 rfl ?_
      exact ih _ _ _ _  hW5 h
def sX4_letHoursPass (w : Wl) (l1 : Int32) : Option (Int32 × Wl) := sX4_letHoursPass_10 FU w l1 (w 1 4) (0 : Int32)
theorem kX4_letHoursPass {l : Launch} {Γ : Gl} {B : Bs} {w : Wl} {G : Gf} {sz : Nat} {l1 : Int32} {r : (Int32 × Wl)} (hW : Wd Γ B w G) (h : sX4_letHoursPass w l1 = some r) : CtW l Γ yX4_letHoursPass cX4_letHoursPass 4 (some .int) 4 [.ref (B.1 + 74), .int l1] G sz B (some (.int (r.1))) r.2 := by
  refine Ct.of rfl (Nat.le_of_ble_eq_true rfl) fun X hx hr hl hΓ hnm => ?_
  subst hl hΓ
  show J X 4 G sz 0 0 0 [some (.ref (B.1 + 74)), some (.int l1), none, none] []
  unfold sX4_letHoursPass at h
  refine J_al4 hx rfl rfl dX4_letHoursPass_0 ?_
  refine g4_0 hx hW 1 (rfl : kd 74 = 12) fl_X4_9 rfl dX4_letHoursPass_1 ?_
  refine g6_4 hx hW (rfl : kd 1 = 2) fl_X4_151 dX4_letHoursPass_4 ?_
  refine J_is4 hx rfl (by decide) (hc_of rfl) rfl dX4_letHoursPass_7 ?_
  refine J_iconst hx (0 : Int32) dX4_letHoursPass_8 rfl ?_
  refine J_is4 hx rfl (by decide) (hc_of rfl) rfl dX4_letHoursPass_9 ?_
  exact tX4_letHoursPass_10 hx hr _ _ _ _ _  hW h
