/-! Mirrors and walks, written by wip/whole/gen_walks.py -/
theorem dX7_dropOldest_0 : decode cX7_dropOldest 0 = .ok (.aload_n 0, 1) := by decide +kernel
theorem dX7_dropOldest_1 : decode cX7_dropOldest 1 = .ok (.getfield 11, 3) := by decide +kernel
theorem dX7_dropOldest_4 : decode cX7_dropOldest 4 = .ok (.iconst 0, 1) := by decide +kernel
theorem dX7_dropOldest_5 : decode cX7_dropOldest 5 = .ok (.aaload, 1) := by decide +kernel
theorem dX7_dropOldest_6 : decode cX7_dropOldest 6 = .ok (.astore_n 1, 1) := by decide +kernel
theorem dX7_dropOldest_7 : decode cX7_dropOldest 7 = .ok (.iconst 1, 1) := by decide +kernel
theorem dX7_dropOldest_8 : decode cX7_dropOldest 8 = .ok (.istore_n 2, 1) := by decide +kernel
theorem dX7_dropOldest_9 : decode cX7_dropOldest 9 = .ok (.iload_n 2, 1) := by decide +kernel
theorem dX7_dropOldest_10 : decode cX7_dropOldest 10 = .ok (.iconst 4, 1) := by decide +kernel
theorem dX7_dropOldest_11 : decode cX7_dropOldest 11 = .ok (.if_icmp .ge 23, 3) := by decide +kernel
theorem dX7_dropOldest_14 : decode cX7_dropOldest 14 = .ok (.aload_n 0, 1) := by decide +kernel
theorem dX7_dropOldest_15 : decode cX7_dropOldest 15 = .ok (.getfield 11, 3) := by decide +kernel
theorem dX7_dropOldest_18 : decode cX7_dropOldest 18 = .ok (.iload_n 2, 1) := by decide +kernel
theorem dX7_dropOldest_19 : decode cX7_dropOldest 19 = .ok (.iconst 1, 1) := by decide +kernel
theorem dX7_dropOldest_20 : decode cX7_dropOldest 20 = .ok (.isub, 1) := by decide +kernel
theorem dX7_dropOldest_21 : decode cX7_dropOldest 21 = .ok (.aload_n 0, 1) := by decide +kernel
theorem dX7_dropOldest_22 : decode cX7_dropOldest 22 = .ok (.getfield 11, 3) := by decide +kernel
theorem dX7_dropOldest_25 : decode cX7_dropOldest 25 = .ok (.iload_n 2, 1) := by decide +kernel
theorem dX7_dropOldest_26 : decode cX7_dropOldest 26 = .ok (.aaload, 1) := by decide +kernel
theorem dX7_dropOldest_27 : decode cX7_dropOldest 27 = .ok (.aastore, 1) := by decide +kernel
theorem dX7_dropOldest_28 : decode cX7_dropOldest 28 = .ok (.iinc 2 1, 3) := by decide +kernel
theorem dX7_dropOldest_31 : decode cX7_dropOldest 31 = .ok (.goto (-22), 3) := by decide +kernel
theorem dX7_dropOldest_34 : decode cX7_dropOldest 34 = .ok (.aload_n 0, 1) := by decide +kernel
theorem dX7_dropOldest_35 : decode cX7_dropOldest 35 = .ok (.getfield 11, 3) := by decide +kernel
theorem dX7_dropOldest_38 : decode cX7_dropOldest 38 = .ok (.iconst 3, 1) := by decide +kernel
theorem dX7_dropOldest_39 : decode cX7_dropOldest 39 = .ok (.aload_n 1, 1) := by decide +kernel
theorem dX7_dropOldest_40 : decode cX7_dropOldest 40 = .ok (.aastore, 1) := by decide +kernel
theorem dX7_dropOldest_41 : decode cX7_dropOldest 41 = .ok (.aload_n 0, 1) := by decide +kernel
theorem dX7_dropOldest_42 : decode cX7_dropOldest 42 = .ok (.dup, 1) := by decide +kernel
theorem dX7_dropOldest_43 : decode cX7_dropOldest 43 = .ok (.getfield 18, 3) := by decide +kernel
theorem dX7_dropOldest_46 : decode cX7_dropOldest 46 = .ok (.iconst 1, 1) := by decide +kernel
theorem dX7_dropOldest_47 : decode cX7_dropOldest 47 = .ok (.isub, 1) := by decide +kernel
theorem dX7_dropOldest_48 : decode cX7_dropOldest 48 = .ok (.putfield 18, 3) := by decide +kernel
theorem dX7_dropOldest_51 : decode cX7_dropOldest 51 = .ok (.return_, 1) := by decide +kernel
def sX7_dropOldest (w : Wl) : Option Wl := (idx (w 79 0) 4).bind (fun c1 => (idx (w 79 1) 4).bind (fun c4 => (idx ((wst w 79 0 (w 79 1)) 79 2) 4).bind (fun c9 => (idx ((wst (wst w 79 0 (w 79 1)) 79 1 ((wst w 79 0 (w 79 1)) 79 2)) 79 3) 4).bind (fun c14 => some (wst (wst (wst (wst (wst w 79 0 (w 79 1)) 79 1 ((wst w 79 0 (w 79 1)) 79 2)) 79 2 ((wst (wst w 79 0 (w 79 1)) 79 1 ((wst w 79 0 (w 79 1)) 79 2)) 79 3)) 79 3 (w 79 0)) 78 1 (((wst (wst (wst (wst w 79 0 (w 79 1)) 79 1 ((wst w 79 0 (w 79 1)) 79 2)) 79 2 ((wst (wst w 79 0 (w 79 1)) 79 1 ((wst w 79 0 (w 79 1)) 79 2)) 79 3)) 79 3 (w 79 0)) 78 1) - (1 : Int32)))))))
theorem kX7_dropOldest {l : Launch} {Γ : Gl} {B : Bs} {w : Wl} {G : Gf} {sz : Nat} {r : Wl} (hW : Wd Γ B w G) (h : sX7_dropOldest w  = some r) : CtW l Γ yX7_dropOldest cX7_dropOldest 3 none 0 [.ref (B.1 + 78)] G sz B none r := by
  refine Ct.of rfl (Nat.le_of_ble_eq_true rfl) fun X hx hr hl hΓ hnm => ?_
  subst hl hΓ
  show J X 3 G sz 0 0 0 [some (.ref (B.1 + 78)), none, none] []
  unfold sX7_dropOldest at h
  refine J_al4 hx rfl rfl dX7_dropOldest_0 ?_
  refine g7_0 hx hW 79 (rfl : kd 78 = 15) fl_X7_11 rfl dX7_dropOldest_1 ?_
  refine J_iconst hx (0 : Int32) dX7_dropOldest_4 rfl ?_
  obtain ⟨c1, hc2, h⟩ := bnd h
  refine J_a16 hx hW (80 + 72 * c1) (rfl : kd 79 = 16) (by decide +kernel : idx (0 : Int32) 4 = some 0) hc2 rfl dX7_dropOldest_5 fun hk3 => ?_
  refine J_as4 hx rfl (by decide) (hc_of rfl) rfl dX7_dropOldest_6 ?_
  refine J_iconst hx (1 : Int32) dX7_dropOldest_7 rfl ?_
  refine J_is4 hx rfl (by decide) (hc_of rfl) rfl dX7_dropOldest_8 ?_
  refine J_il4 hx rfl rfl dX7_dropOldest_9 ?_
  refine J_iconst hx (4 : Int32) dX7_dropOldest_10 rfl ?_
  refine J_icmp_ge hx 34 dX7_dropOldest_11 rfl (fun hc => absurd hc (by decide)) (fun _ => ?_)
  refine J_al4 hx rfl rfl dX7_dropOldest_14 ?_
  refine g7_0 hx hW 79 (rfl : kd 78 = 15) fl_X7_11 rfl dX7_dropOldest_15 ?_
  refine J_il4 hx rfl rfl dX7_dropOldest_18 ?_
  refine J_iconst hx (1 : Int32) dX7_dropOldest_19 rfl ?_
  refine J_isub hx dX7_dropOldest_20 ?_
  refine J_val (w := (0 : Int32)) (by decide) ?_
  refine J_al4 hx rfl rfl dX7_dropOldest_21 ?_
  refine g7_0 hx hW 79 (rfl : kd 78 = 15) fl_X7_11 rfl dX7_dropOldest_22 ?_
  refine J_il4 hx rfl rfl dX7_dropOldest_25 ?_
  obtain ⟨c4, hc5, h⟩ := bnd h
  refine J_a16 hx hW (80 + 72 * c4) (rfl : kd 79 = 16) (by decide +kernel : idx (1 : Int32) 4 = some 1) hc5 rfl dX7_dropOldest_26 fun hk6 => ?_
  refine J_aS16 hx hW (rfl : kd 79 = 16) (by decide +kernel : idx (0 : Int32) 4 = some 0) hc5 dX7_dropOldest_27 fun G7 hW8 => ?_
  refine J_iinc hx (v' := (2 : Int32)) rfl rfl (by decide) (hc_of rfl) rfl dX7_dropOldest_28 ?_
  refine J_goto hx 9 dX7_dropOldest_31 rfl ?_
  refine J_il4 hx rfl rfl dX7_dropOldest_9 ?_
  refine J_iconst hx (4 : Int32) dX7_dropOldest_10 rfl ?_
  refine J_icmp_ge hx 34 dX7_dropOldest_11 rfl (fun hc => absurd hc (by decide)) (fun _ => ?_)
  refine J_al4 hx rfl rfl dX7_dropOldest_14 ?_
  refine g7_0 hx hW8 79 (rfl : kd 78 = 15) fl_X7_11 rfl dX7_dropOldest_15 ?_
  refine J_il4 hx rfl rfl dX7_dropOldest_18 ?_
  refine J_iconst hx (1 : Int32) dX7_dropOldest_19 rfl ?_
  refine J_isub hx dX7_dropOldest_20 ?_
  refine J_val (w := (1 : Int32)) (by decide) ?_
  refine J_al4 hx rfl rfl dX7_dropOldest_21 ?_
  refine g7_0 hx hW8 79 (rfl : kd 78 = 15) fl_X7_11 rfl dX7_dropOldest_22 ?_
  refine J_il4 hx rfl rfl dX7_dropOldest_25 ?_
  obtain ⟨c9, hc10, h⟩ := bnd h
  refine J_a16 hx hW8 (80 + 72 * c9) (rfl : kd 79 = 16) (by decide +kernel : idx (2 : Int32) 4 = some 2) hc10 rfl dX7_dropOldest_26 fun hk11 => ?_
  refine J_aS16 hx hW8 (rfl : kd 79 = 16) (by decide +kernel : idx (1 : Int32) 4 = some 1) hc10 dX7_dropOldest_27 fun G12 hW13 => ?_
  refine J_iinc hx (v' := (3 : Int32)) rfl rfl (by decide) (hc_of rfl) rfl dX7_dropOldest_28 ?_
  refine J_goto hx 9 dX7_dropOldest_31 rfl ?_
  refine J_il4 hx rfl rfl dX7_dropOldest_9 ?_
  refine J_iconst hx (4 : Int32) dX7_dropOldest_10 rfl ?_
  refine J_icmp_ge hx 34 dX7_dropOldest_11 rfl (fun hc => absurd hc (by decide)) (fun _ => ?_)
  refine J_al4 hx rfl rfl dX7_dropOldest_14 ?_
  refine g7_0 hx hW13 79 (rfl : kd 78 = 15) fl_X7_11 rfl dX7_dropOldest_15 ?_
  refine J_il4 hx rfl rfl dX7_dropOldest_18 ?_
  refine J_iconst hx (1 : Int32) dX7_dropOldest_19 rfl ?_
  refine J_isub hx dX7_dropOldest_20 ?_
  refine J_val (w := (2 : Int32)) (by decide) ?_
  refine J_al4 hx rfl rfl dX7_dropOldest_21 ?_
  refine g7_0 hx hW13 79 (rfl : kd 78 = 15) fl_X7_11 rfl dX7_dropOldest_22 ?_
  refine J_il4 hx rfl rfl dX7_dropOldest_25 ?_
  obtain ⟨c14, hc15, h⟩ := bnd h
  refine J_a16 hx hW13 (80 + 72 * c14) (rfl : kd 79 = 16) (by decide +kernel : idx (3 : Int32) 4 = some 3) hc15 rfl dX7_dropOldest_26 fun hk16 => ?_
  refine J_aS16 hx hW13 (rfl : kd 79 = 16) (by decide +kernel : idx (2 : Int32) 4 = some 2) hc15 dX7_dropOldest_27 fun G17 hW18 => ?_
  refine J_iinc hx (v' := (4 : Int32)) rfl rfl (by decide) (hc_of rfl) rfl dX7_dropOldest_28 ?_
  refine J_goto hx 9 dX7_dropOldest_31 rfl ?_
  refine J_il4 hx rfl rfl dX7_dropOldest_9 ?_
  refine J_iconst hx (4 : Int32) dX7_dropOldest_10 rfl ?_
  refine J_icmp_ge hx 34 dX7_dropOldest_11 rfl (fun _ => ?_) (fun hc => absurd hc (by decide))
  refine J_al4 hx rfl rfl dX7_dropOldest_34 ?_
  refine g7_0 hx hW18 79 (rfl : kd 78 = 15) fl_X7_11 rfl dX7_dropOldest_35 ?_
  refine J_iconst hx (3 : Int32) dX7_dropOldest_38 rfl ?_
  refine J_al4 hx rfl rfl dX7_dropOldest_39 ?_
  refine J_aS16 hx hW18 (rfl : kd 79 = 16) (by decide +kernel : idx (3 : Int32) 4 = some 3) hc2 dX7_dropOldest_40 fun G19 hW20 => ?_
  refine J_al4 hx rfl rfl dX7_dropOldest_41 ?_
  refine J_dup hx dX7_dropOldest_42 ?_
  refine g7_1 hx hW20 (rfl : kd 78 = 15) fl_X7_18 dX7_dropOldest_43 ?_
  refine J_iconst hx (1 : Int32) dX7_dropOldest_46 rfl ?_
  refine J_isub hx dX7_dropOldest_47 ?_
  refine p7_1 hx hW20 (rfl : kd 78 = 15) fl_X7_18 dX7_dropOldest_48 fun G21 hW22 => ?_
  obtain rfl := Option.some.inj h
  exact J_vretW hx hr hW22 dX7_dropOldest_51 (Nat.le_refl 0) (Nat.le_refl 0)
theorem dX7_keep_0 : decode cX7_keep 0 = .ok (.aload_n 0, 1) := by decide +kernel
theorem dX7_keep_1 : decode cX7_keep 1 = .ok (.getfield 18, 3) := by decide +kernel
theorem dX7_keep_4 : decode cX7_keep 4 = .ok (.iconst 4, 1) := by decide +kernel
theorem dX7_keep_5 : decode cX7_keep 5 = .ok (.if_icmp .ne 7, 3) := by decide +kernel
theorem dX7_keep_8 : decode cX7_keep 8 = .ok (.aload_n 0, 1) := by decide +kernel
theorem dX7_keep_9 : decode cX7_keep 9 = .ok (.invokevirtual 22, 3) := by decide +kernel
theorem dX7_keep_12 : decode cX7_keep 12 = .ok (.aload_n 0, 1) := by decide +kernel
theorem dX7_keep_13 : decode cX7_keep 13 = .ok (.getfield 11, 3) := by decide +kernel
theorem dX7_keep_16 : decode cX7_keep 16 = .ok (.aload_n 0, 1) := by decide +kernel
theorem dX7_keep_17 : decode cX7_keep 17 = .ok (.getfield 18, 3) := by decide +kernel
theorem dX7_keep_20 : decode cX7_keep 20 = .ok (.aaload, 1) := by decide +kernel
theorem dX7_keep_21 : decode cX7_keep 21 = .ok (.aload_n 1, 1) := by decide +kernel
theorem dX7_keep_22 : decode cX7_keep 22 = .ok (.invokevirtual 25, 3) := by decide +kernel
theorem dX7_keep_25 : decode cX7_keep 25 = .ok (.aload_n 0, 1) := by decide +kernel
theorem dX7_keep_26 : decode cX7_keep 26 = .ok (.dup, 1) := by decide +kernel
theorem dX7_keep_27 : decode cX7_keep 27 = .ok (.getfield 18, 3) := by decide +kernel
theorem dX7_keep_30 : decode cX7_keep 30 = .ok (.iconst 1, 1) := by decide +kernel
theorem dX7_keep_31 : decode cX7_keep 31 = .ok (.iadd, 1) := by decide +kernel
theorem dX7_keep_32 : decode cX7_keep 32 = .ok (.putfield 18, 3) := by decide +kernel
theorem dX7_keep_35 : decode cX7_keep 35 = .ok (.return_, 1) := by decide +kernel
def sX7_keep_12 (w : Wl) (o1 : Nat) : Option Wl := (idx (w 78 1) 4).bind (fun c1 => (idx (w 79 c1) 4).bind (fun c3 => (sX6_copyFrom w (80 + 72 * c3) o1).bind (fun r6 => some (wst r6 78 1 ((r6 78 1) + (1 : Int32))))))
theorem tX7_keep_12 {X : Cx} {B : Bs} {sz : Nat} {r : Wl} (hx : Fx X cX7_keep 2 RX7 3 0 0) (hr : Rt X none 0 0 (WΨ (xΓ X) B none r sz)) : ∀ (w : Wl) (o1 : Nat) (ho1 : kd o1 = 2) {G : Gf} (hW : Wd (xΓ X) B w G) (h : sX7_keep_12  w o1 = some r), J X 2 G sz 0 0 12 [some (.ref (B.1 + 78)), some (.ref (B.1 + o1))] [] := by
  intro w o1 ho1 G hW h
  unfold sX7_keep_12 at h
  refine J_al4 hx rfl rfl dX7_keep_12 ?_
  refine g7_0 hx hW 79 (rfl : kd 78 = 15) fl_X7_11 rfl dX7_keep_13 ?_
  refine J_al4 hx rfl rfl dX7_keep_16 ?_
  refine g7_1 hx hW (rfl : kd 78 = 15) fl_X7_18 dX7_keep_17 ?_
  obtain ⟨c1, hc2, h⟩ := bnd h
  obtain ⟨c3, hc4, h⟩ := bnd h
  refine J_a16 hx hW (80 + 72 * c3) (rfl : kd 79 = 16) hc2 hc4 rfl dX7_keep_20 fun hk5 => ?_
  refine J_al4 hx rfl rfl dX7_keep_21 ?_
  obtain ⟨r6, hr7, h⟩ := bnd h
  refine J_wrV hx (kX6_copyFrom hk5 ho1 hW hr7) ml_X7_25 lk_X6_copyFrom (ci := 5) rfl (hW.obj hk5 (by decide) (by decide)) (rest := []) rfl rfl (by decide) (by decide) (Nat.le_of_ble_eq_true rfl) (Nat.le_refl 0) (Nat.le_refl 0) dX7_keep_22 fun G8 hW9 => ?_
  show J X 2 G8 sz 0 0 25 [some (.ref (B.1 + 78)), some (.ref (B.1 + o1))] []
  refine J_al4 hx rfl rfl dX7_keep_25 ?_
  refine J_dup hx dX7_keep_26 ?_
  refine g7_1 hx hW9 (rfl : kd 78 = 15) fl_X7_18 dX7_keep_27 ?_
  refine J_iconst hx (1 : Int32) dX7_keep_30 rfl ?_
  refine J_iadd hx dX7_keep_31 ?_
  refine p7_1 hx hW9 (rfl : kd 78 = 15) fl_X7_18 dX7_keep_32 fun G10 hW11 => ?_
  obtain rfl := Option.some.inj h
  exact J_vretW hx hr hW11 dX7_keep_35 (Nat.le_refl 0) (Nat.le_refl 0)
def sX7_keep (w : Wl) (o1 : Nat) : Option Wl := (if (w 78 1) = (4 : Int32) then (sX7_dropOldest w ).bind (fun r2 => sX7_keep_12 r2 o1) else sX7_keep_12 w o1)
theorem kX7_keep {l : Launch} {Γ : Gl} {B : Bs} {w : Wl} {G : Gf} {sz : Nat} {o1 : Nat} {r : Wl} (ho1 : kd o1 = 2) (hW : Wd Γ B w G) (h : sX7_keep w o1 = some r) : CtW l Γ yX7_keep cX7_keep 2 none 3 [.ref (B.1 + 78), .ref (B.1 + o1)] G sz B none r := by
  refine Ct.of rfl (Nat.le_of_ble_eq_true rfl) fun X hx hr hl hΓ hnm => ?_
  subst hl hΓ
  show J X 2 G sz 0 0 0 [some (.ref (B.1 + 78)), some (.ref (B.1 + o1))] []
  unfold sX7_keep at h
  refine J_al4 hx rfl rfl dX7_keep_0 ?_
  refine g7_1 hx hW (rfl : kd 78 = 15) fl_X7_18 dX7_keep_1 ?_
  refine J_iconst hx (4 : Int32) dX7_keep_4 rfl ?_
  refine J_icmp_ne hx 12 dX7_keep_5 rfl (fun h1 => ?_) (fun h1 => ?_)
  · replace h := neg h h1
    exact tX7_keep_12 hx hr _ _ ho1 hW h
  · replace h := pos h h1
    refine J_al4 hx rfl rfl dX7_keep_8 ?_
    obtain ⟨r2, hr3, h⟩ := bnd h
    refine J_wrV hx (kX7_dropOldest  hW hr3) ml_X7_22 lk_X7_dropOldest (ci := 6) rfl (hW.obj (rfl : kd 78 = 15) (by decide) (by decide)) (rest := []) rfl rfl (by decide) (by decide) (Nat.le_of_ble_eq_true rfl) (Nat.le_refl 0) (Nat.le_refl 0) dX7_keep_9 fun G4 hW5 => ?_
    show J X 2 G4 sz 0 0 12 [some (.ref (B.1 + 78)), some (.ref (B.1 + o1))] []
    exact tX7_keep_12 hx hr _ _ ho1 hW5 h
theorem dX7_restore_0 : decode cX7_restore 0 = .ok (.aload_n 0, 1) := by decide +kernel
theorem dX7_restore_1 : decode cX7_restore 1 = .ok (.dup, 1) := by decide +kernel
theorem dX7_restore_2 : decode cX7_restore 2 = .ok (.getfield 18, 3) := by decide +kernel
theorem dX7_restore_5 : decode cX7_restore 5 = .ok (.iconst 1, 1) := by decide +kernel
theorem dX7_restore_6 : decode cX7_restore 6 = .ok (.isub, 1) := by decide +kernel
theorem dX7_restore_7 : decode cX7_restore 7 = .ok (.putfield 18, 3) := by decide +kernel
theorem dX7_restore_10 : decode cX7_restore 10 = .ok (.aload_n 1, 1) := by decide +kernel
theorem dX7_restore_11 : decode cX7_restore 11 = .ok (.aload_n 0, 1) := by decide +kernel
theorem dX7_restore_12 : decode cX7_restore 12 = .ok (.getfield 11, 3) := by decide +kernel
theorem dX7_restore_15 : decode cX7_restore 15 = .ok (.aload_n 0, 1) := by decide +kernel
theorem dX7_restore_16 : decode cX7_restore 16 = .ok (.getfield 18, 3) := by decide +kernel
theorem dX7_restore_19 : decode cX7_restore 19 = .ok (.aaload, 1) := by decide +kernel
theorem dX7_restore_20 : decode cX7_restore 20 = .ok (.invokevirtual 25, 3) := by decide +kernel
theorem dX7_restore_23 : decode cX7_restore 23 = .ok (.aload_n 0, 1) := by decide +kernel
theorem dX7_restore_24 : decode cX7_restore 24 = .ok (.getfield 18, 3) := by decide +kernel
theorem dX7_restore_27 : decode cX7_restore 27 = .ok (.ireturn, 1) := by decide +kernel
def sX7_restore (w : Wl) (o1 : Nat) : Option (Int32 × Wl) := (idx ((wst w 78 1 ((w 78 1) - (1 : Int32))) 78 1) 4).bind (fun c3 => (idx ((wst w 78 1 ((w 78 1) - (1 : Int32))) 79 c3) 4).bind (fun c5 => (sX6_copyFrom (wst w 78 1 ((w 78 1) - (1 : Int32))) o1 (80 + 72 * c5)).bind (fun r8 => some ((r8 78 1), r8))))
theorem kX7_restore {l : Launch} {Γ : Gl} {B : Bs} {w : Wl} {G : Gf} {sz : Nat} {o1 : Nat} {r : (Int32 × Wl)} (ho1 : kd o1 = 2) (hW : Wd Γ B w G) (h : sX7_restore w o1 = some r) : CtW l Γ yX7_restore cX7_restore 2 (some .int) 3 [.ref (B.1 + 78), .ref (B.1 + o1)] G sz B (some (.int (r.1))) r.2 := by
  refine Ct.of rfl (Nat.le_of_ble_eq_true rfl) fun X hx hr hl hΓ hnm => ?_
  subst hl hΓ
  show J X 2 G sz 0 0 0 [some (.ref (B.1 + 78)), some (.ref (B.1 + o1))] []
  unfold sX7_restore at h
  refine J_al4 hx rfl rfl dX7_restore_0 ?_
  refine J_dup hx dX7_restore_1 ?_
  refine g7_1 hx hW (rfl : kd 78 = 15) fl_X7_18 dX7_restore_2 ?_
  refine J_iconst hx (1 : Int32) dX7_restore_5 rfl ?_
  refine J_isub hx dX7_restore_6 ?_
  refine p7_1 hx hW (rfl : kd 78 = 15) fl_X7_18 dX7_restore_7 fun G1 hW2 => ?_
  refine J_al4 hx rfl rfl dX7_restore_10 ?_
  refine J_al4 hx rfl rfl dX7_restore_11 ?_
  refine g7_0 hx hW2 79 (rfl : kd 78 = 15) fl_X7_11 rfl dX7_restore_12 ?_
  refine J_al4 hx rfl rfl dX7_restore_15 ?_
  refine g7_1 hx hW2 (rfl : kd 78 = 15) fl_X7_18 dX7_restore_16 ?_
  obtain ⟨c3, hc4, h⟩ := bnd h
  obtain ⟨c5, hc6, h⟩ := bnd h
  refine J_a16 hx hW2 (80 + 72 * c5) (rfl : kd 79 = 16) hc4 hc6 rfl dX7_restore_19 fun hk7 => ?_
  obtain ⟨r8, hr9, h⟩ := bnd h
  refine J_wrV hx (kX6_copyFrom ho1 hk7 hW2 hr9) ml_X7_25 lk_X6_copyFrom (ci := 5) rfl (hW2.obj ho1 (by decide) (by decide)) (rest := []) rfl rfl (by decide) (by decide) (Nat.le_of_ble_eq_true rfl) (Nat.le_refl 0) (Nat.le_refl 0) dX7_restore_20 fun G10 hW11 => ?_
  show J X 2 G10 sz 0 0 23 [some (.ref (B.1 + 78)), some (.ref (B.1 + o1))] []
  refine J_al4 hx rfl rfl dX7_restore_23 ?_
  refine g7_1 hx hW11 (rfl : kd 78 = 15) fl_X7_18 dX7_restore_24 ?_
  obtain rfl := Option.some.inj h
  exact J_iretW hx hr hW11 dX7_restore_27 (Nat.le_refl 0) (Nat.le_refl 0)
