/-! Mirrors and walks, written by wip/whole/gen_api.py -/
theorem dX12_addVenue_0 : decode cX12_addVenue 0 = .ok (.aload_n 0, 1) := by decide +kernel
theorem dX12_addVenue_1 : decode cX12_addVenue 1 = .ok (.getfield 21, 3) := by decide +kernel
theorem dX12_addVenue_4 : decode cX12_addVenue 4 = .ok (.iload_n 1, 1) := by decide +kernel
theorem dX12_addVenue_5 : decode cX12_addVenue 5 = .ok (.iload_n 2, 1) := by decide +kernel
theorem dX12_addVenue_6 : decode cX12_addVenue 6 = .ok (.iload_n 3, 1) := by decide +kernel
theorem dX12_addVenue_7 : decode cX12_addVenue 7 = .ok (.iload 4, 2) := by decide +kernel
theorem dX12_addVenue_9 : decode cX12_addVenue 9 = .ok (.invokevirtual 62, 3) := by decide +kernel
theorem dX12_addVenue_12 : decode cX12_addVenue 12 = .ok (.invokestatic 66, 3) := by decide +kernel
theorem dX12_addVenue_15 : decode cX12_addVenue 15 = .ok (.aload_n 0, 1) := by decide +kernel
theorem dX12_addVenue_16 : decode cX12_addVenue 16 = .ok (.getfield 51, 3) := by decide +kernel
theorem dX12_addVenue_19 : decode cX12_addVenue 19 = .ok (.aload_n 0, 1) := by decide +kernel
theorem dX12_addVenue_20 : decode cX12_addVenue 20 = .ok (.getfield 10, 3) := by decide +kernel
theorem dX12_addVenue_23 : decode cX12_addVenue 23 = .ok (.invokevirtual 70, 3) := by decide +kernel
theorem dX12_addVenue_26 : decode cX12_addVenue 26 = .ok (.aload_n 0, 1) := by decide +kernel
theorem dX12_addVenue_27 : decode cX12_addVenue 27 = .ok (.getfield 28, 3) := by decide +kernel
theorem dX12_addVenue_30 : decode cX12_addVenue 30 = .ok (.iload_n 1, 1) := by decide +kernel
theorem dX12_addVenue_31 : decode cX12_addVenue 31 = .ok (.iload_n 2, 1) := by decide +kernel
theorem dX12_addVenue_32 : decode cX12_addVenue 32 = .ok (.iload_n 3, 1) := by decide +kernel
theorem dX12_addVenue_33 : decode cX12_addVenue 33 = .ok (.iload 4, 2) := by decide +kernel
theorem dX12_addVenue_35 : decode cX12_addVenue 35 = .ok (.invokevirtual 73, 3) := by decide +kernel
theorem dX12_addVenue_38 : decode cX12_addVenue 38 = .ok (.ireturn, 1) := by decide +kernel
def sX12_addVenue (w : Wl) (l1 : Int32) (l2 : Int32) (l3 : Int32) (l4 : Int32) : Option (Sum Int32 (Int32 × Wl)) := (sX1_ofNewVenue w l1 l2 l3 l4).bind (fun r1 => tiw r1 ((sX7_keep w 1).bind (fun r3 => (sX4_makeVenue r3 l1 l2 l3 l4).bind (fun r7 => some (Sum.inr (r7.1, r7.2))))))
theorem kX12_addVenue {l : Launch} {Γ : Gl} {B : Bs} {w : Wl} {G : Gf} {sz : Nat} {l1 : Int32} {l2 : Int32} {l3 : Int32} {l4 : Int32} {r : (Sum Int32 (Int32 × Wl))} (htr : l.stackTraces = false) (hC : GC Γ B) (hW : Wd Γ B w G) (h : sX12_addVenue w l1 l2 l3 l4 = some r) : CtX l Γ yX12_addVenue cX12_addVenue 5 (some .int) 7 [.ref (B.1 + 0), .int l1, .int l2, .int l3, .int l4] G sz (fun v G' sz' => ∃ p, r = Sum.inr p ∧ WΨ Γ B (some (.int p.1)) p.2 sz v G' sz') (exq r) 1 6 := by
  refine CtX.of htr rfl (Nat.le_of_ble_eq_true rfl) fun X hx hr he hl hΓ hnm => ?_
  subst hl hΓ
  show J X 5 G sz 0 0 0 [some (.ref (B.1 + 0)), some (.int l1), some (.int l2), some (.int l3), some (.int l4)] []
  unfold sX12_addVenue at h
  refine J_al4 hx rfl rfl dX12_addVenue_0 ?_
  refine g12_1 hx hW 73 (rfl : kd 0 = 1) fl_X12_21 rfl dX12_addVenue_1 ?_
  refine J_il4 hx rfl rfl dX12_addVenue_4 ?_
  refine J_il4 hx rfl rfl dX12_addVenue_5 ?_
  refine J_il4 hx rfl rfl dX12_addVenue_6 ?_
  refine J_il hx rfl dX12_addVenue_7 ?_
  obtain ⟨r1, hr2, h⟩ := bnd h
  refine J_rdV hx (kX1_ofNewVenue  hW hr2) ml_X12_62 lk_X1_ofNewVenue (ci := 0) rfl (hW.obj (rfl : kd 73 = 11) (by decide) (by decide)) (rest := []) rfl rfl (by decide) (by decide) (Nat.le_of_ble_eq_true rfl) (by decide) (by decide) dX12_addVenue_9 ?_
  refine J_callXS hx he (kX12_throwIfWrong htr hC) ml_X12_66 lk_X12_throwIfWrong (rest := []) rfl rfl (by decide) (by decide) (Nat.le_of_ble_eq_true rfl) (by decide) (by decide) dX12_addVenue_12 (tiw_x h) fun r1 G1 sz1 hh => ?_
  obtain ⟨hti, rfl, rfl, rfl⟩ := hh
  show J X 5 _ _ 1 6 15 [some (.ref (B.1 + 0)), some (.int l1), some (.int l2), some (.int l3), some (.int l4)] []
  replace h := tiw_n h hti
  refine J_al4 hx rfl rfl dX12_addVenue_15 ?_
  refine g12_5 hx hW 78 (rfl : kd 0 = 1) fl_X12_51 rfl dX12_addVenue_16 ?_
  refine J_al4 hx rfl rfl dX12_addVenue_19 ?_
  refine g12_0 hx hW 1 (rfl : kd 0 = 1) fl_X12_10 rfl dX12_addVenue_20 ?_
  obtain ⟨r3, hr4, h⟩ := bnd h
  refine J_wrV hx (kX7_keep (rfl : kd 1 = 2) hW hr4) ml_X12_70 lk_X7_keep (ci := 6) rfl (hW.obj (rfl : kd 78 = 15) (by decide) (by decide)) (rest := []) rfl rfl (by decide) (by decide) (Nat.le_of_ble_eq_true rfl) (by decide) (by decide) dX12_addVenue_23 fun G5 hW6 => ?_
  show J X 5 G5 _ 1 6 26 [some (.ref (B.1 + 0)), some (.int l1), some (.int l2), some (.int l3), some (.int l4)] []
  refine J_al4 hx rfl rfl dX12_addVenue_26 ?_
  refine g12_2 hx hW6 74 (rfl : kd 0 = 1) fl_X12_28 rfl dX12_addVenue_27 ?_
  refine J_il4 hx rfl rfl dX12_addVenue_30 ?_
  refine J_il4 hx rfl rfl dX12_addVenue_31 ?_
  refine J_il4 hx rfl rfl dX12_addVenue_32 ?_
  refine J_il hx rfl dX12_addVenue_33 ?_
  obtain ⟨r7, hr8, h⟩ := bnd h
  refine J_wrV hx (kX4_makeVenue  hW6 hr8) ml_X12_73 lk_X4_makeVenue (ci := 3) rfl (hW6.obj (rfl : kd 74 = 12) (by decide) (by decide)) (rest := []) rfl rfl (by decide) (by decide) (Nat.le_of_ble_eq_true rfl) (by decide) (by decide) dX12_addVenue_35 fun G9 hW10 => ?_
  show J X 5 G9 _ 1 6 38 [some (.ref (B.1 + 0)), some (.int l1), some (.int l2), some (.int l3), some (.int l4)] [.int r7.1]
  exact J_iret hx hr dX12_addVenue_38 (by decide) (by decide) ⟨_, (Option.some.inj h).symm, rfl, hW10, rfl⟩
theorem dX12_setClimate_0 : decode cX12_setClimate 0 = .ok (.aload_n 0, 1) := by decide +kernel
theorem dX12_setClimate_1 : decode cX12_setClimate 1 = .ok (.getfield 21, 3) := by decide +kernel
theorem dX12_setClimate_4 : decode cX12_setClimate 4 = .ok (.iload_n 1, 1) := by decide +kernel
theorem dX12_setClimate_5 : decode cX12_setClimate 5 = .ok (.iload_n 2, 1) := by decide +kernel
theorem dX12_setClimate_6 : decode cX12_setClimate 6 = .ok (.iload_n 3, 1) := by decide +kernel
theorem dX12_setClimate_7 : decode cX12_setClimate 7 = .ok (.invokevirtual 76, 3) := by decide +kernel
theorem dX12_setClimate_10 : decode cX12_setClimate 10 = .ok (.invokestatic 66, 3) := by decide +kernel
theorem dX12_setClimate_13 : decode cX12_setClimate 13 = .ok (.aload_n 0, 1) := by decide +kernel
theorem dX12_setClimate_14 : decode cX12_setClimate 14 = .ok (.getfield 51, 3) := by decide +kernel
theorem dX12_setClimate_17 : decode cX12_setClimate 17 = .ok (.aload_n 0, 1) := by decide +kernel
theorem dX12_setClimate_18 : decode cX12_setClimate 18 = .ok (.getfield 10, 3) := by decide +kernel
theorem dX12_setClimate_21 : decode cX12_setClimate 21 = .ok (.invokevirtual 70, 3) := by decide +kernel
theorem dX12_setClimate_24 : decode cX12_setClimate 24 = .ok (.aload_n 0, 1) := by decide +kernel
theorem dX12_setClimate_25 : decode cX12_setClimate 25 = .ok (.getfield 28, 3) := by decide +kernel
theorem dX12_setClimate_28 : decode cX12_setClimate 28 = .ok (.iload_n 1, 1) := by decide +kernel
theorem dX12_setClimate_29 : decode cX12_setClimate 29 = .ok (.iload_n 2, 1) := by decide +kernel
theorem dX12_setClimate_30 : decode cX12_setClimate 30 = .ok (.iload_n 3, 1) := by decide +kernel
theorem dX12_setClimate_31 : decode cX12_setClimate 31 = .ok (.invokevirtual 80, 3) := by decide +kernel
theorem dX12_setClimate_34 : decode cX12_setClimate 34 = .ok (.ireturn, 1) := by decide +kernel
def sX12_setClimate (w : Wl) (l1 : Int32) (l2 : Int32) (l3 : Int32) : Option (Sum Int32 (Int32 × Wl)) := (sX1_ofClimate w l1 l2 l3).bind (fun r1 => tiw r1 ((sX7_keep w 1).bind (fun r3 => (sX4_changeClimate r3 l1 l2 l3).bind (fun r7 => some (Sum.inr (r7.1, r7.2))))))
theorem kX12_setClimate {l : Launch} {Γ : Gl} {B : Bs} {w : Wl} {G : Gf} {sz : Nat} {l1 : Int32} {l2 : Int32} {l3 : Int32} {r : (Sum Int32 (Int32 × Wl))} (htr : l.stackTraces = false) (hC : GC Γ B) (hW : Wd Γ B w G) (h : sX12_setClimate w l1 l2 l3 = some r) : CtX l Γ yX12_setClimate cX12_setClimate 4 (some .int) 7 [.ref (B.1 + 0), .int l1, .int l2, .int l3] G sz (fun v G' sz' => ∃ p, r = Sum.inr p ∧ WΨ Γ B (some (.int p.1)) p.2 sz v G' sz') (exq r) 1 6 := by
  refine CtX.of htr rfl (Nat.le_of_ble_eq_true rfl) fun X hx hr he hl hΓ hnm => ?_
  subst hl hΓ
  show J X 4 G sz 0 0 0 [some (.ref (B.1 + 0)), some (.int l1), some (.int l2), some (.int l3)] []
  unfold sX12_setClimate at h
  refine J_al4 hx rfl rfl dX12_setClimate_0 ?_
  refine g12_1 hx hW 73 (rfl : kd 0 = 1) fl_X12_21 rfl dX12_setClimate_1 ?_
  refine J_il4 hx rfl rfl dX12_setClimate_4 ?_
  refine J_il4 hx rfl rfl dX12_setClimate_5 ?_
  refine J_il4 hx rfl rfl dX12_setClimate_6 ?_
  obtain ⟨r1, hr2, h⟩ := bnd h
  refine J_rdV hx (kX1_ofClimate  hW hr2) ml_X12_76 lk_X1_ofClimate (ci := 0) rfl (hW.obj (rfl : kd 73 = 11) (by decide) (by decide)) (rest := []) rfl rfl (by decide) (by decide) (Nat.le_of_ble_eq_true rfl) (by decide) (by decide) dX12_setClimate_7 ?_
  refine J_callXS hx he (kX12_throwIfWrong htr hC) ml_X12_66 lk_X12_throwIfWrong (rest := []) rfl rfl (by decide) (by decide) (Nat.le_of_ble_eq_true rfl) (by decide) (by decide) dX12_setClimate_10 (tiw_x h) fun r1 G1 sz1 hh => ?_
  obtain ⟨hti, rfl, rfl, rfl⟩ := hh
  show J X 4 _ _ 1 6 13 [some (.ref (B.1 + 0)), some (.int l1), some (.int l2), some (.int l3)] []
  replace h := tiw_n h hti
  refine J_al4 hx rfl rfl dX12_setClimate_13 ?_
  refine g12_5 hx hW 78 (rfl : kd 0 = 1) fl_X12_51 rfl dX12_setClimate_14 ?_
  refine J_al4 hx rfl rfl dX12_setClimate_17 ?_
  refine g12_0 hx hW 1 (rfl : kd 0 = 1) fl_X12_10 rfl dX12_setClimate_18 ?_
  obtain ⟨r3, hr4, h⟩ := bnd h
  refine J_wrV hx (kX7_keep (rfl : kd 1 = 2) hW hr4) ml_X12_70 lk_X7_keep (ci := 6) rfl (hW.obj (rfl : kd 78 = 15) (by decide) (by decide)) (rest := []) rfl rfl (by decide) (by decide) (Nat.le_of_ble_eq_true rfl) (by decide) (by decide) dX12_setClimate_21 fun G5 hW6 => ?_
  show J X 4 G5 _ 1 6 24 [some (.ref (B.1 + 0)), some (.int l1), some (.int l2), some (.int l3)] []
  refine J_al4 hx rfl rfl dX12_setClimate_24 ?_
  refine g12_2 hx hW6 74 (rfl : kd 0 = 1) fl_X12_28 rfl dX12_setClimate_25 ?_
  refine J_il4 hx rfl rfl dX12_setClimate_28 ?_
  refine J_il4 hx rfl rfl dX12_setClimate_29 ?_
  refine J_il4 hx rfl rfl dX12_setClimate_30 ?_
  obtain ⟨r7, hr8, h⟩ := bnd h
  refine J_wrV hx (kX4_changeClimate  hW6 hr8) ml_X12_80 lk_X4_changeClimate (ci := 3) rfl (hW6.obj (rfl : kd 74 = 12) (by decide) (by decide)) (rest := []) rfl rfl (by decide) (by decide) (Nat.le_of_ble_eq_true rfl) (by decide) (by decide) dX12_setClimate_31 fun G9 hW10 => ?_
  show J X 4 G9 _ 1 6 34 [some (.ref (B.1 + 0)), some (.int l1), some (.int l2), some (.int l3)] [.int r7.1]
  exact J_iret hx hr dX12_setClimate_34 (by decide) (by decide) ⟨_, (Option.some.inj h).symm, rfl, hW10, rfl⟩
theorem dX12_setWay_0 : decode cX12_setWay 0 = .ok (.aload_n 0, 1) := by decide +kernel
theorem dX12_setWay_1 : decode cX12_setWay 1 = .ok (.getfield 21, 3) := by decide +kernel
theorem dX12_setWay_4 : decode cX12_setWay 4 = .ok (.iload_n 1, 1) := by decide +kernel
theorem dX12_setWay_5 : decode cX12_setWay 5 = .ok (.iload_n 2, 1) := by decide +kernel
theorem dX12_setWay_6 : decode cX12_setWay 6 = .ok (.iload_n 3, 1) := by decide +kernel
theorem dX12_setWay_7 : decode cX12_setWay 7 = .ok (.invokevirtual 83, 3) := by decide +kernel
theorem dX12_setWay_10 : decode cX12_setWay 10 = .ok (.invokestatic 66, 3) := by decide +kernel
theorem dX12_setWay_13 : decode cX12_setWay 13 = .ok (.aload_n 0, 1) := by decide +kernel
theorem dX12_setWay_14 : decode cX12_setWay 14 = .ok (.getfield 51, 3) := by decide +kernel
theorem dX12_setWay_17 : decode cX12_setWay 17 = .ok (.aload_n 0, 1) := by decide +kernel
theorem dX12_setWay_18 : decode cX12_setWay 18 = .ok (.getfield 10, 3) := by decide +kernel
theorem dX12_setWay_21 : decode cX12_setWay 21 = .ok (.invokevirtual 70, 3) := by decide +kernel
theorem dX12_setWay_24 : decode cX12_setWay 24 = .ok (.aload_n 0, 1) := by decide +kernel
theorem dX12_setWay_25 : decode cX12_setWay 25 = .ok (.getfield 28, 3) := by decide +kernel
theorem dX12_setWay_28 : decode cX12_setWay 28 = .ok (.iload_n 1, 1) := by decide +kernel
theorem dX12_setWay_29 : decode cX12_setWay 29 = .ok (.iload_n 2, 1) := by decide +kernel
theorem dX12_setWay_30 : decode cX12_setWay 30 = .ok (.iload_n 3, 1) := by decide +kernel
theorem dX12_setWay_31 : decode cX12_setWay 31 = .ok (.invokevirtual 86, 3) := by decide +kernel
theorem dX12_setWay_34 : decode cX12_setWay 34 = .ok (.ireturn, 1) := by decide +kernel
def sX12_setWay (w : Wl) (l1 : Int32) (l2 : Int32) (l3 : Int32) : Option (Sum Int32 (Int32 × Wl)) := (sX1_ofWay w l1 l2 l3).bind (fun r1 => tiw r1 ((sX7_keep w 1).bind (fun r3 => (sX4_changeWay r3 l1 l2 l3).bind (fun r7 => some (Sum.inr (r7.1, r7.2))))))
theorem kX12_setWay {l : Launch} {Γ : Gl} {B : Bs} {w : Wl} {G : Gf} {sz : Nat} {l1 : Int32} {l2 : Int32} {l3 : Int32} {r : (Sum Int32 (Int32 × Wl))} (htr : l.stackTraces = false) (hC : GC Γ B) (hW : Wd Γ B w G) (h : sX12_setWay w l1 l2 l3 = some r) : CtX l Γ yX12_setWay cX12_setWay 4 (some .int) 7 [.ref (B.1 + 0), .int l1, .int l2, .int l3] G sz (fun v G' sz' => ∃ p, r = Sum.inr p ∧ WΨ Γ B (some (.int p.1)) p.2 sz v G' sz') (exq r) 1 6 := by
  refine CtX.of htr rfl (Nat.le_of_ble_eq_true rfl) fun X hx hr he hl hΓ hnm => ?_
  subst hl hΓ
  show J X 4 G sz 0 0 0 [some (.ref (B.1 + 0)), some (.int l1), some (.int l2), some (.int l3)] []
  unfold sX12_setWay at h
  refine J_al4 hx rfl rfl dX12_setWay_0 ?_
  refine g12_1 hx hW 73 (rfl : kd 0 = 1) fl_X12_21 rfl dX12_setWay_1 ?_
  refine J_il4 hx rfl rfl dX12_setWay_4 ?_
  refine J_il4 hx rfl rfl dX12_setWay_5 ?_
  refine J_il4 hx rfl rfl dX12_setWay_6 ?_
  obtain ⟨r1, hr2, h⟩ := bnd h
  refine J_rdV hx (kX1_ofWay  hW hr2) ml_X12_83 lk_X1_ofWay (ci := 0) rfl (hW.obj (rfl : kd 73 = 11) (by decide) (by decide)) (rest := []) rfl rfl (by decide) (by decide) (Nat.le_of_ble_eq_true rfl) (by decide) (by decide) dX12_setWay_7 ?_
  refine J_callXS hx he (kX12_throwIfWrong htr hC) ml_X12_66 lk_X12_throwIfWrong (rest := []) rfl rfl (by decide) (by decide) (Nat.le_of_ble_eq_true rfl) (by decide) (by decide) dX12_setWay_10 (tiw_x h) fun r1 G1 sz1 hh => ?_
  obtain ⟨hti, rfl, rfl, rfl⟩ := hh
  show J X 4 _ _ 1 6 13 [some (.ref (B.1 + 0)), some (.int l1), some (.int l2), some (.int l3)] []
  replace h := tiw_n h hti
  refine J_al4 hx rfl rfl dX12_setWay_13 ?_
  refine g12_5 hx hW 78 (rfl : kd 0 = 1) fl_X12_51 rfl dX12_setWay_14 ?_
  refine J_al4 hx rfl rfl dX12_setWay_17 ?_
  refine g12_0 hx hW 1 (rfl : kd 0 = 1) fl_X12_10 rfl dX12_setWay_18 ?_
  obtain ⟨r3, hr4, h⟩ := bnd h
  refine J_wrV hx (kX7_keep (rfl : kd 1 = 2) hW hr4) ml_X12_70 lk_X7_keep (ci := 6) rfl (hW.obj (rfl : kd 78 = 15) (by decide) (by decide)) (rest := []) rfl rfl (by decide) (by decide) (Nat.le_of_ble_eq_true rfl) (by decide) (by decide) dX12_setWay_21 fun G5 hW6 => ?_
  show J X 4 G5 _ 1 6 24 [some (.ref (B.1 + 0)), some (.int l1), some (.int l2), some (.int l3)] []
  refine J_al4 hx rfl rfl dX12_setWay_24 ?_
  refine g12_2 hx hW6 74 (rfl : kd 0 = 1) fl_X12_28 rfl dX12_setWay_25 ?_
  refine J_il4 hx rfl rfl dX12_setWay_28 ?_
  refine J_il4 hx rfl rfl dX12_setWay_29 ?_
  refine J_il4 hx rfl rfl dX12_setWay_30 ?_
  obtain ⟨r7, hr8, h⟩ := bnd h
  refine J_wrV hx (kX4_changeWay  hW6 hr8) ml_X12_86 lk_X4_changeWay (ci := 3) rfl (hW6.obj (rfl : kd 74 = 12) (by decide) (by decide)) (rest := []) rfl rfl (by decide) (by decide) (Nat.le_of_ble_eq_true rfl) (by decide) (by decide) dX12_setWay_31 fun G9 hW10 => ?_
  show J X 4 G9 _ 1 6 34 [some (.ref (B.1 + 0)), some (.int l1), some (.int l2), some (.int l3)] [.int r7.1]
  exact J_iret hx hr dX12_setWay_34 (by decide) (by decide) ⟨_, (Option.some.inj h).symm, rfl, hW10, rfl⟩
theorem dX12_setLender_0 : decode cX12_setLender 0 = .ok (.aload_n 0, 1) := by decide +kernel
theorem dX12_setLender_1 : decode cX12_setLender 1 = .ok (.getfield 21, 3) := by decide +kernel
theorem dX12_setLender_4 : decode cX12_setLender 4 = .ok (.iload_n 1, 1) := by decide +kernel
theorem dX12_setLender_5 : decode cX12_setLender 5 = .ok (.iload_n 2, 1) := by decide +kernel
theorem dX12_setLender_6 : decode cX12_setLender 6 = .ok (.iload_n 3, 1) := by decide +kernel
theorem dX12_setLender_7 : decode cX12_setLender 7 = .ok (.invokevirtual 89, 3) := by decide +kernel
theorem dX12_setLender_10 : decode cX12_setLender 10 = .ok (.invokestatic 66, 3) := by decide +kernel
theorem dX12_setLender_13 : decode cX12_setLender 13 = .ok (.aload_n 0, 1) := by decide +kernel
theorem dX12_setLender_14 : decode cX12_setLender 14 = .ok (.getfield 51, 3) := by decide +kernel
theorem dX12_setLender_17 : decode cX12_setLender 17 = .ok (.aload_n 0, 1) := by decide +kernel
theorem dX12_setLender_18 : decode cX12_setLender 18 = .ok (.getfield 10, 3) := by decide +kernel
theorem dX12_setLender_21 : decode cX12_setLender 21 = .ok (.invokevirtual 70, 3) := by decide +kernel
theorem dX12_setLender_24 : decode cX12_setLender 24 = .ok (.aload_n 0, 1) := by decide +kernel
theorem dX12_setLender_25 : decode cX12_setLender 25 = .ok (.getfield 28, 3) := by decide +kernel
theorem dX12_setLender_28 : decode cX12_setLender 28 = .ok (.iload_n 1, 1) := by decide +kernel
theorem dX12_setLender_29 : decode cX12_setLender 29 = .ok (.iload_n 2, 1) := by decide +kernel
theorem dX12_setLender_30 : decode cX12_setLender 30 = .ok (.iload_n 3, 1) := by decide +kernel
theorem dX12_setLender_31 : decode cX12_setLender 31 = .ok (.invokevirtual 92, 3) := by decide +kernel
theorem dX12_setLender_34 : decode cX12_setLender 34 = .ok (.ireturn, 1) := by decide +kernel
def sX12_setLender (w : Wl) (l1 : Int32) (l2 : Int32) (l3 : Int32) : Option (Sum Int32 (Int32 × Wl)) := (sX1_ofLenderValue w l1 l2 l3).bind (fun r1 => tiw r1 ((sX7_keep w 1).bind (fun r3 => (sX4_changeLender r3 l1 l2 l3).bind (fun r7 => some (Sum.inr (r7.1, r7.2))))))
theorem kX12_setLender {l : Launch} {Γ : Gl} {B : Bs} {w : Wl} {G : Gf} {sz : Nat} {l1 : Int32} {l2 : Int32} {l3 : Int32} {r : (Sum Int32 (Int32 × Wl))} (htr : l.stackTraces = false) (hC : GC Γ B) (hW : Wd Γ B w G) (h : sX12_setLender w l1 l2 l3 = some r) : CtX l Γ yX12_setLender cX12_setLender 4 (some .int) 7 [.ref (B.1 + 0), .int l1, .int l2, .int l3] G sz (fun v G' sz' => ∃ p, r = Sum.inr p ∧ WΨ Γ B (some (.int p.1)) p.2 sz v G' sz') (exq r) 1 6 := by
  refine CtX.of htr rfl (Nat.le_of_ble_eq_true rfl) fun X hx hr he hl hΓ hnm => ?_
  subst hl hΓ
  show J X 4 G sz 0 0 0 [some (.ref (B.1 + 0)), some (.int l1), some (.int l2), some (.int l3)] []
  unfold sX12_setLender at h
  refine J_al4 hx rfl rfl dX12_setLender_0 ?_
  refine g12_1 hx hW 73 (rfl : kd 0 = 1) fl_X12_21 rfl dX12_setLender_1 ?_
  refine J_il4 hx rfl rfl dX12_setLender_4 ?_
  refine J_il4 hx rfl rfl dX12_setLender_5 ?_
  refine J_il4 hx rfl rfl dX12_setLender_6 ?_
  obtain ⟨r1, hr2, h⟩ := bnd h
  refine J_rdV hx (kX1_ofLenderValue  hW hr2) ml_X12_89 lk_X1_ofLenderValue (ci := 0) rfl (hW.obj (rfl : kd 73 = 11) (by decide) (by decide)) (rest := []) rfl rfl (by decide) (by decide) (Nat.le_of_ble_eq_true rfl) (by decide) (by decide) dX12_setLender_7 ?_
  refine J_callXS hx he (kX12_throwIfWrong htr hC) ml_X12_66 lk_X12_throwIfWrong (rest := []) rfl rfl (by decide) (by decide) (Nat.le_of_ble_eq_true rfl) (by decide) (by decide) dX12_setLender_10 (tiw_x h) fun r1 G1 sz1 hh => ?_
  obtain ⟨hti, rfl, rfl, rfl⟩ := hh
  show J X 4 _ _ 1 6 13 [some (.ref (B.1 + 0)), some (.int l1), some (.int l2), some (.int l3)] []
  replace h := tiw_n h hti
  refine J_al4 hx rfl rfl dX12_setLender_13 ?_
  refine g12_5 hx hW 78 (rfl : kd 0 = 1) fl_X12_51 rfl dX12_setLender_14 ?_
  refine J_al4 hx rfl rfl dX12_setLender_17 ?_
  refine g12_0 hx hW 1 (rfl : kd 0 = 1) fl_X12_10 rfl dX12_setLender_18 ?_
  obtain ⟨r3, hr4, h⟩ := bnd h
  refine J_wrV hx (kX7_keep (rfl : kd 1 = 2) hW hr4) ml_X12_70 lk_X7_keep (ci := 6) rfl (hW.obj (rfl : kd 78 = 15) (by decide) (by decide)) (rest := []) rfl rfl (by decide) (by decide) (Nat.le_of_ble_eq_true rfl) (by decide) (by decide) dX12_setLender_21 fun G5 hW6 => ?_
  show J X 4 G5 _ 1 6 24 [some (.ref (B.1 + 0)), some (.int l1), some (.int l2), some (.int l3)] []
  refine J_al4 hx rfl rfl dX12_setLender_24 ?_
  refine g12_2 hx hW6 74 (rfl : kd 0 = 1) fl_X12_28 rfl dX12_setLender_25 ?_
  refine J_il4 hx rfl rfl dX12_setLender_28 ?_
  refine J_il4 hx rfl rfl dX12_setLender_29 ?_
  refine J_il4 hx rfl rfl dX12_setLender_30 ?_
  obtain ⟨r7, hr8, h⟩ := bnd h
  refine J_wrV hx (kX4_changeLender  hW6 hr8) ml_X12_92 lk_X4_changeLender (ci := 3) rfl (hW6.obj (rfl : kd 74 = 12) (by decide) (by decide)) (rest := []) rfl rfl (by decide) (by decide) (Nat.le_of_ble_eq_true rfl) (by decide) (by decide) dX12_setLender_31 fun G9 hW10 => ?_
  show J X 4 G9 _ 1 6 34 [some (.ref (B.1 + 0)), some (.int l1), some (.int l2), some (.int l3)] [.int r7.1]
  exact J_iret hx hr dX12_setLender_34 (by decide) (by decide) ⟨_, (Option.some.inj h).symm, rfl, hW10, rfl⟩
theorem dX12_setWayRate_0 : decode cX12_setWayRate 0 = .ok (.aload_n 0, 1) := by decide +kernel
theorem dX12_setWayRate_1 : decode cX12_setWayRate 1 = .ok (.getfield 21, 3) := by decide +kernel
theorem dX12_setWayRate_4 : decode cX12_setWayRate 4 = .ok (.iload_n 1, 1) := by decide +kernel
theorem dX12_setWayRate_5 : decode cX12_setWayRate 5 = .ok (.invokevirtual 95, 3) := by decide +kernel
theorem dX12_setWayRate_8 : decode cX12_setWayRate 8 = .ok (.invokestatic 66, 3) := by decide +kernel
theorem dX12_setWayRate_11 : decode cX12_setWayRate 11 = .ok (.aload_n 0, 1) := by decide +kernel
theorem dX12_setWayRate_12 : decode cX12_setWayRate 12 = .ok (.getfield 51, 3) := by decide +kernel
theorem dX12_setWayRate_15 : decode cX12_setWayRate 15 = .ok (.aload_n 0, 1) := by decide +kernel
theorem dX12_setWayRate_16 : decode cX12_setWayRate 16 = .ok (.getfield 10, 3) := by decide +kernel
theorem dX12_setWayRate_19 : decode cX12_setWayRate 19 = .ok (.invokevirtual 70, 3) := by decide +kernel
theorem dX12_setWayRate_22 : decode cX12_setWayRate 22 = .ok (.aload_n 0, 1) := by decide +kernel
theorem dX12_setWayRate_23 : decode cX12_setWayRate 23 = .ok (.getfield 28, 3) := by decide +kernel
theorem dX12_setWayRate_26 : decode cX12_setWayRate 26 = .ok (.iload_n 1, 1) := by decide +kernel
theorem dX12_setWayRate_27 : decode cX12_setWayRate 27 = .ok (.invokevirtual 99, 3) := by decide +kernel
theorem dX12_setWayRate_30 : decode cX12_setWayRate 30 = .ok (.ireturn, 1) := by decide +kernel
def sX12_setWayRate (w : Wl) (l1 : Int32) : Option (Sum Int32 (Int32 × Wl)) := (sX1_ofWayRate w l1).bind (fun r1 => tiw r1 ((sX7_keep w 1).bind (fun r3 => (sX4_changeWayRate r3 l1).bind (fun r7 => some (Sum.inr (r7.1, r7.2))))))
theorem kX12_setWayRate {l : Launch} {Γ : Gl} {B : Bs} {w : Wl} {G : Gf} {sz : Nat} {l1 : Int32} {r : (Sum Int32 (Int32 × Wl))} (htr : l.stackTraces = false) (hC : GC Γ B) (hW : Wd Γ B w G) (h : sX12_setWayRate w l1 = some r) : CtX l Γ yX12_setWayRate cX12_setWayRate 2 (some .int) 7 [.ref (B.1 + 0), .int l1] G sz (fun v G' sz' => ∃ p, r = Sum.inr p ∧ WΨ Γ B (some (.int p.1)) p.2 sz v G' sz') (exq r) 1 6 := by
  refine CtX.of htr rfl (Nat.le_of_ble_eq_true rfl) fun X hx hr he hl hΓ hnm => ?_
  subst hl hΓ
  show J X 2 G sz 0 0 0 [some (.ref (B.1 + 0)), some (.int l1)] []
  unfold sX12_setWayRate at h
  refine J_al4 hx rfl rfl dX12_setWayRate_0 ?_
  refine g12_1 hx hW 73 (rfl : kd 0 = 1) fl_X12_21 rfl dX12_setWayRate_1 ?_
  refine J_il4 hx rfl rfl dX12_setWayRate_4 ?_
  obtain ⟨r1, hr2, h⟩ := bnd h
  refine J_rdV hx (kX1_ofWayRate  hW hr2) ml_X12_95 lk_X1_ofWayRate (ci := 0) rfl (hW.obj (rfl : kd 73 = 11) (by decide) (by decide)) (rest := []) rfl rfl (by decide) (by decide) (Nat.le_of_ble_eq_true rfl) (by decide) (by decide) dX12_setWayRate_5 ?_
  refine J_callXS hx he (kX12_throwIfWrong htr hC) ml_X12_66 lk_X12_throwIfWrong (rest := []) rfl rfl (by decide) (by decide) (Nat.le_of_ble_eq_true rfl) (by decide) (by decide) dX12_setWayRate_8 (tiw_x h) fun r1 G1 sz1 hh => ?_
  obtain ⟨hti, rfl, rfl, rfl⟩ := hh
  show J X 2 _ _ 1 6 11 [some (.ref (B.1 + 0)), some (.int l1)] []
  replace h := tiw_n h hti
  refine J_al4 hx rfl rfl dX12_setWayRate_11 ?_
  refine g12_5 hx hW 78 (rfl : kd 0 = 1) fl_X12_51 rfl dX12_setWayRate_12 ?_
  refine J_al4 hx rfl rfl dX12_setWayRate_15 ?_
  refine g12_0 hx hW 1 (rfl : kd 0 = 1) fl_X12_10 rfl dX12_setWayRate_16 ?_
  obtain ⟨r3, hr4, h⟩ := bnd h
  refine J_wrV hx (kX7_keep (rfl : kd 1 = 2) hW hr4) ml_X12_70 lk_X7_keep (ci := 6) rfl (hW.obj (rfl : kd 78 = 15) (by decide) (by decide)) (rest := []) rfl rfl (by decide) (by decide) (Nat.le_of_ble_eq_true rfl) (by decide) (by decide) dX12_setWayRate_19 fun G5 hW6 => ?_
  show J X 2 G5 _ 1 6 22 [some (.ref (B.1 + 0)), some (.int l1)] []
  refine J_al4 hx rfl rfl dX12_setWayRate_22 ?_
  refine g12_2 hx hW6 74 (rfl : kd 0 = 1) fl_X12_28 rfl dX12_setWayRate_23 ?_
  refine J_il4 hx rfl rfl dX12_setWayRate_26 ?_
  obtain ⟨r7, hr8, h⟩ := bnd h
  refine J_wrV hx (kX4_changeWayRate  hW6 hr8) ml_X12_99 lk_X4_changeWayRate (ci := 3) rfl (hW6.obj (rfl : kd 74 = 12) (by decide) (by decide)) (rest := []) rfl rfl (by decide) (by decide) (Nat.le_of_ble_eq_true rfl) (by decide) (by decide) dX12_setWayRate_27 fun G9 hW10 => ?_
  show J X 2 G9 _ 1 6 30 [some (.ref (B.1 + 0)), some (.int l1)] [.int r7.1]
  exact J_iret hx hr dX12_setWayRate_30 (by decide) (by decide) ⟨_, (Option.some.inj h).symm, rfl, hW10, rfl⟩
theorem dX12_addCourier_0 : decode cX12_addCourier 0 = .ok (.aload_n 0, 1) := by decide +kernel
theorem dX12_addCourier_1 : decode cX12_addCourier 1 = .ok (.getfield 21, 3) := by decide +kernel
theorem dX12_addCourier_4 : decode cX12_addCourier 4 = .ok (.iload_n 1, 1) := by decide +kernel
theorem dX12_addCourier_5 : decode cX12_addCourier 5 = .ok (.invokevirtual 102, 3) := by decide +kernel
theorem dX12_addCourier_8 : decode cX12_addCourier 8 = .ok (.invokestatic 66, 3) := by decide +kernel
theorem dX12_addCourier_11 : decode cX12_addCourier 11 = .ok (.aload_n 0, 1) := by decide +kernel
theorem dX12_addCourier_12 : decode cX12_addCourier 12 = .ok (.getfield 51, 3) := by decide +kernel
theorem dX12_addCourier_15 : decode cX12_addCourier 15 = .ok (.aload_n 0, 1) := by decide +kernel
theorem dX12_addCourier_16 : decode cX12_addCourier 16 = .ok (.getfield 10, 3) := by decide +kernel
theorem dX12_addCourier_19 : decode cX12_addCourier 19 = .ok (.invokevirtual 70, 3) := by decide +kernel
theorem dX12_addCourier_22 : decode cX12_addCourier 22 = .ok (.aload_n 0, 1) := by decide +kernel
theorem dX12_addCourier_23 : decode cX12_addCourier 23 = .ok (.getfield 28, 3) := by decide +kernel
theorem dX12_addCourier_26 : decode cX12_addCourier 26 = .ok (.iload_n 1, 1) := by decide +kernel
theorem dX12_addCourier_27 : decode cX12_addCourier 27 = .ok (.invokevirtual 105, 3) := by decide +kernel
theorem dX12_addCourier_30 : decode cX12_addCourier 30 = .ok (.ireturn, 1) := by decide +kernel
def sX12_addCourier (w : Wl) (l1 : Int32) : Option (Sum Int32 (Int32 × Wl)) := (sX1_ofNewCourier w l1).bind (fun r1 => tiw r1 ((sX7_keep w 1).bind (fun r3 => (sX4_makeCourier r3 l1).bind (fun r7 => some (Sum.inr (r7.1, r7.2))))))
theorem kX12_addCourier {l : Launch} {Γ : Gl} {B : Bs} {w : Wl} {G : Gf} {sz : Nat} {l1 : Int32} {r : (Sum Int32 (Int32 × Wl))} (htr : l.stackTraces = false) (hC : GC Γ B) (hW : Wd Γ B w G) (h : sX12_addCourier w l1 = some r) : CtX l Γ yX12_addCourier cX12_addCourier 2 (some .int) 7 [.ref (B.1 + 0), .int l1] G sz (fun v G' sz' => ∃ p, r = Sum.inr p ∧ WΨ Γ B (some (.int p.1)) p.2 sz v G' sz') (exq r) 1 6 := by
  refine CtX.of htr rfl (Nat.le_of_ble_eq_true rfl) fun X hx hr he hl hΓ hnm => ?_
  subst hl hΓ
  show J X 2 G sz 0 0 0 [some (.ref (B.1 + 0)), some (.int l1)] []
  unfold sX12_addCourier at h
  refine J_al4 hx rfl rfl dX12_addCourier_0 ?_
  refine g12_1 hx hW 73 (rfl : kd 0 = 1) fl_X12_21 rfl dX12_addCourier_1 ?_
  refine J_il4 hx rfl rfl dX12_addCourier_4 ?_
  obtain ⟨r1, hr2, h⟩ := bnd h
  refine J_rdV hx (kX1_ofNewCourier  hW hr2) ml_X12_102 lk_X1_ofNewCourier (ci := 0) rfl (hW.obj (rfl : kd 73 = 11) (by decide) (by decide)) (rest := []) rfl rfl (by decide) (by decide) (Nat.le_of_ble_eq_true rfl) (by decide) (by decide) dX12_addCourier_5 ?_
  refine J_callXS hx he (kX12_throwIfWrong htr hC) ml_X12_66 lk_X12_throwIfWrong (rest := []) rfl rfl (by decide) (by decide) (Nat.le_of_ble_eq_true rfl) (by decide) (by decide) dX12_addCourier_8 (tiw_x h) fun r1 G1 sz1 hh => ?_
  obtain ⟨hti, rfl, rfl, rfl⟩ := hh
  show J X 2 _ _ 1 6 11 [some (.ref (B.1 + 0)), some (.int l1)] []
  replace h := tiw_n h hti
  refine J_al4 hx rfl rfl dX12_addCourier_11 ?_
  refine g12_5 hx hW 78 (rfl : kd 0 = 1) fl_X12_51 rfl dX12_addCourier_12 ?_
  refine J_al4 hx rfl rfl dX12_addCourier_15 ?_
  refine g12_0 hx hW 1 (rfl : kd 0 = 1) fl_X12_10 rfl dX12_addCourier_16 ?_
  obtain ⟨r3, hr4, h⟩ := bnd h
  refine J_wrV hx (kX7_keep (rfl : kd 1 = 2) hW hr4) ml_X12_70 lk_X7_keep (ci := 6) rfl (hW.obj (rfl : kd 78 = 15) (by decide) (by decide)) (rest := []) rfl rfl (by decide) (by decide) (Nat.le_of_ble_eq_true rfl) (by decide) (by decide) dX12_addCourier_19 fun G5 hW6 => ?_
  show J X 2 G5 _ 1 6 22 [some (.ref (B.1 + 0)), some (.int l1)] []
  refine J_al4 hx rfl rfl dX12_addCourier_22 ?_
  refine g12_2 hx hW6 74 (rfl : kd 0 = 1) fl_X12_28 rfl dX12_addCourier_23 ?_
  refine J_il4 hx rfl rfl dX12_addCourier_26 ?_
  obtain ⟨r7, hr8, h⟩ := bnd h
  refine J_wrV hx (kX4_makeCourier  hW6 hr8) ml_X12_105 lk_X4_makeCourier (ci := 3) rfl (hW6.obj (rfl : kd 74 = 12) (by decide) (by decide)) (rest := []) rfl rfl (by decide) (by decide) (Nat.le_of_ble_eq_true rfl) (by decide) (by decide) dX12_addCourier_27 fun G9 hW10 => ?_
  show J X 2 G9 _ 1 6 30 [some (.ref (B.1 + 0)), some (.int l1)] [.int r7.1]
  exact J_iret hx hr dX12_addCourier_30 (by decide) (by decide) ⟨_, (Option.some.inj h).symm, rfl, hW10, rfl⟩
theorem dX12_addCrate_0 : decode cX12_addCrate 0 = .ok (.aload_n 0, 1) := by decide +kernel
theorem dX12_addCrate_1 : decode cX12_addCrate 1 = .ok (.getfield 21, 3) := by decide +kernel
theorem dX12_addCrate_4 : decode cX12_addCrate 4 = .ok (.iload_n 1, 1) := by decide +kernel
theorem dX12_addCrate_5 : decode cX12_addCrate 5 = .ok (.iload_n 2, 1) := by decide +kernel
theorem dX12_addCrate_6 : decode cX12_addCrate 6 = .ok (.invokevirtual 108, 3) := by decide +kernel
theorem dX12_addCrate_9 : decode cX12_addCrate 9 = .ok (.invokestatic 66, 3) := by decide +kernel
theorem dX12_addCrate_12 : decode cX12_addCrate 12 = .ok (.aload_n 0, 1) := by decide +kernel
theorem dX12_addCrate_13 : decode cX12_addCrate 13 = .ok (.getfield 51, 3) := by decide +kernel
theorem dX12_addCrate_16 : decode cX12_addCrate 16 = .ok (.aload_n 0, 1) := by decide +kernel
theorem dX12_addCrate_17 : decode cX12_addCrate 17 = .ok (.getfield 10, 3) := by decide +kernel
theorem dX12_addCrate_20 : decode cX12_addCrate 20 = .ok (.invokevirtual 70, 3) := by decide +kernel
theorem dX12_addCrate_23 : decode cX12_addCrate 23 = .ok (.aload_n 0, 1) := by decide +kernel
theorem dX12_addCrate_24 : decode cX12_addCrate 24 = .ok (.getfield 28, 3) := by decide +kernel
theorem dX12_addCrate_27 : decode cX12_addCrate 27 = .ok (.iload_n 1, 1) := by decide +kernel
theorem dX12_addCrate_28 : decode cX12_addCrate 28 = .ok (.iload_n 2, 1) := by decide +kernel
theorem dX12_addCrate_29 : decode cX12_addCrate 29 = .ok (.invokevirtual 112, 3) := by decide +kernel
theorem dX12_addCrate_32 : decode cX12_addCrate 32 = .ok (.ireturn, 1) := by decide +kernel
def sX12_addCrate (w : Wl) (l1 : Int32) (l2 : Int32) : Option (Sum Int32 (Int32 × Wl)) := (sX1_ofNewCrate w l1 l2).bind (fun r1 => tiw r1 ((sX7_keep w 1).bind (fun r3 => (sX4_makeCrate r3 l1 l2).bind (fun r7 => some (Sum.inr (r7.1, r7.2))))))
theorem kX12_addCrate {l : Launch} {Γ : Gl} {B : Bs} {w : Wl} {G : Gf} {sz : Nat} {l1 : Int32} {l2 : Int32} {r : (Sum Int32 (Int32 × Wl))} (htr : l.stackTraces = false) (hC : GC Γ B) (hW : Wd Γ B w G) (h : sX12_addCrate w l1 l2 = some r) : CtX l Γ yX12_addCrate cX12_addCrate 3 (some .int) 7 [.ref (B.1 + 0), .int l1, .int l2] G sz (fun v G' sz' => ∃ p, r = Sum.inr p ∧ WΨ Γ B (some (.int p.1)) p.2 sz v G' sz') (exq r) 1 6 := by
  refine CtX.of htr rfl (Nat.le_of_ble_eq_true rfl) fun X hx hr he hl hΓ hnm => ?_
  subst hl hΓ
  show J X 3 G sz 0 0 0 [some (.ref (B.1 + 0)), some (.int l1), some (.int l2)] []
  unfold sX12_addCrate at h
  refine J_al4 hx rfl rfl dX12_addCrate_0 ?_
  refine g12_1 hx hW 73 (rfl : kd 0 = 1) fl_X12_21 rfl dX12_addCrate_1 ?_
  refine J_il4 hx rfl rfl dX12_addCrate_4 ?_
  refine J_il4 hx rfl rfl dX12_addCrate_5 ?_
  obtain ⟨r1, hr2, h⟩ := bnd h
  refine J_rdV hx (kX1_ofNewCrate  hW hr2) ml_X12_108 lk_X1_ofNewCrate (ci := 0) rfl (hW.obj (rfl : kd 73 = 11) (by decide) (by decide)) (rest := []) rfl rfl (by decide) (by decide) (Nat.le_of_ble_eq_true rfl) (by decide) (by decide) dX12_addCrate_6 ?_
  refine J_callXS hx he (kX12_throwIfWrong htr hC) ml_X12_66 lk_X12_throwIfWrong (rest := []) rfl rfl (by decide) (by decide) (Nat.le_of_ble_eq_true rfl) (by decide) (by decide) dX12_addCrate_9 (tiw_x h) fun r1 G1 sz1 hh => ?_
  obtain ⟨hti, rfl, rfl, rfl⟩ := hh
  show J X 3 _ _ 1 6 12 [some (.ref (B.1 + 0)), some (.int l1), some (.int l2)] []
  replace h := tiw_n h hti
  refine J_al4 hx rfl rfl dX12_addCrate_12 ?_
  refine g12_5 hx hW 78 (rfl : kd 0 = 1) fl_X12_51 rfl dX12_addCrate_13 ?_
  refine J_al4 hx rfl rfl dX12_addCrate_16 ?_
  refine g12_0 hx hW 1 (rfl : kd 0 = 1) fl_X12_10 rfl dX12_addCrate_17 ?_
  obtain ⟨r3, hr4, h⟩ := bnd h
  refine J_wrV hx (kX7_keep (rfl : kd 1 = 2) hW hr4) ml_X12_70 lk_X7_keep (ci := 6) rfl (hW.obj (rfl : kd 78 = 15) (by decide) (by decide)) (rest := []) rfl rfl (by decide) (by decide) (Nat.le_of_ble_eq_true rfl) (by decide) (by decide) dX12_addCrate_20 fun G5 hW6 => ?_
  show J X 3 G5 _ 1 6 23 [some (.ref (B.1 + 0)), some (.int l1), some (.int l2)] []
  refine J_al4 hx rfl rfl dX12_addCrate_23 ?_
  refine g12_2 hx hW6 74 (rfl : kd 0 = 1) fl_X12_28 rfl dX12_addCrate_24 ?_
  refine J_il4 hx rfl rfl dX12_addCrate_27 ?_
  refine J_il4 hx rfl rfl dX12_addCrate_28 ?_
  obtain ⟨r7, hr8, h⟩ := bnd h
  refine J_wrV hx (kX4_makeCrate  hW6 hr8) ml_X12_112 lk_X4_makeCrate (ci := 3) rfl (hW6.obj (rfl : kd 74 = 12) (by decide) (by decide)) (rest := []) rfl rfl (by decide) (by decide) (Nat.le_of_ble_eq_true rfl) (by decide) (by decide) dX12_addCrate_29 fun G9 hW10 => ?_
  show J X 3 G9 _ 1 6 32 [some (.ref (B.1 + 0)), some (.int l1), some (.int l2)] [.int r7.1]
  exact J_iret hx hr dX12_addCrate_32 (by decide) (by decide) ⟨_, (Option.some.inj h).symm, rfl, hW10, rfl⟩
theorem dX12_addWork_0 : decode cX12_addWork 0 = .ok (.aload_n 0, 1) := by decide +kernel
theorem dX12_addWork_1 : decode cX12_addWork 1 = .ok (.getfield 21, 3) := by decide +kernel
theorem dX12_addWork_4 : decode cX12_addWork 4 = .ok (.iload_n 1, 1) := by decide +kernel
theorem dX12_addWork_5 : decode cX12_addWork 5 = .ok (.iload_n 2, 1) := by decide +kernel
theorem dX12_addWork_6 : decode cX12_addWork 6 = .ok (.iload_n 3, 1) := by decide +kernel
theorem dX12_addWork_7 : decode cX12_addWork 7 = .ok (.iload 4, 2) := by decide +kernel
theorem dX12_addWork_9 : decode cX12_addWork 9 = .ok (.invokevirtual 115, 3) := by decide +kernel
theorem dX12_addWork_12 : decode cX12_addWork 12 = .ok (.invokestatic 66, 3) := by decide +kernel
theorem dX12_addWork_15 : decode cX12_addWork 15 = .ok (.aload_n 0, 1) := by decide +kernel
theorem dX12_addWork_16 : decode cX12_addWork 16 = .ok (.getfield 51, 3) := by decide +kernel
theorem dX12_addWork_19 : decode cX12_addWork 19 = .ok (.aload_n 0, 1) := by decide +kernel
theorem dX12_addWork_20 : decode cX12_addWork 20 = .ok (.getfield 10, 3) := by decide +kernel
theorem dX12_addWork_23 : decode cX12_addWork 23 = .ok (.invokevirtual 70, 3) := by decide +kernel
theorem dX12_addWork_26 : decode cX12_addWork 26 = .ok (.aload_n 0, 1) := by decide +kernel
theorem dX12_addWork_27 : decode cX12_addWork 27 = .ok (.getfield 28, 3) := by decide +kernel
theorem dX12_addWork_30 : decode cX12_addWork 30 = .ok (.iload_n 1, 1) := by decide +kernel
theorem dX12_addWork_31 : decode cX12_addWork 31 = .ok (.iload_n 2, 1) := by decide +kernel
theorem dX12_addWork_32 : decode cX12_addWork 32 = .ok (.iload_n 3, 1) := by decide +kernel
theorem dX12_addWork_33 : decode cX12_addWork 33 = .ok (.iload 4, 2) := by decide +kernel
theorem dX12_addWork_35 : decode cX12_addWork 35 = .ok (.iload 5, 2) := by decide +kernel
theorem dX12_addWork_37 : decode cX12_addWork 37 = .ok (.invokevirtual 118, 3) := by decide +kernel
theorem dX12_addWork_40 : decode cX12_addWork 40 = .ok (.ireturn, 1) := by decide +kernel
def sX12_addWork (w : Wl) (l1 : Int32) (l2 : Int32) (l3 : Int32) (l4 : Int32) (l5 : Int32) : Option (Sum Int32 (Int32 × Wl)) := (sX1_ofNewWork w l1 l2 l3 l4).bind (fun r1 => tiw r1 ((sX7_keep w 1).bind (fun r3 => (sX4_makeWork r3 l1 l2 l3 l4 l5).bind (fun r7 => some (Sum.inr (r7.1, r7.2))))))
theorem kX12_addWork {l : Launch} {Γ : Gl} {B : Bs} {w : Wl} {G : Gf} {sz : Nat} {l1 : Int32} {l2 : Int32} {l3 : Int32} {l4 : Int32} {l5 : Int32} {r : (Sum Int32 (Int32 × Wl))} (htr : l.stackTraces = false) (hC : GC Γ B) (hW : Wd Γ B w G) (h : sX12_addWork w l1 l2 l3 l4 l5 = some r) : CtX l Γ yX12_addWork cX12_addWork 6 (some .int) 7 [.ref (B.1 + 0), .int l1, .int l2, .int l3, .int l4, .int l5] G sz (fun v G' sz' => ∃ p, r = Sum.inr p ∧ WΨ Γ B (some (.int p.1)) p.2 sz v G' sz') (exq r) 1 6 := by
  refine CtX.of htr rfl (Nat.le_of_ble_eq_true rfl) fun X hx hr he hl hΓ hnm => ?_
  subst hl hΓ
  show J X 6 G sz 0 0 0 [some (.ref (B.1 + 0)), some (.int l1), some (.int l2), some (.int l3), some (.int l4), some (.int l5)] []
  unfold sX12_addWork at h
  refine J_al4 hx rfl rfl dX12_addWork_0 ?_
  refine g12_1 hx hW 73 (rfl : kd 0 = 1) fl_X12_21 rfl dX12_addWork_1 ?_
  refine J_il4 hx rfl rfl dX12_addWork_4 ?_
  refine J_il4 hx rfl rfl dX12_addWork_5 ?_
  refine J_il4 hx rfl rfl dX12_addWork_6 ?_
  refine J_il hx rfl dX12_addWork_7 ?_
  obtain ⟨r1, hr2, h⟩ := bnd h
  refine J_rdV hx (kX1_ofNewWork  hW hr2) ml_X12_115 lk_X1_ofNewWork (ci := 0) rfl (hW.obj (rfl : kd 73 = 11) (by decide) (by decide)) (rest := []) rfl rfl (by decide) (by decide) (Nat.le_of_ble_eq_true rfl) (by decide) (by decide) dX12_addWork_9 ?_
  refine J_callXS hx he (kX12_throwIfWrong htr hC) ml_X12_66 lk_X12_throwIfWrong (rest := []) rfl rfl (by decide) (by decide) (Nat.le_of_ble_eq_true rfl) (by decide) (by decide) dX12_addWork_12 (tiw_x h) fun r1 G1 sz1 hh => ?_
  obtain ⟨hti, rfl, rfl, rfl⟩ := hh
  show J X 6 _ _ 1 6 15 [some (.ref (B.1 + 0)), some (.int l1), some (.int l2), some (.int l3), some (.int l4), some (.int l5)] []
  replace h := tiw_n h hti
  refine J_al4 hx rfl rfl dX12_addWork_15 ?_
  refine g12_5 hx hW 78 (rfl : kd 0 = 1) fl_X12_51 rfl dX12_addWork_16 ?_
  refine J_al4 hx rfl rfl dX12_addWork_19 ?_
  refine g12_0 hx hW 1 (rfl : kd 0 = 1) fl_X12_10 rfl dX12_addWork_20 ?_
  obtain ⟨r3, hr4, h⟩ := bnd h
  refine J_wrV hx (kX7_keep (rfl : kd 1 = 2) hW hr4) ml_X12_70 lk_X7_keep (ci := 6) rfl (hW.obj (rfl : kd 78 = 15) (by decide) (by decide)) (rest := []) rfl rfl (by decide) (by decide) (Nat.le_of_ble_eq_true rfl) (by decide) (by decide) dX12_addWork_23 fun G5 hW6 => ?_
  show J X 6 G5 _ 1 6 26 [some (.ref (B.1 + 0)), some (.int l1), some (.int l2), some (.int l3), some (.int l4), some (.int l5)] []
  refine J_al4 hx rfl rfl dX12_addWork_26 ?_
  refine g12_2 hx hW6 74 (rfl : kd 0 = 1) fl_X12_28 rfl dX12_addWork_27 ?_
  refine J_il4 hx rfl rfl dX12_addWork_30 ?_
  refine J_il4 hx rfl rfl dX12_addWork_31 ?_
  refine J_il4 hx rfl rfl dX12_addWork_32 ?_
  refine J_il hx rfl dX12_addWork_33 ?_
  refine J_il hx rfl dX12_addWork_35 ?_
  obtain ⟨r7, hr8, h⟩ := bnd h
  refine J_wrV hx (kX4_makeWork  hW6 hr8) ml_X12_118 lk_X4_makeWork (ci := 3) rfl (hW6.obj (rfl : kd 74 = 12) (by decide) (by decide)) (rest := []) rfl rfl (by decide) (by decide) (Nat.le_of_ble_eq_true rfl) (by decide) (by decide) dX12_addWork_37 fun G9 hW10 => ?_
  show J X 6 G9 _ 1 6 40 [some (.ref (B.1 + 0)), some (.int l1), some (.int l2), some (.int l3), some (.int l4), some (.int l5)] [.int r7.1]
  exact J_iret hx hr dX12_addWork_40 (by decide) (by decide) ⟨_, (Option.some.inj h).symm, rfl, hW10, rfl⟩
theorem dX12_open_0 : decode cX12_open 0 = .ok (.aload_n 0, 1) := by decide +kernel
theorem dX12_open_1 : decode cX12_open 1 = .ok (.getfield 21, 3) := by decide +kernel
theorem dX12_open_4 : decode cX12_open 4 = .ok (.iload_n 1, 1) := by decide +kernel
theorem dX12_open_5 : decode cX12_open 5 = .ok (.invokevirtual 122, 3) := by decide +kernel
theorem dX12_open_8 : decode cX12_open 8 = .ok (.invokestatic 66, 3) := by decide +kernel
theorem dX12_open_11 : decode cX12_open 11 = .ok (.aload_n 0, 1) := by decide +kernel
theorem dX12_open_12 : decode cX12_open 12 = .ok (.getfield 51, 3) := by decide +kernel
theorem dX12_open_15 : decode cX12_open 15 = .ok (.aload_n 0, 1) := by decide +kernel
theorem dX12_open_16 : decode cX12_open 16 = .ok (.getfield 10, 3) := by decide +kernel
theorem dX12_open_19 : decode cX12_open 19 = .ok (.invokevirtual 70, 3) := by decide +kernel
theorem dX12_open_22 : decode cX12_open 22 = .ok (.aload_n 0, 1) := by decide +kernel
theorem dX12_open_23 : decode cX12_open 23 = .ok (.getfield 28, 3) := by decide +kernel
theorem dX12_open_26 : decode cX12_open 26 = .ok (.iload_n 1, 1) := by decide +kernel
theorem dX12_open_27 : decode cX12_open 27 = .ok (.invokevirtual 125, 3) := by decide +kernel
theorem dX12_open_30 : decode cX12_open 30 = .ok (.ireturn, 1) := by decide +kernel
def sX12_open (w : Wl) (l1 : Int32) : Option (Sum Int32 (Int32 × Wl)) := (sX1_ofOpening w l1).bind (fun r1 => tiw r1 ((sX7_keep w 1).bind (fun r3 => (sX4_openCrate r3 l1).bind (fun r7 => some (Sum.inr (r7.1, r7.2))))))
theorem kX12_open {l : Launch} {Γ : Gl} {B : Bs} {w : Wl} {G : Gf} {sz : Nat} {l1 : Int32} {r : (Sum Int32 (Int32 × Wl))} (htr : l.stackTraces = false) (hC : GC Γ B) (hW : Wd Γ B w G) (h : sX12_open w l1 = some r) : CtX l Γ yX12_open cX12_open 2 (some .int) 7 [.ref (B.1 + 0), .int l1] G sz (fun v G' sz' => ∃ p, r = Sum.inr p ∧ WΨ Γ B (some (.int p.1)) p.2 sz v G' sz') (exq r) 1 6 := by
  refine CtX.of htr rfl (Nat.le_of_ble_eq_true rfl) fun X hx hr he hl hΓ hnm => ?_
  subst hl hΓ
  show J X 2 G sz 0 0 0 [some (.ref (B.1 + 0)), some (.int l1)] []
  unfold sX12_open at h
  refine J_al4 hx rfl rfl dX12_open_0 ?_
  refine g12_1 hx hW 73 (rfl : kd 0 = 1) fl_X12_21 rfl dX12_open_1 ?_
  refine J_il4 hx rfl rfl dX12_open_4 ?_
  obtain ⟨r1, hr2, h⟩ := bnd h
  refine J_rdV hx (kX1_ofOpening  hW hr2) ml_X12_122 lk_X1_ofOpening (ci := 0) rfl (hW.obj (rfl : kd 73 = 11) (by decide) (by decide)) (rest := []) rfl rfl (by decide) (by decide) (Nat.le_of_ble_eq_true rfl) (by decide) (by decide) dX12_open_5 ?_
  refine J_callXS hx he (kX12_throwIfWrong htr hC) ml_X12_66 lk_X12_throwIfWrong (rest := []) rfl rfl (by decide) (by decide) (Nat.le_of_ble_eq_true rfl) (by decide) (by decide) dX12_open_8 (tiw_x h) fun r1 G1 sz1 hh => ?_
  obtain ⟨hti, rfl, rfl, rfl⟩ := hh
  show J X 2 _ _ 1 6 11 [some (.ref (B.1 + 0)), some (.int l1)] []
  replace h := tiw_n h hti
  refine J_al4 hx rfl rfl dX12_open_11 ?_
  refine g12_5 hx hW 78 (rfl : kd 0 = 1) fl_X12_51 rfl dX12_open_12 ?_
  refine J_al4 hx rfl rfl dX12_open_15 ?_
  refine g12_0 hx hW 1 (rfl : kd 0 = 1) fl_X12_10 rfl dX12_open_16 ?_
  obtain ⟨r3, hr4, h⟩ := bnd h
  refine J_wrV hx (kX7_keep (rfl : kd 1 = 2) hW hr4) ml_X12_70 lk_X7_keep (ci := 6) rfl (hW.obj (rfl : kd 78 = 15) (by decide) (by decide)) (rest := []) rfl rfl (by decide) (by decide) (Nat.le_of_ble_eq_true rfl) (by decide) (by decide) dX12_open_19 fun G5 hW6 => ?_
  show J X 2 G5 _ 1 6 22 [some (.ref (B.1 + 0)), some (.int l1)] []
  refine J_al4 hx rfl rfl dX12_open_22 ?_
  refine g12_2 hx hW6 74 (rfl : kd 0 = 1) fl_X12_28 rfl dX12_open_23 ?_
  refine J_il4 hx rfl rfl dX12_open_26 ?_
  obtain ⟨r7, hr8, h⟩ := bnd h
  refine J_wrV hx (kX4_openCrate  hW6 hr8) ml_X12_125 lk_X4_openCrate (ci := 3) rfl (hW6.obj (rfl : kd 74 = 12) (by decide) (by decide)) (rest := []) rfl rfl (by decide) (by decide) (Nat.le_of_ble_eq_true rfl) (by decide) (by decide) dX12_open_27 fun G9 hW10 => ?_
  show J X 2 G9 _ 1 6 30 [some (.ref (B.1 + 0)), some (.int l1)] [.int r7.1]
  exact J_iret hx hr dX12_open_30 (by decide) (by decide) ⟨_, (Option.some.inj h).symm, rfl, hW10, rfl⟩
theorem dX12_close_0 : decode cX12_close 0 = .ok (.aload_n 0, 1) := by decide +kernel
theorem dX12_close_1 : decode cX12_close 1 = .ok (.getfield 21, 3) := by decide +kernel
theorem dX12_close_4 : decode cX12_close 4 = .ok (.iload_n 1, 1) := by decide +kernel
theorem dX12_close_5 : decode cX12_close 5 = .ok (.invokevirtual 128, 3) := by decide +kernel
theorem dX12_close_8 : decode cX12_close 8 = .ok (.invokestatic 66, 3) := by decide +kernel
theorem dX12_close_11 : decode cX12_close 11 = .ok (.aload_n 0, 1) := by decide +kernel
theorem dX12_close_12 : decode cX12_close 12 = .ok (.getfield 51, 3) := by decide +kernel
theorem dX12_close_15 : decode cX12_close 15 = .ok (.aload_n 0, 1) := by decide +kernel
theorem dX12_close_16 : decode cX12_close 16 = .ok (.getfield 10, 3) := by decide +kernel
theorem dX12_close_19 : decode cX12_close 19 = .ok (.invokevirtual 70, 3) := by decide +kernel
theorem dX12_close_22 : decode cX12_close 22 = .ok (.aload_n 0, 1) := by decide +kernel
theorem dX12_close_23 : decode cX12_close 23 = .ok (.getfield 28, 3) := by decide +kernel
theorem dX12_close_26 : decode cX12_close 26 = .ok (.iload_n 1, 1) := by decide +kernel
theorem dX12_close_27 : decode cX12_close 27 = .ok (.invokevirtual 131, 3) := by decide +kernel
theorem dX12_close_30 : decode cX12_close 30 = .ok (.ireturn, 1) := by decide +kernel
def sX12_close (w : Wl) (l1 : Int32) : Option (Sum Int32 (Int32 × Wl)) := (sX1_ofClosing w l1).bind (fun r1 => tiw r1 ((sX7_keep w 1).bind (fun r3 => (sX4_closeCrate r3 l1).bind (fun r7 => some (Sum.inr (r7.1, r7.2))))))
theorem kX12_close {l : Launch} {Γ : Gl} {B : Bs} {w : Wl} {G : Gf} {sz : Nat} {l1 : Int32} {r : (Sum Int32 (Int32 × Wl))} (htr : l.stackTraces = false) (hC : GC Γ B) (hW : Wd Γ B w G) (h : sX12_close w l1 = some r) : CtX l Γ yX12_close cX12_close 2 (some .int) 7 [.ref (B.1 + 0), .int l1] G sz (fun v G' sz' => ∃ p, r = Sum.inr p ∧ WΨ Γ B (some (.int p.1)) p.2 sz v G' sz') (exq r) 1 6 := by
  refine CtX.of htr rfl (Nat.le_of_ble_eq_true rfl) fun X hx hr he hl hΓ hnm => ?_
  subst hl hΓ
  show J X 2 G sz 0 0 0 [some (.ref (B.1 + 0)), some (.int l1)] []
  unfold sX12_close at h
  refine J_al4 hx rfl rfl dX12_close_0 ?_
  refine g12_1 hx hW 73 (rfl : kd 0 = 1) fl_X12_21 rfl dX12_close_1 ?_
  refine J_il4 hx rfl rfl dX12_close_4 ?_
  obtain ⟨r1, hr2, h⟩ := bnd h
  refine J_rdV hx (kX1_ofClosing  hW hr2) ml_X12_128 lk_X1_ofClosing (ci := 0) rfl (hW.obj (rfl : kd 73 = 11) (by decide) (by decide)) (rest := []) rfl rfl (by decide) (by decide) (Nat.le_of_ble_eq_true rfl) (by decide) (by decide) dX12_close_5 ?_
  refine J_callXS hx he (kX12_throwIfWrong htr hC) ml_X12_66 lk_X12_throwIfWrong (rest := []) rfl rfl (by decide) (by decide) (Nat.le_of_ble_eq_true rfl) (by decide) (by decide) dX12_close_8 (tiw_x h) fun r1 G1 sz1 hh => ?_
  obtain ⟨hti, rfl, rfl, rfl⟩ := hh
  show J X 2 _ _ 1 6 11 [some (.ref (B.1 + 0)), some (.int l1)] []
  replace h := tiw_n h hti
  refine J_al4 hx rfl rfl dX12_close_11 ?_
  refine g12_5 hx hW 78 (rfl : kd 0 = 1) fl_X12_51 rfl dX12_close_12 ?_
  refine J_al4 hx rfl rfl dX12_close_15 ?_
  refine g12_0 hx hW 1 (rfl : kd 0 = 1) fl_X12_10 rfl dX12_close_16 ?_
  obtain ⟨r3, hr4, h⟩ := bnd h
  refine J_wrV hx (kX7_keep (rfl : kd 1 = 2) hW hr4) ml_X12_70 lk_X7_keep (ci := 6) rfl (hW.obj (rfl : kd 78 = 15) (by decide) (by decide)) (rest := []) rfl rfl (by decide) (by decide) (Nat.le_of_ble_eq_true rfl) (by decide) (by decide) dX12_close_19 fun G5 hW6 => ?_
  show J X 2 G5 _ 1 6 22 [some (.ref (B.1 + 0)), some (.int l1)] []
  refine J_al4 hx rfl rfl dX12_close_22 ?_
  refine g12_2 hx hW6 74 (rfl : kd 0 = 1) fl_X12_28 rfl dX12_close_23 ?_
  refine J_il4 hx rfl rfl dX12_close_26 ?_
  obtain ⟨r7, hr8, h⟩ := bnd h
  refine J_wrV hx (kX4_closeCrate  hW6 hr8) ml_X12_131 lk_X4_closeCrate (ci := 3) rfl (hW6.obj (rfl : kd 74 = 12) (by decide) (by decide)) (rest := []) rfl rfl (by decide) (by decide) (Nat.le_of_ble_eq_true rfl) (by decide) (by decide) dX12_close_27 fun G9 hW10 => ?_
  show J X 2 G9 _ 1 6 30 [some (.ref (B.1 + 0)), some (.int l1)] [.int r7.1]
  exact J_iret hx hr dX12_close_30 (by decide) (by decide) ⟨_, (Option.some.inj h).symm, rfl, hW10, rfl⟩
theorem dX12_nest_0 : decode cX12_nest 0 = .ok (.aload_n 0, 1) := by decide +kernel
theorem dX12_nest_1 : decode cX12_nest 1 = .ok (.getfield 21, 3) := by decide +kernel
theorem dX12_nest_4 : decode cX12_nest 4 = .ok (.iload_n 1, 1) := by decide +kernel
theorem dX12_nest_5 : decode cX12_nest 5 = .ok (.iload_n 2, 1) := by decide +kernel
theorem dX12_nest_6 : decode cX12_nest 6 = .ok (.invokevirtual 134, 3) := by decide +kernel
theorem dX12_nest_9 : decode cX12_nest 9 = .ok (.invokestatic 66, 3) := by decide +kernel
theorem dX12_nest_12 : decode cX12_nest 12 = .ok (.aload_n 0, 1) := by decide +kernel
theorem dX12_nest_13 : decode cX12_nest 13 = .ok (.getfield 51, 3) := by decide +kernel
theorem dX12_nest_16 : decode cX12_nest 16 = .ok (.aload_n 0, 1) := by decide +kernel
theorem dX12_nest_17 : decode cX12_nest 17 = .ok (.getfield 10, 3) := by decide +kernel
theorem dX12_nest_20 : decode cX12_nest 20 = .ok (.invokevirtual 70, 3) := by decide +kernel
theorem dX12_nest_23 : decode cX12_nest 23 = .ok (.aload_n 0, 1) := by decide +kernel
theorem dX12_nest_24 : decode cX12_nest 24 = .ok (.getfield 28, 3) := by decide +kernel
theorem dX12_nest_27 : decode cX12_nest 27 = .ok (.iload_n 1, 1) := by decide +kernel
theorem dX12_nest_28 : decode cX12_nest 28 = .ok (.iload_n 2, 1) := by decide +kernel
theorem dX12_nest_29 : decode cX12_nest 29 = .ok (.invokevirtual 137, 3) := by decide +kernel
theorem dX12_nest_32 : decode cX12_nest 32 = .ok (.ireturn, 1) := by decide +kernel
def sX12_nest (w : Wl) (l1 : Int32) (l2 : Int32) : Option (Sum Int32 (Int32 × Wl)) := (sX1_ofNesting w l1 l2).bind (fun r1 => tiw r1 ((sX7_keep w 1).bind (fun r3 => (sX4_putCrateInto r3 l1 l2).bind (fun r7 => some (Sum.inr (r7.1, r7.2))))))
theorem kX12_nest {l : Launch} {Γ : Gl} {B : Bs} {w : Wl} {G : Gf} {sz : Nat} {l1 : Int32} {l2 : Int32} {r : (Sum Int32 (Int32 × Wl))} (htr : l.stackTraces = false) (hC : GC Γ B) (hW : Wd Γ B w G) (h : sX12_nest w l1 l2 = some r) : CtX l Γ yX12_nest cX12_nest 3 (some .int) 7 [.ref (B.1 + 0), .int l1, .int l2] G sz (fun v G' sz' => ∃ p, r = Sum.inr p ∧ WΨ Γ B (some (.int p.1)) p.2 sz v G' sz') (exq r) 1 6 := by
  refine CtX.of htr rfl (Nat.le_of_ble_eq_true rfl) fun X hx hr he hl hΓ hnm => ?_
  subst hl hΓ
  show J X 3 G sz 0 0 0 [some (.ref (B.1 + 0)), some (.int l1), some (.int l2)] []
  unfold sX12_nest at h
  refine J_al4 hx rfl rfl dX12_nest_0 ?_
  refine g12_1 hx hW 73 (rfl : kd 0 = 1) fl_X12_21 rfl dX12_nest_1 ?_
  refine J_il4 hx rfl rfl dX12_nest_4 ?_
  refine J_il4 hx rfl rfl dX12_nest_5 ?_
  obtain ⟨r1, hr2, h⟩ := bnd h
  refine J_rdV hx (kX1_ofNesting  hW hr2) ml_X12_134 lk_X1_ofNesting (ci := 0) rfl (hW.obj (rfl : kd 73 = 11) (by decide) (by decide)) (rest := []) rfl rfl (by decide) (by decide) (Nat.le_of_ble_eq_true rfl) (by decide) (by decide) dX12_nest_6 ?_
  refine J_callXS hx he (kX12_throwIfWrong htr hC) ml_X12_66 lk_X12_throwIfWrong (rest := []) rfl rfl (by decide) (by decide) (Nat.le_of_ble_eq_true rfl) (by decide) (by decide) dX12_nest_9 (tiw_x h) fun r1 G1 sz1 hh => ?_
  obtain ⟨hti, rfl, rfl, rfl⟩ := hh
  show J X 3 _ _ 1 6 12 [some (.ref (B.1 + 0)), some (.int l1), some (.int l2)] []
  replace h := tiw_n h hti
  refine J_al4 hx rfl rfl dX12_nest_12 ?_
  refine g12_5 hx hW 78 (rfl : kd 0 = 1) fl_X12_51 rfl dX12_nest_13 ?_
  refine J_al4 hx rfl rfl dX12_nest_16 ?_
  refine g12_0 hx hW 1 (rfl : kd 0 = 1) fl_X12_10 rfl dX12_nest_17 ?_
  obtain ⟨r3, hr4, h⟩ := bnd h
  refine J_wrV hx (kX7_keep (rfl : kd 1 = 2) hW hr4) ml_X12_70 lk_X7_keep (ci := 6) rfl (hW.obj (rfl : kd 78 = 15) (by decide) (by decide)) (rest := []) rfl rfl (by decide) (by decide) (Nat.le_of_ble_eq_true rfl) (by decide) (by decide) dX12_nest_20 fun G5 hW6 => ?_
  show J X 3 G5 _ 1 6 23 [some (.ref (B.1 + 0)), some (.int l1), some (.int l2)] []
  refine J_al4 hx rfl rfl dX12_nest_23 ?_
  refine g12_2 hx hW6 74 (rfl : kd 0 = 1) fl_X12_28 rfl dX12_nest_24 ?_
  refine J_il4 hx rfl rfl dX12_nest_27 ?_
  refine J_il4 hx rfl rfl dX12_nest_28 ?_
  obtain ⟨r7, hr8, h⟩ := bnd h
  refine J_wrV hx (kX4_putCrateInto  hW6 hr8) ml_X12_137 lk_X4_putCrateInto (ci := 3) rfl (hW6.obj (rfl : kd 74 = 12) (by decide) (by decide)) (rest := []) rfl rfl (by decide) (by decide) (Nat.le_of_ble_eq_true rfl) (by decide) (by decide) dX12_nest_29 fun G9 hW10 => ?_
  show J X 3 G9 _ 1 6 32 [some (.ref (B.1 + 0)), some (.int l1), some (.int l2)] [.int r7.1]
  exact J_iret hx hr dX12_nest_32 (by decide) (by decide) ⟨_, (Option.some.inj h).symm, rfl, hW10, rfl⟩
theorem dX12_takeOut_0 : decode cX12_takeOut 0 = .ok (.aload_n 0, 1) := by decide +kernel
theorem dX12_takeOut_1 : decode cX12_takeOut 1 = .ok (.getfield 21, 3) := by decide +kernel
theorem dX12_takeOut_4 : decode cX12_takeOut 4 = .ok (.iload_n 1, 1) := by decide +kernel
theorem dX12_takeOut_5 : decode cX12_takeOut 5 = .ok (.invokevirtual 140, 3) := by decide +kernel
theorem dX12_takeOut_8 : decode cX12_takeOut 8 = .ok (.invokestatic 66, 3) := by decide +kernel
theorem dX12_takeOut_11 : decode cX12_takeOut 11 = .ok (.aload_n 0, 1) := by decide +kernel
theorem dX12_takeOut_12 : decode cX12_takeOut 12 = .ok (.getfield 51, 3) := by decide +kernel
theorem dX12_takeOut_15 : decode cX12_takeOut 15 = .ok (.aload_n 0, 1) := by decide +kernel
theorem dX12_takeOut_16 : decode cX12_takeOut 16 = .ok (.getfield 10, 3) := by decide +kernel
theorem dX12_takeOut_19 : decode cX12_takeOut 19 = .ok (.invokevirtual 70, 3) := by decide +kernel
theorem dX12_takeOut_22 : decode cX12_takeOut 22 = .ok (.aload_n 0, 1) := by decide +kernel
theorem dX12_takeOut_23 : decode cX12_takeOut 23 = .ok (.getfield 28, 3) := by decide +kernel
theorem dX12_takeOut_26 : decode cX12_takeOut 26 = .ok (.iload_n 1, 1) := by decide +kernel
theorem dX12_takeOut_27 : decode cX12_takeOut 27 = .ok (.invokevirtual 143, 3) := by decide +kernel
theorem dX12_takeOut_30 : decode cX12_takeOut 30 = .ok (.ireturn, 1) := by decide +kernel
def sX12_takeOut (w : Wl) (l1 : Int32) : Option (Sum Int32 (Int32 × Wl)) := (sX1_ofTakingOut w l1).bind (fun r1 => tiw r1 ((sX7_keep w 1).bind (fun r3 => (sX4_takeCrateOut r3 l1).bind (fun r7 => some (Sum.inr (r7.1, r7.2))))))
theorem kX12_takeOut {l : Launch} {Γ : Gl} {B : Bs} {w : Wl} {G : Gf} {sz : Nat} {l1 : Int32} {r : (Sum Int32 (Int32 × Wl))} (htr : l.stackTraces = false) (hC : GC Γ B) (hW : Wd Γ B w G) (h : sX12_takeOut w l1 = some r) : CtX l Γ yX12_takeOut cX12_takeOut 2 (some .int) 7 [.ref (B.1 + 0), .int l1] G sz (fun v G' sz' => ∃ p, r = Sum.inr p ∧ WΨ Γ B (some (.int p.1)) p.2 sz v G' sz') (exq r) 1 6 := by
  refine CtX.of htr rfl (Nat.le_of_ble_eq_true rfl) fun X hx hr he hl hΓ hnm => ?_
  subst hl hΓ
  show J X 2 G sz 0 0 0 [some (.ref (B.1 + 0)), some (.int l1)] []
  unfold sX12_takeOut at h
  refine J_al4 hx rfl rfl dX12_takeOut_0 ?_
  refine g12_1 hx hW 73 (rfl : kd 0 = 1) fl_X12_21 rfl dX12_takeOut_1 ?_
  refine J_il4 hx rfl rfl dX12_takeOut_4 ?_
  obtain ⟨r1, hr2, h⟩ := bnd h
  refine J_rdV hx (kX1_ofTakingOut  hW hr2) ml_X12_140 lk_X1_ofTakingOut (ci := 0) rfl (hW.obj (rfl : kd 73 = 11) (by decide) (by decide)) (rest := []) rfl rfl (by decide) (by decide) (Nat.le_of_ble_eq_true rfl) (by decide) (by decide) dX12_takeOut_5 ?_
  refine J_callXS hx he (kX12_throwIfWrong htr hC) ml_X12_66 lk_X12_throwIfWrong (rest := []) rfl rfl (by decide) (by decide) (Nat.le_of_ble_eq_true rfl) (by decide) (by decide) dX12_takeOut_8 (tiw_x h) fun r1 G1 sz1 hh => ?_
  obtain ⟨hti, rfl, rfl, rfl⟩ := hh
  show J X 2 _ _ 1 6 11 [some (.ref (B.1 + 0)), some (.int l1)] []
  replace h := tiw_n h hti
  refine J_al4 hx rfl rfl dX12_takeOut_11 ?_
  refine g12_5 hx hW 78 (rfl : kd 0 = 1) fl_X12_51 rfl dX12_takeOut_12 ?_
  refine J_al4 hx rfl rfl dX12_takeOut_15 ?_
  refine g12_0 hx hW 1 (rfl : kd 0 = 1) fl_X12_10 rfl dX12_takeOut_16 ?_
  obtain ⟨r3, hr4, h⟩ := bnd h
  refine J_wrV hx (kX7_keep (rfl : kd 1 = 2) hW hr4) ml_X12_70 lk_X7_keep (ci := 6) rfl (hW.obj (rfl : kd 78 = 15) (by decide) (by decide)) (rest := []) rfl rfl (by decide) (by decide) (Nat.le_of_ble_eq_true rfl) (by decide) (by decide) dX12_takeOut_19 fun G5 hW6 => ?_
  show J X 2 G5 _ 1 6 22 [some (.ref (B.1 + 0)), some (.int l1)] []
  refine J_al4 hx rfl rfl dX12_takeOut_22 ?_
  refine g12_2 hx hW6 74 (rfl : kd 0 = 1) fl_X12_28 rfl dX12_takeOut_23 ?_
  refine J_il4 hx rfl rfl dX12_takeOut_26 ?_
  obtain ⟨r7, hr8, h⟩ := bnd h
  refine J_wrV hx (kX4_takeCrateOut  hW6 hr8) ml_X12_143 lk_X4_takeCrateOut (ci := 3) rfl (hW6.obj (rfl : kd 74 = 12) (by decide) (by decide)) (rest := []) rfl rfl (by decide) (by decide) (Nat.le_of_ble_eq_true rfl) (by decide) (by decide) dX12_takeOut_27 fun G9 hW10 => ?_
  show J X 2 G9 _ 1 6 30 [some (.ref (B.1 + 0)), some (.int l1)] [.int r7.1]
  exact J_iret hx hr dX12_takeOut_30 (by decide) (by decide) ⟨_, (Option.some.inj h).symm, rfl, hW10, rfl⟩
theorem dX12_pack_0 : decode cX12_pack 0 = .ok (.aload_n 0, 1) := by decide +kernel
theorem dX12_pack_1 : decode cX12_pack 1 = .ok (.getfield 21, 3) := by decide +kernel
theorem dX12_pack_4 : decode cX12_pack 4 = .ok (.iload_n 1, 1) := by decide +kernel
theorem dX12_pack_5 : decode cX12_pack 5 = .ok (.iload_n 2, 1) := by decide +kernel
theorem dX12_pack_6 : decode cX12_pack 6 = .ok (.invokevirtual 146, 3) := by decide +kernel
theorem dX12_pack_9 : decode cX12_pack 9 = .ok (.invokestatic 66, 3) := by decide +kernel
theorem dX12_pack_12 : decode cX12_pack 12 = .ok (.aload_n 0, 1) := by decide +kernel
theorem dX12_pack_13 : decode cX12_pack 13 = .ok (.getfield 51, 3) := by decide +kernel
theorem dX12_pack_16 : decode cX12_pack 16 = .ok (.aload_n 0, 1) := by decide +kernel
theorem dX12_pack_17 : decode cX12_pack 17 = .ok (.getfield 10, 3) := by decide +kernel
theorem dX12_pack_20 : decode cX12_pack 20 = .ok (.invokevirtual 70, 3) := by decide +kernel
theorem dX12_pack_23 : decode cX12_pack 23 = .ok (.aload_n 0, 1) := by decide +kernel
theorem dX12_pack_24 : decode cX12_pack 24 = .ok (.getfield 28, 3) := by decide +kernel
theorem dX12_pack_27 : decode cX12_pack 27 = .ok (.iload_n 1, 1) := by decide +kernel
theorem dX12_pack_28 : decode cX12_pack 28 = .ok (.iload_n 2, 1) := by decide +kernel
theorem dX12_pack_29 : decode cX12_pack 29 = .ok (.invokevirtual 149, 3) := by decide +kernel
theorem dX12_pack_32 : decode cX12_pack 32 = .ok (.ireturn, 1) := by decide +kernel
def sX12_pack (w : Wl) (l1 : Int32) (l2 : Int32) : Option (Sum Int32 (Int32 × Wl)) := (sX1_ofPacking w l1 l2).bind (fun r1 => tiw r1 ((sX7_keep w 1).bind (fun r3 => (sX4_packWork r3 l1 l2).bind (fun r7 => some (Sum.inr (r7.1, r7.2))))))
theorem kX12_pack {l : Launch} {Γ : Gl} {B : Bs} {w : Wl} {G : Gf} {sz : Nat} {l1 : Int32} {l2 : Int32} {r : (Sum Int32 (Int32 × Wl))} (htr : l.stackTraces = false) (hC : GC Γ B) (hW : Wd Γ B w G) (h : sX12_pack w l1 l2 = some r) : CtX l Γ yX12_pack cX12_pack 3 (some .int) 7 [.ref (B.1 + 0), .int l1, .int l2] G sz (fun v G' sz' => ∃ p, r = Sum.inr p ∧ WΨ Γ B (some (.int p.1)) p.2 sz v G' sz') (exq r) 1 6 := by
  refine CtX.of htr rfl (Nat.le_of_ble_eq_true rfl) fun X hx hr he hl hΓ hnm => ?_
  subst hl hΓ
  show J X 3 G sz 0 0 0 [some (.ref (B.1 + 0)), some (.int l1), some (.int l2)] []
  unfold sX12_pack at h
  refine J_al4 hx rfl rfl dX12_pack_0 ?_
  refine g12_1 hx hW 73 (rfl : kd 0 = 1) fl_X12_21 rfl dX12_pack_1 ?_
  refine J_il4 hx rfl rfl dX12_pack_4 ?_
  refine J_il4 hx rfl rfl dX12_pack_5 ?_
  obtain ⟨r1, hr2, h⟩ := bnd h
  refine J_rdV hx (kX1_ofPacking  hW hr2) ml_X12_146 lk_X1_ofPacking (ci := 0) rfl (hW.obj (rfl : kd 73 = 11) (by decide) (by decide)) (rest := []) rfl rfl (by decide) (by decide) (Nat.le_of_ble_eq_true rfl) (by decide) (by decide) dX12_pack_6 ?_
  refine J_callXS hx he (kX12_throwIfWrong htr hC) ml_X12_66 lk_X12_throwIfWrong (rest := []) rfl rfl (by decide) (by decide) (Nat.le_of_ble_eq_true rfl) (by decide) (by decide) dX12_pack_9 (tiw_x h) fun r1 G1 sz1 hh => ?_
  obtain ⟨hti, rfl, rfl, rfl⟩ := hh
  show J X 3 _ _ 1 6 12 [some (.ref (B.1 + 0)), some (.int l1), some (.int l2)] []
  replace h := tiw_n h hti
  refine J_al4 hx rfl rfl dX12_pack_12 ?_
  refine g12_5 hx hW 78 (rfl : kd 0 = 1) fl_X12_51 rfl dX12_pack_13 ?_
  refine J_al4 hx rfl rfl dX12_pack_16 ?_
  refine g12_0 hx hW 1 (rfl : kd 0 = 1) fl_X12_10 rfl dX12_pack_17 ?_
  obtain ⟨r3, hr4, h⟩ := bnd h
  refine J_wrV hx (kX7_keep (rfl : kd 1 = 2) hW hr4) ml_X12_70 lk_X7_keep (ci := 6) rfl (hW.obj (rfl : kd 78 = 15) (by decide) (by decide)) (rest := []) rfl rfl (by decide) (by decide) (Nat.le_of_ble_eq_true rfl) (by decide) (by decide) dX12_pack_20 fun G5 hW6 => ?_
  show J X 3 G5 _ 1 6 23 [some (.ref (B.1 + 0)), some (.int l1), some (.int l2)] []
  refine J_al4 hx rfl rfl dX12_pack_23 ?_
  refine g12_2 hx hW6 74 (rfl : kd 0 = 1) fl_X12_28 rfl dX12_pack_24 ?_
  refine J_il4 hx rfl rfl dX12_pack_27 ?_
  refine J_il4 hx rfl rfl dX12_pack_28 ?_
  obtain ⟨r7, hr8, h⟩ := bnd h
  refine J_wrV hx (kX4_packWork  hW6 hr8) ml_X12_149 lk_X4_packWork (ci := 3) rfl (hW6.obj (rfl : kd 74 = 12) (by decide) (by decide)) (rest := []) rfl rfl (by decide) (by decide) (Nat.le_of_ble_eq_true rfl) (by decide) (by decide) dX12_pack_29 fun G9 hW10 => ?_
  show J X 3 G9 _ 1 6 32 [some (.ref (B.1 + 0)), some (.int l1), some (.int l2)] [.int r7.1]
  exact J_iret hx hr dX12_pack_32 (by decide) (by decide) ⟨_, (Option.some.inj h).symm, rfl, hW10, rfl⟩
theorem dX12_unpack_0 : decode cX12_unpack 0 = .ok (.aload_n 0, 1) := by decide +kernel
theorem dX12_unpack_1 : decode cX12_unpack 1 = .ok (.getfield 21, 3) := by decide +kernel
theorem dX12_unpack_4 : decode cX12_unpack 4 = .ok (.iload_n 1, 1) := by decide +kernel
theorem dX12_unpack_5 : decode cX12_unpack 5 = .ok (.invokevirtual 152, 3) := by decide +kernel
theorem dX12_unpack_8 : decode cX12_unpack 8 = .ok (.invokestatic 66, 3) := by decide +kernel
theorem dX12_unpack_11 : decode cX12_unpack 11 = .ok (.aload_n 0, 1) := by decide +kernel
theorem dX12_unpack_12 : decode cX12_unpack 12 = .ok (.getfield 51, 3) := by decide +kernel
theorem dX12_unpack_15 : decode cX12_unpack 15 = .ok (.aload_n 0, 1) := by decide +kernel
theorem dX12_unpack_16 : decode cX12_unpack 16 = .ok (.getfield 10, 3) := by decide +kernel
theorem dX12_unpack_19 : decode cX12_unpack 19 = .ok (.invokevirtual 70, 3) := by decide +kernel
theorem dX12_unpack_22 : decode cX12_unpack 22 = .ok (.aload_n 0, 1) := by decide +kernel
theorem dX12_unpack_23 : decode cX12_unpack 23 = .ok (.getfield 28, 3) := by decide +kernel
theorem dX12_unpack_26 : decode cX12_unpack 26 = .ok (.iload_n 1, 1) := by decide +kernel
theorem dX12_unpack_27 : decode cX12_unpack 27 = .ok (.invokevirtual 155, 3) := by decide +kernel
theorem dX12_unpack_30 : decode cX12_unpack 30 = .ok (.ireturn, 1) := by decide +kernel
def sX12_unpack (w : Wl) (l1 : Int32) : Option (Sum Int32 (Int32 × Wl)) := (sX1_ofUnpacking w l1).bind (fun r1 => tiw r1 ((sX7_keep w 1).bind (fun r3 => (sX4_unpackWork r3 l1).bind (fun r7 => some (Sum.inr (r7.1, r7.2))))))
theorem kX12_unpack {l : Launch} {Γ : Gl} {B : Bs} {w : Wl} {G : Gf} {sz : Nat} {l1 : Int32} {r : (Sum Int32 (Int32 × Wl))} (htr : l.stackTraces = false) (hC : GC Γ B) (hW : Wd Γ B w G) (h : sX12_unpack w l1 = some r) : CtX l Γ yX12_unpack cX12_unpack 2 (some .int) 7 [.ref (B.1 + 0), .int l1] G sz (fun v G' sz' => ∃ p, r = Sum.inr p ∧ WΨ Γ B (some (.int p.1)) p.2 sz v G' sz') (exq r) 1 6 := by
  refine CtX.of htr rfl (Nat.le_of_ble_eq_true rfl) fun X hx hr he hl hΓ hnm => ?_
  subst hl hΓ
  show J X 2 G sz 0 0 0 [some (.ref (B.1 + 0)), some (.int l1)] []
  unfold sX12_unpack at h
  refine J_al4 hx rfl rfl dX12_unpack_0 ?_
  refine g12_1 hx hW 73 (rfl : kd 0 = 1) fl_X12_21 rfl dX12_unpack_1 ?_
  refine J_il4 hx rfl rfl dX12_unpack_4 ?_
  obtain ⟨r1, hr2, h⟩ := bnd h
  refine J_rdV hx (kX1_ofUnpacking  hW hr2) ml_X12_152 lk_X1_ofUnpacking (ci := 0) rfl (hW.obj (rfl : kd 73 = 11) (by decide) (by decide)) (rest := []) rfl rfl (by decide) (by decide) (Nat.le_of_ble_eq_true rfl) (by decide) (by decide) dX12_unpack_5 ?_
  refine J_callXS hx he (kX12_throwIfWrong htr hC) ml_X12_66 lk_X12_throwIfWrong (rest := []) rfl rfl (by decide) (by decide) (Nat.le_of_ble_eq_true rfl) (by decide) (by decide) dX12_unpack_8 (tiw_x h) fun r1 G1 sz1 hh => ?_
  obtain ⟨hti, rfl, rfl, rfl⟩ := hh
  show J X 2 _ _ 1 6 11 [some (.ref (B.1 + 0)), some (.int l1)] []
  replace h := tiw_n h hti
  refine J_al4 hx rfl rfl dX12_unpack_11 ?_
  refine g12_5 hx hW 78 (rfl : kd 0 = 1) fl_X12_51 rfl dX12_unpack_12 ?_
  refine J_al4 hx rfl rfl dX12_unpack_15 ?_
  refine g12_0 hx hW 1 (rfl : kd 0 = 1) fl_X12_10 rfl dX12_unpack_16 ?_
  obtain ⟨r3, hr4, h⟩ := bnd h
  refine J_wrV hx (kX7_keep (rfl : kd 1 = 2) hW hr4) ml_X12_70 lk_X7_keep (ci := 6) rfl (hW.obj (rfl : kd 78 = 15) (by decide) (by decide)) (rest := []) rfl rfl (by decide) (by decide) (Nat.le_of_ble_eq_true rfl) (by decide) (by decide) dX12_unpack_19 fun G5 hW6 => ?_
  show J X 2 G5 _ 1 6 22 [some (.ref (B.1 + 0)), some (.int l1)] []
  refine J_al4 hx rfl rfl dX12_unpack_22 ?_
  refine g12_2 hx hW6 74 (rfl : kd 0 = 1) fl_X12_28 rfl dX12_unpack_23 ?_
  refine J_il4 hx rfl rfl dX12_unpack_26 ?_
  obtain ⟨r7, hr8, h⟩ := bnd h
  refine J_wrV hx (kX4_unpackWork  hW6 hr8) ml_X12_155 lk_X4_unpackWork (ci := 3) rfl (hW6.obj (rfl : kd 74 = 12) (by decide) (by decide)) (rest := []) rfl rfl (by decide) (by decide) (Nat.le_of_ble_eq_true rfl) (by decide) (by decide) dX12_unpack_27 fun G9 hW10 => ?_
  show J X 2 G9 _ 1 6 30 [some (.ref (B.1 + 0)), some (.int l1)] [.int r7.1]
  exact J_iret hx hr dX12_unpack_30 (by decide) (by decide) ⟨_, (Option.some.inj h).symm, rfl, hW10, rfl⟩
theorem dX12_send_0 : decode cX12_send 0 = .ok (.aload_n 0, 1) := by decide +kernel
theorem dX12_send_1 : decode cX12_send 1 = .ok (.getfield 21, 3) := by decide +kernel
theorem dX12_send_4 : decode cX12_send 4 = .ok (.iload_n 1, 1) := by decide +kernel
theorem dX12_send_5 : decode cX12_send 5 = .ok (.iload_n 2, 1) := by decide +kernel
theorem dX12_send_6 : decode cX12_send 6 = .ok (.iload_n 3, 1) := by decide +kernel
theorem dX12_send_7 : decode cX12_send 7 = .ok (.invokevirtual 158, 3) := by decide +kernel
theorem dX12_send_10 : decode cX12_send 10 = .ok (.invokestatic 66, 3) := by decide +kernel
theorem dX12_send_13 : decode cX12_send 13 = .ok (.aload_n 0, 1) := by decide +kernel
theorem dX12_send_14 : decode cX12_send 14 = .ok (.getfield 51, 3) := by decide +kernel
theorem dX12_send_17 : decode cX12_send 17 = .ok (.aload_n 0, 1) := by decide +kernel
theorem dX12_send_18 : decode cX12_send 18 = .ok (.getfield 10, 3) := by decide +kernel
theorem dX12_send_21 : decode cX12_send 21 = .ok (.invokevirtual 70, 3) := by decide +kernel
theorem dX12_send_24 : decode cX12_send 24 = .ok (.aload_n 0, 1) := by decide +kernel
theorem dX12_send_25 : decode cX12_send 25 = .ok (.getfield 28, 3) := by decide +kernel
theorem dX12_send_28 : decode cX12_send 28 = .ok (.iload_n 1, 1) := by decide +kernel
theorem dX12_send_29 : decode cX12_send 29 = .ok (.iload_n 2, 1) := by decide +kernel
theorem dX12_send_30 : decode cX12_send 30 = .ok (.iload_n 3, 1) := by decide +kernel
theorem dX12_send_31 : decode cX12_send 31 = .ok (.invokevirtual 161, 3) := by decide +kernel
theorem dX12_send_34 : decode cX12_send 34 = .ok (.ireturn, 1) := by decide +kernel
def sX12_send (w : Wl) (l1 : Int32) (l2 : Int32) (l3 : Int32) : Option (Sum Int32 (Int32 × Wl)) := (sX1_ofSending w l1 l2 l3).bind (fun r1 => tiw r1 ((sX7_keep w 1).bind (fun r3 => (sX4_sendCrate r3 l1 l2 l3).bind (fun r7 => some (Sum.inr (r7.1, r7.2))))))
theorem kX12_send {l : Launch} {Γ : Gl} {B : Bs} {w : Wl} {G : Gf} {sz : Nat} {l1 : Int32} {l2 : Int32} {l3 : Int32} {r : (Sum Int32 (Int32 × Wl))} (htr : l.stackTraces = false) (hC : GC Γ B) (hW : Wd Γ B w G) (h : sX12_send w l1 l2 l3 = some r) : CtX l Γ yX12_send cX12_send 4 (some .int) 7 [.ref (B.1 + 0), .int l1, .int l2, .int l3] G sz (fun v G' sz' => ∃ p, r = Sum.inr p ∧ WΨ Γ B (some (.int p.1)) p.2 sz v G' sz') (exq r) 1 6 := by
  refine CtX.of htr rfl (Nat.le_of_ble_eq_true rfl) fun X hx hr he hl hΓ hnm => ?_
  subst hl hΓ
  show J X 4 G sz 0 0 0 [some (.ref (B.1 + 0)), some (.int l1), some (.int l2), some (.int l3)] []
  unfold sX12_send at h
  refine J_al4 hx rfl rfl dX12_send_0 ?_
  refine g12_1 hx hW 73 (rfl : kd 0 = 1) fl_X12_21 rfl dX12_send_1 ?_
  refine J_il4 hx rfl rfl dX12_send_4 ?_
  refine J_il4 hx rfl rfl dX12_send_5 ?_
  refine J_il4 hx rfl rfl dX12_send_6 ?_
  obtain ⟨r1, hr2, h⟩ := bnd h
  refine J_rdV hx (kX1_ofSending  hW hr2) ml_X12_158 lk_X1_ofSending (ci := 0) rfl (hW.obj (rfl : kd 73 = 11) (by decide) (by decide)) (rest := []) rfl rfl (by decide) (by decide) (Nat.le_of_ble_eq_true rfl) (by decide) (by decide) dX12_send_7 ?_
  refine J_callXS hx he (kX12_throwIfWrong htr hC) ml_X12_66 lk_X12_throwIfWrong (rest := []) rfl rfl (by decide) (by decide) (Nat.le_of_ble_eq_true rfl) (by decide) (by decide) dX12_send_10 (tiw_x h) fun r1 G1 sz1 hh => ?_
  obtain ⟨hti, rfl, rfl, rfl⟩ := hh
  show J X 4 _ _ 1 6 13 [some (.ref (B.1 + 0)), some (.int l1), some (.int l2), some (.int l3)] []
  replace h := tiw_n h hti
  refine J_al4 hx rfl rfl dX12_send_13 ?_
  refine g12_5 hx hW 78 (rfl : kd 0 = 1) fl_X12_51 rfl dX12_send_14 ?_
  refine J_al4 hx rfl rfl dX12_send_17 ?_
  refine g12_0 hx hW 1 (rfl : kd 0 = 1) fl_X12_10 rfl dX12_send_18 ?_
  obtain ⟨r3, hr4, h⟩ := bnd h
  refine J_wrV hx (kX7_keep (rfl : kd 1 = 2) hW hr4) ml_X12_70 lk_X7_keep (ci := 6) rfl (hW.obj (rfl : kd 78 = 15) (by decide) (by decide)) (rest := []) rfl rfl (by decide) (by decide) (Nat.le_of_ble_eq_true rfl) (by decide) (by decide) dX12_send_21 fun G5 hW6 => ?_
  show J X 4 G5 _ 1 6 24 [some (.ref (B.1 + 0)), some (.int l1), some (.int l2), some (.int l3)] []
  refine J_al4 hx rfl rfl dX12_send_24 ?_
  refine g12_2 hx hW6 74 (rfl : kd 0 = 1) fl_X12_28 rfl dX12_send_25 ?_
  refine J_il4 hx rfl rfl dX12_send_28 ?_
  refine J_il4 hx rfl rfl dX12_send_29 ?_
  refine J_il4 hx rfl rfl dX12_send_30 ?_
  obtain ⟨r7, hr8, h⟩ := bnd h
  refine J_wrV hx (kX4_sendCrate  hW6 hr8) ml_X12_161 lk_X4_sendCrate (ci := 3) rfl (hW6.obj (rfl : kd 74 = 12) (by decide) (by decide)) (rest := []) rfl rfl (by decide) (by decide) (Nat.le_of_ble_eq_true rfl) (by decide) (by decide) dX12_send_31 fun G9 hW10 => ?_
  show J X 4 G9 _ 1 6 34 [some (.ref (B.1 + 0)), some (.int l1), some (.int l2), some (.int l3)] [.int r7.1]
  exact J_iret hx hr dX12_send_34 (by decide) (by decide) ⟨_, (Option.some.inj h).symm, rfl, hW10, rfl⟩
theorem dX12_advance_0 : decode cX12_advance 0 = .ok (.aload_n 0, 1) := by decide +kernel
theorem dX12_advance_1 : decode cX12_advance 1 = .ok (.getfield 21, 3) := by decide +kernel
theorem dX12_advance_4 : decode cX12_advance 4 = .ok (.iload_n 1, 1) := by decide +kernel
theorem dX12_advance_5 : decode cX12_advance 5 = .ok (.invokevirtual 164, 3) := by decide +kernel
theorem dX12_advance_8 : decode cX12_advance 8 = .ok (.invokestatic 66, 3) := by decide +kernel
theorem dX12_advance_11 : decode cX12_advance 11 = .ok (.aload_n 0, 1) := by decide +kernel
theorem dX12_advance_12 : decode cX12_advance 12 = .ok (.getfield 51, 3) := by decide +kernel
theorem dX12_advance_15 : decode cX12_advance 15 = .ok (.aload_n 0, 1) := by decide +kernel
theorem dX12_advance_16 : decode cX12_advance 16 = .ok (.getfield 10, 3) := by decide +kernel
theorem dX12_advance_19 : decode cX12_advance 19 = .ok (.invokevirtual 70, 3) := by decide +kernel
theorem dX12_advance_22 : decode cX12_advance 22 = .ok (.aload_n 0, 1) := by decide +kernel
theorem dX12_advance_23 : decode cX12_advance 23 = .ok (.getfield 28, 3) := by decide +kernel
theorem dX12_advance_26 : decode cX12_advance 26 = .ok (.iload_n 1, 1) := by decide +kernel
theorem dX12_advance_27 : decode cX12_advance 27 = .ok (.invokevirtual 167, 3) := by decide +kernel
theorem dX12_advance_30 : decode cX12_advance 30 = .ok (.ireturn, 1) := by decide +kernel
def sX12_advance (w : Wl) (l1 : Int32) : Option (Sum Int32 (Int32 × Wl)) := (sX1_ofWaiting w l1).bind (fun r1 => tiw r1 ((sX7_keep w 1).bind (fun r3 => (sX4_letHoursPass r3 l1).bind (fun r7 => some (Sum.inr (r7.1, r7.2))))))
theorem kX12_advance {l : Launch} {Γ : Gl} {B : Bs} {w : Wl} {G : Gf} {sz : Nat} {l1 : Int32} {r : (Sum Int32 (Int32 × Wl))} (htr : l.stackTraces = false) (hC : GC Γ B) (hW : Wd Γ B w G) (h : sX12_advance w l1 = some r) : CtX l Γ yX12_advance cX12_advance 2 (some .int) 7 [.ref (B.1 + 0), .int l1] G sz (fun v G' sz' => ∃ p, r = Sum.inr p ∧ WΨ Γ B (some (.int p.1)) p.2 sz v G' sz') (exq r) 1 6 := by
  refine CtX.of htr rfl (Nat.le_of_ble_eq_true rfl) fun X hx hr he hl hΓ hnm => ?_
  subst hl hΓ
  show J X 2 G sz 0 0 0 [some (.ref (B.1 + 0)), some (.int l1)] []
  unfold sX12_advance at h
  refine J_al4 hx rfl rfl dX12_advance_0 ?_
  refine g12_1 hx hW 73 (rfl : kd 0 = 1) fl_X12_21 rfl dX12_advance_1 ?_
  refine J_il4 hx rfl rfl dX12_advance_4 ?_
  obtain ⟨r1, hr2, h⟩ := bnd h
  refine J_rdV hx (kX1_ofWaiting  hW hr2) ml_X12_164 lk_X1_ofWaiting (ci := 0) rfl (hW.obj (rfl : kd 73 = 11) (by decide) (by decide)) (rest := []) rfl rfl (by decide) (by decide) (Nat.le_of_ble_eq_true rfl) (by decide) (by decide) dX12_advance_5 ?_
  refine J_callXS hx he (kX12_throwIfWrong htr hC) ml_X12_66 lk_X12_throwIfWrong (rest := []) rfl rfl (by decide) (by decide) (Nat.le_of_ble_eq_true rfl) (by decide) (by decide) dX12_advance_8 (tiw_x h) fun r1 G1 sz1 hh => ?_
  obtain ⟨hti, rfl, rfl, rfl⟩ := hh
  show J X 2 _ _ 1 6 11 [some (.ref (B.1 + 0)), some (.int l1)] []
  replace h := tiw_n h hti
  refine J_al4 hx rfl rfl dX12_advance_11 ?_
  refine g12_5 hx hW 78 (rfl : kd 0 = 1) fl_X12_51 rfl dX12_advance_12 ?_
  refine J_al4 hx rfl rfl dX12_advance_15 ?_
  refine g12_0 hx hW 1 (rfl : kd 0 = 1) fl_X12_10 rfl dX12_advance_16 ?_
  obtain ⟨r3, hr4, h⟩ := bnd h
  refine J_wrV hx (kX7_keep (rfl : kd 1 = 2) hW hr4) ml_X12_70 lk_X7_keep (ci := 6) rfl (hW.obj (rfl : kd 78 = 15) (by decide) (by decide)) (rest := []) rfl rfl (by decide) (by decide) (Nat.le_of_ble_eq_true rfl) (by decide) (by decide) dX12_advance_19 fun G5 hW6 => ?_
  show J X 2 G5 _ 1 6 22 [some (.ref (B.1 + 0)), some (.int l1)] []
  refine J_al4 hx rfl rfl dX12_advance_22 ?_
  refine g12_2 hx hW6 74 (rfl : kd 0 = 1) fl_X12_28 rfl dX12_advance_23 ?_
  refine J_il4 hx rfl rfl dX12_advance_26 ?_
  obtain ⟨r7, hr8, h⟩ := bnd h
  refine J_wrV hx (kX4_letHoursPass  hW6 hr8) ml_X12_167 lk_X4_letHoursPass (ci := 3) rfl (hW6.obj (rfl : kd 74 = 12) (by decide) (by decide)) (rest := []) rfl rfl (by decide) (by decide) (Nat.le_of_ble_eq_true rfl) (by decide) (by decide) dX12_advance_27 fun G9 hW10 => ?_
  show J X 2 G9 _ 1 6 30 [some (.ref (B.1 + 0)), some (.int l1)] [.int r7.1]
  exact J_iret hx hr dX12_advance_30 (by decide) (by decide) ⟨_, (Option.some.inj h).symm, rfl, hW10, rfl⟩
theorem dX12_refusal_0 : decode cX12_refusal 0 = .ok (.aload_n 0, 1) := by decide +kernel
theorem dX12_refusal_1 : decode cX12_refusal 1 = .ok (.getfield 21, 3) := by decide +kernel
theorem dX12_refusal_4 : decode cX12_refusal 4 = .ok (.iload_n 1, 1) := by decide +kernel
theorem dX12_refusal_5 : decode cX12_refusal 5 = .ok (.iload_n 2, 1) := by decide +kernel
theorem dX12_refusal_6 : decode cX12_refusal 6 = .ok (.iload_n 3, 1) := by decide +kernel
theorem dX12_refusal_7 : decode cX12_refusal 7 = .ok (.invokevirtual 170, 3) := by decide +kernel
theorem dX12_refusal_10 : decode cX12_refusal 10 = .ok (.invokestatic 66, 3) := by decide +kernel
theorem dX12_refusal_13 : decode cX12_refusal 13 = .ok (.aload_n 0, 1) := by decide +kernel
theorem dX12_refusal_14 : decode cX12_refusal 14 = .ok (.getfield 21, 3) := by decide +kernel
theorem dX12_refusal_17 : decode cX12_refusal 17 = .ok (.iload_n 1, 1) := by decide +kernel
theorem dX12_refusal_18 : decode cX12_refusal 18 = .ok (.iload_n 2, 1) := by decide +kernel
theorem dX12_refusal_19 : decode cX12_refusal 19 = .ok (.iload_n 3, 1) := by decide +kernel
theorem dX12_refusal_20 : decode cX12_refusal 20 = .ok (.invokevirtual 173, 3) := by decide +kernel
theorem dX12_refusal_23 : decode cX12_refusal 23 = .ok (.ireturn, 1) := by decide +kernel
def sX12_refusal (w : Wl) (l1 : Int32) (l2 : Int32) (l3 : Int32) : Option (Sum Int32 Int32) := (sX1_ofLeg w l1 l2 l3).bind (fun r1 => tiw r1 ((sX1_reasonAgainst w l1 l2 l3).bind (fun r3 => some (Sum.inr r3))))
theorem kX12_refusal {l : Launch} {Γ : Gl} {B : Bs} {w : Wl} {G : Gf} {sz : Nat} {l1 : Int32} {l2 : Int32} {l3 : Int32} {r : (Sum Int32 Int32)} (htr : l.stackTraces = false) (hC : GC Γ B) (hW : Wd Γ B w G) (h : sX12_refusal w l1 l2 l3 = some r) : CtX l Γ yX12_refusal cX12_refusal 4 (some .int) 7 [.ref (B.1 + 0), .int l1, .int l2, .int l3] G sz (fun v G' sz' => ∃ p, r = Sum.inr p ∧ RdΨ (.int p) G sz v G' sz') (exq r) 1 6 := by
  refine CtX.of htr rfl (Nat.le_of_ble_eq_true rfl) fun X hx hr he hl hΓ hnm => ?_
  subst hl hΓ
  show J X 4 G sz 0 0 0 [some (.ref (B.1 + 0)), some (.int l1), some (.int l2), some (.int l3)] []
  unfold sX12_refusal at h
  refine J_al4 hx rfl rfl dX12_refusal_0 ?_
  refine g12_1 hx hW 73 (rfl : kd 0 = 1) fl_X12_21 rfl dX12_refusal_1 ?_
  refine J_il4 hx rfl rfl dX12_refusal_4 ?_
  refine J_il4 hx rfl rfl dX12_refusal_5 ?_
  refine J_il4 hx rfl rfl dX12_refusal_6 ?_
  obtain ⟨r1, hr2, h⟩ := bnd h
  refine J_rdV hx (kX1_ofLeg  hW hr2) ml_X12_170 lk_X1_ofLeg (ci := 0) rfl (hW.obj (rfl : kd 73 = 11) (by decide) (by decide)) (rest := []) rfl rfl (by decide) (by decide) (Nat.le_of_ble_eq_true rfl) (by decide) (by decide) dX12_refusal_7 ?_
  refine J_callXS hx he (kX12_throwIfWrong htr hC) ml_X12_66 lk_X12_throwIfWrong (rest := []) rfl rfl (by decide) (by decide) (Nat.le_of_ble_eq_true rfl) (by decide) (by decide) dX12_refusal_10 (tiw_x h) fun r1 G1 sz1 hh => ?_
  obtain ⟨hti, rfl, rfl, rfl⟩ := hh
  show J X 4 _ _ 1 6 13 [some (.ref (B.1 + 0)), some (.int l1), some (.int l2), some (.int l3)] []
  replace h := tiw_n h hti
  refine J_al4 hx rfl rfl dX12_refusal_13 ?_
  refine g12_1 hx hW 73 (rfl : kd 0 = 1) fl_X12_21 rfl dX12_refusal_14 ?_
  refine J_il4 hx rfl rfl dX12_refusal_17 ?_
  refine J_il4 hx rfl rfl dX12_refusal_18 ?_
  refine J_il4 hx rfl rfl dX12_refusal_19 ?_
  obtain ⟨r3, hr4, h⟩ := bnd h
  refine J_rdV hx (kX1_reasonAgainst  hW hr4) ml_X12_173 lk_X1_reasonAgainst (ci := 0) rfl (hW.obj (rfl : kd 73 = 11) (by decide) (by decide)) (rest := []) rfl rfl (by decide) (by decide) (Nat.le_of_ble_eq_true rfl) (by decide) (by decide) dX12_refusal_20 ?_
  exact J_iret hx hr dX12_refusal_23 (by decide) (by decide) ⟨_, (Option.some.inj h).symm, rfl, rfl, rfl⟩
theorem dX12_crate_0 : decode cX12_crate 0 = .ok (.aload_n 0, 1) := by decide +kernel
theorem dX12_crate_1 : decode cX12_crate 1 = .ok (.getfield 21, 3) := by decide +kernel
theorem dX12_crate_4 : decode cX12_crate 4 = .ok (.aload_n 0, 1) := by decide +kernel
theorem dX12_crate_5 : decode cX12_crate 5 = .ok (.getfield 10, 3) := by decide +kernel
theorem dX12_crate_8 : decode cX12_crate 8 = .ok (.iload_n 1, 1) := by decide +kernel
theorem dX12_crate_9 : decode cX12_crate 9 = .ok (.invokevirtual 176, 3) := by decide +kernel
theorem dX12_crate_12 : decode cX12_crate 12 = .ok (.iload_n 2, 1) := by decide +kernel
theorem dX12_crate_13 : decode cX12_crate 13 = .ok (.bipush 14, 2) := by decide +kernel
theorem dX12_crate_15 : decode cX12_crate 15 = .ok (.invokevirtual 180, 3) := by decide +kernel
theorem dX12_crate_18 : decode cX12_crate 18 = .ok (.invokestatic 66, 3) := by decide +kernel
theorem dX12_crate_21 : decode cX12_crate 21 = .ok (.aload_n 0, 1) := by decide +kernel
theorem dX12_crate_22 : decode cX12_crate 22 = .ok (.getfield 35, 3) := by decide +kernel
theorem dX12_crate_25 : decode cX12_crate 25 = .ok (.iload_n 1, 1) := by decide +kernel
theorem dX12_crate_26 : decode cX12_crate 26 = .ok (.iload_n 2, 1) := by decide +kernel
theorem dX12_crate_27 : decode cX12_crate 27 = .ok (.invokevirtual 184, 3) := by decide +kernel
theorem dX12_crate_30 : decode cX12_crate 30 = .ok (.ireturn, 1) := by decide +kernel
def sX12_crate (w : Wl) (l1 : Int32) (l2 : Int32) : Option (Sum Int32 Int32) := (sX6_hasCrate w l1).bind (fun r1 => (sX1_ofValue w (bI r1) l2 (14 : Int32)).bind (fun r3 => tiw r3 ((sX8_ofCrate w l1 l2).bind (fun r5 => some (Sum.inr r5)))))
theorem kX12_crate {l : Launch} {Γ : Gl} {B : Bs} {w : Wl} {G : Gf} {sz : Nat} {l1 : Int32} {l2 : Int32} {r : (Sum Int32 Int32)} (htr : l.stackTraces = false) (hC : GC Γ B) (hW : Wd Γ B w G) (h : sX12_crate w l1 l2 = some r) : CtX l Γ yX12_crate cX12_crate 3 (some .int) 7 [.ref (B.1 + 0), .int l1, .int l2] G sz (fun v G' sz' => ∃ p, r = Sum.inr p ∧ RdΨ (.int p) G sz v G' sz') (exq r) 1 6 := by
  refine CtX.of htr rfl (Nat.le_of_ble_eq_true rfl) fun X hx hr he hl hΓ hnm => ?_
  subst hl hΓ
  show J X 3 G sz 0 0 0 [some (.ref (B.1 + 0)), some (.int l1), some (.int l2)] []
  unfold sX12_crate at h
  refine J_al4 hx rfl rfl dX12_crate_0 ?_
  refine g12_1 hx hW 73 (rfl : kd 0 = 1) fl_X12_21 rfl dX12_crate_1 ?_
  refine J_al4 hx rfl rfl dX12_crate_4 ?_
  refine g12_0 hx hW 1 (rfl : kd 0 = 1) fl_X12_10 rfl dX12_crate_5 ?_
  refine J_il4 hx rfl rfl dX12_crate_8 ?_
  obtain ⟨r1, hr2, h⟩ := bnd h
  refine J_rdV hx (kX6_hasCrate  hW hr2) ml_X12_176 lk_X6_hasCrate (ci := 5) rfl (hW.obj (rfl : kd 1 = 2) (by decide) (by decide)) (rest := [.ref (B.1 + 73)]) rfl rfl (by decide) (by decide) (Nat.le_of_ble_eq_true rfl) (by decide) (by decide) dX12_crate_9 ?_
  refine J_il4 hx rfl rfl dX12_crate_12 ?_
  refine J_bipush hx (14 : Int32) dX12_crate_13 rfl ?_
  obtain ⟨r3, hr4, h⟩ := bnd h
  refine J_rdV hx (kX1_ofValue  hW hr4) ml_X12_180 lk_X1_ofValue (ci := 0) rfl (hW.obj (rfl : kd 73 = 11) (by decide) (by decide)) (rest := []) rfl rfl (by decide) (by decide) (Nat.le_of_ble_eq_true rfl) (by decide) (by decide) dX12_crate_15 ?_
  refine J_callXS hx he (kX12_throwIfWrong htr hC) ml_X12_66 lk_X12_throwIfWrong (rest := []) rfl rfl (by decide) (by decide) (Nat.le_of_ble_eq_true rfl) (by decide) (by decide) dX12_crate_18 (tiw_x h) fun r1 G1 sz1 hh => ?_
  obtain ⟨hti, rfl, rfl, rfl⟩ := hh
  show J X 3 _ _ 1 6 21 [some (.ref (B.1 + 0)), some (.int l1), some (.int l2)] []
  replace h := tiw_n h hti
  refine J_al4 hx rfl rfl dX12_crate_21 ?_
  refine g12_3 hx hW 75 (rfl : kd 0 = 1) fl_X12_35 rfl dX12_crate_22 ?_
  refine J_il4 hx rfl rfl dX12_crate_25 ?_
  refine J_il4 hx rfl rfl dX12_crate_26 ?_
  obtain ⟨r5, hr6, h⟩ := bnd h
  refine J_rdV hx (kX8_ofCrate  hW hr6) ml_X12_184 lk_X8_ofCrate (ci := 7) rfl (hW.obj (rfl : kd 75 = 13) (by decide) (by decide)) (rest := []) rfl rfl (by decide) (by decide) (Nat.le_of_ble_eq_true rfl) (by decide) (by decide) dX12_crate_27 ?_
  exact J_iret hx hr dX12_crate_30 (by decide) (by decide) ⟨_, (Option.some.inj h).symm, rfl, rfl, rfl⟩
theorem dX12_work_0 : decode cX12_work 0 = .ok (.aload_n 0, 1) := by decide +kernel
theorem dX12_work_1 : decode cX12_work 1 = .ok (.getfield 21, 3) := by decide +kernel
theorem dX12_work_4 : decode cX12_work 4 = .ok (.aload_n 0, 1) := by decide +kernel
theorem dX12_work_5 : decode cX12_work 5 = .ok (.getfield 10, 3) := by decide +kernel
theorem dX12_work_8 : decode cX12_work 8 = .ok (.iload_n 1, 1) := by decide +kernel
theorem dX12_work_9 : decode cX12_work 9 = .ok (.invokevirtual 187, 3) := by decide +kernel
theorem dX12_work_12 : decode cX12_work 12 = .ok (.iload_n 2, 1) := by decide +kernel
theorem dX12_work_13 : decode cX12_work 13 = .ok (.bipush 8, 2) := by decide +kernel
theorem dX12_work_15 : decode cX12_work 15 = .ok (.invokevirtual 180, 3) := by decide +kernel
theorem dX12_work_18 : decode cX12_work 18 = .ok (.invokestatic 66, 3) := by decide +kernel
theorem dX12_work_21 : decode cX12_work 21 = .ok (.aload_n 0, 1) := by decide +kernel
theorem dX12_work_22 : decode cX12_work 22 = .ok (.getfield 35, 3) := by decide +kernel
theorem dX12_work_25 : decode cX12_work 25 = .ok (.iload_n 1, 1) := by decide +kernel
theorem dX12_work_26 : decode cX12_work 26 = .ok (.iload_n 2, 1) := by decide +kernel
theorem dX12_work_27 : decode cX12_work 27 = .ok (.invokevirtual 190, 3) := by decide +kernel
theorem dX12_work_30 : decode cX12_work 30 = .ok (.ireturn, 1) := by decide +kernel
def sX12_work (w : Wl) (l1 : Int32) (l2 : Int32) : Option (Sum Int32 Int32) := (sX6_hasWork w l1).bind (fun r1 => (sX1_ofValue w (bI r1) l2 (8 : Int32)).bind (fun r3 => tiw r3 ((sX8_ofWork w l1 l2).bind (fun r5 => some (Sum.inr r5)))))
theorem kX12_work {l : Launch} {Γ : Gl} {B : Bs} {w : Wl} {G : Gf} {sz : Nat} {l1 : Int32} {l2 : Int32} {r : (Sum Int32 Int32)} (htr : l.stackTraces = false) (hC : GC Γ B) (hW : Wd Γ B w G) (h : sX12_work w l1 l2 = some r) : CtX l Γ yX12_work cX12_work 3 (some .int) 7 [.ref (B.1 + 0), .int l1, .int l2] G sz (fun v G' sz' => ∃ p, r = Sum.inr p ∧ RdΨ (.int p) G sz v G' sz') (exq r) 1 6 := by
  refine CtX.of htr rfl (Nat.le_of_ble_eq_true rfl) fun X hx hr he hl hΓ hnm => ?_
  subst hl hΓ
  show J X 3 G sz 0 0 0 [some (.ref (B.1 + 0)), some (.int l1), some (.int l2)] []
  unfold sX12_work at h
  refine J_al4 hx rfl rfl dX12_work_0 ?_
  refine g12_1 hx hW 73 (rfl : kd 0 = 1) fl_X12_21 rfl dX12_work_1 ?_
  refine J_al4 hx rfl rfl dX12_work_4 ?_
  refine g12_0 hx hW 1 (rfl : kd 0 = 1) fl_X12_10 rfl dX12_work_5 ?_
  refine J_il4 hx rfl rfl dX12_work_8 ?_
  obtain ⟨r1, hr2, h⟩ := bnd h
  refine J_rdV hx (kX6_hasWork  hW hr2) ml_X12_187 lk_X6_hasWork (ci := 5) rfl (hW.obj (rfl : kd 1 = 2) (by decide) (by decide)) (rest := [.ref (B.1 + 73)]) rfl rfl (by decide) (by decide) (Nat.le_of_ble_eq_true rfl) (by decide) (by decide) dX12_work_9 ?_
  refine J_il4 hx rfl rfl dX12_work_12 ?_
  refine J_bipush hx (8 : Int32) dX12_work_13 rfl ?_
  obtain ⟨r3, hr4, h⟩ := bnd h
  refine J_rdV hx (kX1_ofValue  hW hr4) ml_X12_180 lk_X1_ofValue (ci := 0) rfl (hW.obj (rfl : kd 73 = 11) (by decide) (by decide)) (rest := []) rfl rfl (by decide) (by decide) (Nat.le_of_ble_eq_true rfl) (by decide) (by decide) dX12_work_15 ?_
  refine J_callXS hx he (kX12_throwIfWrong htr hC) ml_X12_66 lk_X12_throwIfWrong (rest := []) rfl rfl (by decide) (by decide) (Nat.le_of_ble_eq_true rfl) (by decide) (by decide) dX12_work_18 (tiw_x h) fun r1 G1 sz1 hh => ?_
  obtain ⟨hti, rfl, rfl, rfl⟩ := hh
  show J X 3 _ _ 1 6 21 [some (.ref (B.1 + 0)), some (.int l1), some (.int l2)] []
  replace h := tiw_n h hti
  refine J_al4 hx rfl rfl dX12_work_21 ?_
  refine g12_3 hx hW 75 (rfl : kd 0 = 1) fl_X12_35 rfl dX12_work_22 ?_
  refine J_il4 hx rfl rfl dX12_work_25 ?_
  refine J_il4 hx rfl rfl dX12_work_26 ?_
  obtain ⟨r5, hr6, h⟩ := bnd h
  refine J_rdV hx (kX8_ofWork  hW hr6) ml_X12_190 lk_X8_ofWork (ci := 7) rfl (hW.obj (rfl : kd 75 = 13) (by decide) (by decide)) (rest := []) rfl rfl (by decide) (by decide) (Nat.le_of_ble_eq_true rfl) (by decide) (by decide) dX12_work_27 ?_
  exact J_iret hx hr dX12_work_30 (by decide) (by decide) ⟨_, (Option.some.inj h).symm, rfl, rfl, rfl⟩
theorem dX12_noted_0 : decode cX12_noted 0 = .ok (.aload_n 0, 1) := by decide +kernel
theorem dX12_noted_1 : decode cX12_noted 1 = .ok (.getfield 21, 3) := by decide +kernel
theorem dX12_noted_4 : decode cX12_noted 4 = .ok (.iload_n 1, 1) := by decide +kernel
theorem dX12_noted_5 : decode cX12_noted 5 = .ok (.iload_n 2, 1) := by decide +kernel
theorem dX12_noted_6 : decode cX12_noted 6 = .ok (.invokevirtual 193, 3) := by decide +kernel
theorem dX12_noted_9 : decode cX12_noted 9 = .ok (.invokestatic 66, 3) := by decide +kernel
theorem dX12_noted_12 : decode cX12_noted 12 = .ok (.aload_n 0, 1) := by decide +kernel
theorem dX12_noted_13 : decode cX12_noted 13 = .ok (.getfield 10, 3) := by decide +kernel
theorem dX12_noted_16 : decode cX12_noted 16 = .ok (.getfield 196, 3) := by decide +kernel
theorem dX12_noted_19 : decode cX12_noted 19 = .ok (.iload_n 1, 1) := by decide +kernel
theorem dX12_noted_20 : decode cX12_noted 20 = .ok (.aaload, 1) := by decide +kernel
theorem dX12_noted_21 : decode cX12_noted 21 = .ok (.iload_n 2, 1) := by decide +kernel
theorem dX12_noted_22 : decode cX12_noted 22 = .ok (.invokevirtual 200, 3) := by decide +kernel
theorem dX12_noted_25 : decode cX12_noted 25 = .ok (.ireturn, 1) := by decide +kernel
def sX12_noted (w : Wl) (l1 : Int32) (l2 : Int32) : Option (Sum Int32 Int32) := (sX1_ofNoted w l1 l2).bind (fun r1 => tiw r1 ((idx l1 16).bind (fun c3 => (sX11_placeNoted w (41 + 2 * c3) l2).bind (fun r6 => some (Sum.inr r6)))))
theorem kX12_noted {l : Launch} {Γ : Gl} {B : Bs} {w : Wl} {G : Gf} {sz : Nat} {l1 : Int32} {l2 : Int32} {r : (Sum Int32 Int32)} (htr : l.stackTraces = false) (hC : GC Γ B) (hW : Wd Γ B w G) (h : sX12_noted w l1 l2 = some r) : CtX l Γ yX12_noted cX12_noted 3 (some .int) 7 [.ref (B.1 + 0), .int l1, .int l2] G sz (fun v G' sz' => ∃ p, r = Sum.inr p ∧ RdΨ (.int p) G sz v G' sz') (exq r) 1 6 := by
  refine CtX.of htr rfl (Nat.le_of_ble_eq_true rfl) fun X hx hr he hl hΓ hnm => ?_
  subst hl hΓ
  show J X 3 G sz 0 0 0 [some (.ref (B.1 + 0)), some (.int l1), some (.int l2)] []
  unfold sX12_noted at h
  refine J_al4 hx rfl rfl dX12_noted_0 ?_
  refine g12_1 hx hW 73 (rfl : kd 0 = 1) fl_X12_21 rfl dX12_noted_1 ?_
  refine J_il4 hx rfl rfl dX12_noted_4 ?_
  refine J_il4 hx rfl rfl dX12_noted_5 ?_
  obtain ⟨r1, hr2, h⟩ := bnd h
  refine J_rdV hx (kX1_ofNoted  hW hr2) ml_X12_193 lk_X1_ofNoted (ci := 0) rfl (hW.obj (rfl : kd 73 = 11) (by decide) (by decide)) (rest := []) rfl rfl (by decide) (by decide) (Nat.le_of_ble_eq_true rfl) (by decide) (by decide) dX12_noted_6 ?_
  refine J_callXS hx he (kX12_throwIfWrong htr hC) ml_X12_66 lk_X12_throwIfWrong (rest := []) rfl rfl (by decide) (by decide) (Nat.le_of_ble_eq_true rfl) (by decide) (by decide) dX12_noted_9 (tiw_x h) fun r1 G1 sz1 hh => ?_
  obtain ⟨hti, rfl, rfl, rfl⟩ := hh
  show J X 3 _ _ 1 6 12 [some (.ref (B.1 + 0)), some (.int l1), some (.int l2)] []
  replace h := tiw_n h hti
  refine J_al4 hx rfl rfl dX12_noted_12 ?_
  refine g12_0 hx hW 1 (rfl : kd 0 = 1) fl_X12_10 rfl dX12_noted_13 ?_
  refine g6_11 hx hW 4 (rfl : kd 1 = 2) fl_X12_196 rfl dX12_noted_16 ?_
  refine J_il4 hx rfl rfl dX12_noted_19 ?_
  obtain ⟨c3, hc4, h⟩ := bnd h
  refine J_a5 hx hW (41 + 2 * c3) (rfl : kd 4 = 5) hc4 rfl dX12_noted_20 fun hk5 => ?_
  refine J_il4 hx rfl rfl dX12_noted_21 ?_
  obtain ⟨r6, hr7, h⟩ := bnd h
  refine J_rdV hx (kX11_placeNoted hk5 hW hr7) ml_X12_200 lk_X11_placeNoted (ci := 9) rfl (hW.obj hk5 (by decide) (by decide)) (rest := []) rfl rfl (by decide) (by decide) (Nat.le_of_ble_eq_true rfl) (by decide) (by decide) dX12_noted_22 ?_
  exact J_iret hx hr dX12_noted_25 (by decide) (by decide) ⟨_, (Option.some.inj h).symm, rfl, rfl, rfl⟩
theorem dX12_venue_0 : decode cX12_venue 0 = .ok (.aload_n 0, 1) := by decide +kernel
theorem dX12_venue_1 : decode cX12_venue 1 = .ok (.getfield 21, 3) := by decide +kernel
theorem dX12_venue_4 : decode cX12_venue 4 = .ok (.aload_n 0, 1) := by decide +kernel
theorem dX12_venue_5 : decode cX12_venue 5 = .ok (.getfield 10, 3) := by decide +kernel
theorem dX12_venue_8 : decode cX12_venue 8 = .ok (.iload_n 1, 1) := by decide +kernel
theorem dX12_venue_9 : decode cX12_venue 9 = .ok (.invokevirtual 205, 3) := by decide +kernel
theorem dX12_venue_12 : decode cX12_venue 12 = .ok (.iload_n 2, 1) := by decide +kernel
theorem dX12_venue_13 : decode cX12_venue 13 = .ok (.bipush 9, 2) := by decide +kernel
theorem dX12_venue_15 : decode cX12_venue 15 = .ok (.invokevirtual 180, 3) := by decide +kernel
theorem dX12_venue_18 : decode cX12_venue 18 = .ok (.invokestatic 66, 3) := by decide +kernel
theorem dX12_venue_21 : decode cX12_venue 21 = .ok (.aload_n 0, 1) := by decide +kernel
theorem dX12_venue_22 : decode cX12_venue 22 = .ok (.getfield 35, 3) := by decide +kernel
theorem dX12_venue_25 : decode cX12_venue 25 = .ok (.iload_n 1, 1) := by decide +kernel
theorem dX12_venue_26 : decode cX12_venue 26 = .ok (.iload_n 2, 1) := by decide +kernel
theorem dX12_venue_27 : decode cX12_venue 27 = .ok (.invokevirtual 208, 3) := by decide +kernel
theorem dX12_venue_30 : decode cX12_venue 30 = .ok (.ireturn, 1) := by decide +kernel
def sX12_venue (w : Wl) (l1 : Int32) (l2 : Int32) : Option (Sum Int32 Int32) := (sX6_hasVenue w l1).bind (fun r1 => (sX1_ofValue w (bI r1) l2 (9 : Int32)).bind (fun r3 => tiw r3 ((sX8_ofVenue w l1 l2).bind (fun r5 => some (Sum.inr r5)))))
theorem kX12_venue {l : Launch} {Γ : Gl} {B : Bs} {w : Wl} {G : Gf} {sz : Nat} {l1 : Int32} {l2 : Int32} {r : (Sum Int32 Int32)} (htr : l.stackTraces = false) (hC : GC Γ B) (hW : Wd Γ B w G) (h : sX12_venue w l1 l2 = some r) : CtX l Γ yX12_venue cX12_venue 3 (some .int) 7 [.ref (B.1 + 0), .int l1, .int l2] G sz (fun v G' sz' => ∃ p, r = Sum.inr p ∧ RdΨ (.int p) G sz v G' sz') (exq r) 1 6 := by
  refine CtX.of htr rfl (Nat.le_of_ble_eq_true rfl) fun X hx hr he hl hΓ hnm => ?_
  subst hl hΓ
  show J X 3 G sz 0 0 0 [some (.ref (B.1 + 0)), some (.int l1), some (.int l2)] []
  unfold sX12_venue at h
  refine J_al4 hx rfl rfl dX12_venue_0 ?_
  refine g12_1 hx hW 73 (rfl : kd 0 = 1) fl_X12_21 rfl dX12_venue_1 ?_
  refine J_al4 hx rfl rfl dX12_venue_4 ?_
  refine g12_0 hx hW 1 (rfl : kd 0 = 1) fl_X12_10 rfl dX12_venue_5 ?_
  refine J_il4 hx rfl rfl dX12_venue_8 ?_
  obtain ⟨r1, hr2, h⟩ := bnd h
  refine J_rdV hx (kX6_hasVenue  hW hr2) ml_X12_205 lk_X6_hasVenue (ci := 5) rfl (hW.obj (rfl : kd 1 = 2) (by decide) (by decide)) (rest := [.ref (B.1 + 73)]) rfl rfl (by decide) (by decide) (Nat.le_of_ble_eq_true rfl) (by decide) (by decide) dX12_venue_9 ?_
  refine J_il4 hx rfl rfl dX12_venue_12 ?_
  refine J_bipush hx (9 : Int32) dX12_venue_13 rfl ?_
  obtain ⟨r3, hr4, h⟩ := bnd h
  refine J_rdV hx (kX1_ofValue  hW hr4) ml_X12_180 lk_X1_ofValue (ci := 0) rfl (hW.obj (rfl : kd 73 = 11) (by decide) (by decide)) (rest := []) rfl rfl (by decide) (by decide) (Nat.le_of_ble_eq_true rfl) (by decide) (by decide) dX12_venue_15 ?_
  refine J_callXS hx he (kX12_throwIfWrong htr hC) ml_X12_66 lk_X12_throwIfWrong (rest := []) rfl rfl (by decide) (by decide) (Nat.le_of_ble_eq_true rfl) (by decide) (by decide) dX12_venue_18 (tiw_x h) fun r1 G1 sz1 hh => ?_
  obtain ⟨hti, rfl, rfl, rfl⟩ := hh
  show J X 3 _ _ 1 6 21 [some (.ref (B.1 + 0)), some (.int l1), some (.int l2)] []
  replace h := tiw_n h hti
  refine J_al4 hx rfl rfl dX12_venue_21 ?_
  refine g12_3 hx hW 75 (rfl : kd 0 = 1) fl_X12_35 rfl dX12_venue_22 ?_
  refine J_il4 hx rfl rfl dX12_venue_25 ?_
  refine J_il4 hx rfl rfl dX12_venue_26 ?_
  obtain ⟨r5, hr6, h⟩ := bnd h
  refine J_rdV hx (kX8_ofVenue  hW hr6) ml_X12_208 lk_X8_ofVenue (ci := 7) rfl (hW.obj (rfl : kd 75 = 13) (by decide) (by decide)) (rest := []) rfl rfl (by decide) (by decide) (Nat.le_of_ble_eq_true rfl) (by decide) (by decide) dX12_venue_27 ?_
  exact J_iret hx hr dX12_venue_30 (by decide) (by decide) ⟨_, (Option.some.inj h).symm, rfl, rfl, rfl⟩
theorem dX12_courier_0 : decode cX12_courier 0 = .ok (.aload_n 0, 1) := by decide +kernel
theorem dX12_courier_1 : decode cX12_courier 1 = .ok (.getfield 21, 3) := by decide +kernel
theorem dX12_courier_4 : decode cX12_courier 4 = .ok (.aload_n 0, 1) := by decide +kernel
theorem dX12_courier_5 : decode cX12_courier 5 = .ok (.getfield 10, 3) := by decide +kernel
theorem dX12_courier_8 : decode cX12_courier 8 = .ok (.iload_n 1, 1) := by decide +kernel
theorem dX12_courier_9 : decode cX12_courier 9 = .ok (.invokevirtual 211, 3) := by decide +kernel
theorem dX12_courier_12 : decode cX12_courier 12 = .ok (.invokevirtual 214, 3) := by decide +kernel
theorem dX12_courier_15 : decode cX12_courier 15 = .ok (.invokestatic 66, 3) := by decide +kernel
theorem dX12_courier_18 : decode cX12_courier 18 = .ok (.aload_n 0, 1) := by decide +kernel
theorem dX12_courier_19 : decode cX12_courier 19 = .ok (.getfield 10, 3) := by decide +kernel
theorem dX12_courier_22 : decode cX12_courier 22 = .ok (.getfield 218, 3) := by decide +kernel
theorem dX12_courier_25 : decode cX12_courier 25 = .ok (.iload_n 1, 1) := by decide +kernel
theorem dX12_courier_26 : decode cX12_courier 26 = .ok (.iaload, 1) := by decide +kernel
theorem dX12_courier_27 : decode cX12_courier 27 = .ok (.ireturn, 1) := by decide +kernel
def sX12_courier (w : Wl) (l1 : Int32) : Option (Sum Int32 Int32) := (sX6_hasCourier w l1).bind (fun r1 => (sX1_ofNumber w (bI r1)).bind (fun r3 => tiw r3 ((idx l1 4).bind (fun c5 => some (Sum.inr (w 5 c5))))))
theorem kX12_courier {l : Launch} {Γ : Gl} {B : Bs} {w : Wl} {G : Gf} {sz : Nat} {l1 : Int32} {r : (Sum Int32 Int32)} (htr : l.stackTraces = false) (hC : GC Γ B) (hW : Wd Γ B w G) (h : sX12_courier w l1 = some r) : CtX l Γ yX12_courier cX12_courier 2 (some .int) 7 [.ref (B.1 + 0), .int l1] G sz (fun v G' sz' => ∃ p, r = Sum.inr p ∧ RdΨ (.int p) G sz v G' sz') (exq r) 1 6 := by
  refine CtX.of htr rfl (Nat.le_of_ble_eq_true rfl) fun X hx hr he hl hΓ hnm => ?_
  subst hl hΓ
  show J X 2 G sz 0 0 0 [some (.ref (B.1 + 0)), some (.int l1)] []
  unfold sX12_courier at h
  refine J_al4 hx rfl rfl dX12_courier_0 ?_
  refine g12_1 hx hW 73 (rfl : kd 0 = 1) fl_X12_21 rfl dX12_courier_1 ?_
  refine J_al4 hx rfl rfl dX12_courier_4 ?_
  refine g12_0 hx hW 1 (rfl : kd 0 = 1) fl_X12_10 rfl dX12_courier_5 ?_
  refine J_il4 hx rfl rfl dX12_courier_8 ?_
  obtain ⟨r1, hr2, h⟩ := bnd h
  refine J_rdV hx (kX6_hasCourier  hW hr2) ml_X12_211 lk_X6_hasCourier (ci := 5) rfl (hW.obj (rfl : kd 1 = 2) (by decide) (by decide)) (rest := [.ref (B.1 + 73)]) rfl rfl (by decide) (by decide) (Nat.le_of_ble_eq_true rfl) (by decide) (by decide) dX12_courier_9 ?_
  obtain ⟨r3, hr4, h⟩ := bnd h
  refine J_rdV hx (kX1_ofNumber  hW hr4) ml_X12_214 lk_X1_ofNumber (ci := 0) rfl (hW.obj (rfl : kd 73 = 11) (by decide) (by decide)) (rest := []) rfl rfl (by decide) (by decide) (Nat.le_of_ble_eq_true rfl) (by decide) (by decide) dX12_courier_12 ?_
  refine J_callXS hx he (kX12_throwIfWrong htr hC) ml_X12_66 lk_X12_throwIfWrong (rest := []) rfl rfl (by decide) (by decide) (Nat.le_of_ble_eq_true rfl) (by decide) (by decide) dX12_courier_15 (tiw_x h) fun r1 G1 sz1 hh => ?_
  obtain ⟨hti, rfl, rfl, rfl⟩ := hh
  show J X 2 _ _ 1 6 18 [some (.ref (B.1 + 0)), some (.int l1)] []
  replace h := tiw_n h hti
  refine J_al4 hx rfl rfl dX12_courier_18 ?_
  refine g12_0 hx hW 1 (rfl : kd 0 = 1) fl_X12_10 rfl dX12_courier_19 ?_
  refine g6_12 hx hW 5 (rfl : kd 1 = 2) fl_X12_218 rfl dX12_courier_22 ?_
  refine J_il4 hx rfl rfl dX12_courier_25 ?_
  obtain ⟨c5, hc6, h⟩ := bnd h
  refine J_iaW hx hW (rfl : kd 5 = 104) hc6 dX12_courier_26 ?_
  exact J_iret hx hr dX12_courier_27 (by decide) (by decide) ⟨_, (Option.some.inj h).symm, rfl, rfl, rfl⟩
theorem dX12_whole_0 : decode cX12_whole 0 = .ok (.aload_n 0, 1) := by decide +kernel
theorem dX12_whole_1 : decode cX12_whole 1 = .ok (.getfield 21, 3) := by decide +kernel
theorem dX12_whole_4 : decode cX12_whole 4 = .ok (.iconst 1, 1) := by decide +kernel
theorem dX12_whole_5 : decode cX12_whole 5 = .ok (.iload_n 1, 1) := by decide +kernel
theorem dX12_whole_6 : decode cX12_whole 6 = .ok (.bipush 10, 2) := by decide +kernel
theorem dX12_whole_8 : decode cX12_whole 8 = .ok (.invokevirtual 180, 3) := by decide +kernel
theorem dX12_whole_11 : decode cX12_whole 11 = .ok (.invokestatic 66, 3) := by decide +kernel
theorem dX12_whole_14 : decode cX12_whole 14 = .ok (.aload_n 0, 1) := by decide +kernel
theorem dX12_whole_15 : decode cX12_whole 15 = .ok (.getfield 35, 3) := by decide +kernel
theorem dX12_whole_18 : decode cX12_whole 18 = .ok (.iload_n 1, 1) := by decide +kernel
theorem dX12_whole_19 : decode cX12_whole 19 = .ok (.invokevirtual 222, 3) := by decide +kernel
theorem dX12_whole_22 : decode cX12_whole 22 = .ok (.ireturn, 1) := by decide +kernel
def sX12_whole (w : Wl) (l1 : Int32) : Option (Sum Int32 Int32) := (sX1_ofValue w (1 : Int32) l1 (10 : Int32)).bind (fun r1 => tiw r1 ((sX8_ofWhole w l1).bind (fun r3 => some (Sum.inr r3))))
theorem kX12_whole {l : Launch} {Γ : Gl} {B : Bs} {w : Wl} {G : Gf} {sz : Nat} {l1 : Int32} {r : (Sum Int32 Int32)} (htr : l.stackTraces = false) (hC : GC Γ B) (hW : Wd Γ B w G) (h : sX12_whole w l1 = some r) : CtX l Γ yX12_whole cX12_whole 2 (some .int) 7 [.ref (B.1 + 0), .int l1] G sz (fun v G' sz' => ∃ p, r = Sum.inr p ∧ RdΨ (.int p) G sz v G' sz') (exq r) 1 6 := by
  refine CtX.of htr rfl (Nat.le_of_ble_eq_true rfl) fun X hx hr he hl hΓ hnm => ?_
  subst hl hΓ
  show J X 2 G sz 0 0 0 [some (.ref (B.1 + 0)), some (.int l1)] []
  unfold sX12_whole at h
  refine J_al4 hx rfl rfl dX12_whole_0 ?_
  refine g12_1 hx hW 73 (rfl : kd 0 = 1) fl_X12_21 rfl dX12_whole_1 ?_
  refine J_iconst hx (1 : Int32) dX12_whole_4 rfl ?_
  refine J_il4 hx rfl rfl dX12_whole_5 ?_
  refine J_bipush hx (10 : Int32) dX12_whole_6 rfl ?_
  obtain ⟨r1, hr2, h⟩ := bnd h
  refine J_rdV hx (kX1_ofValue  hW hr2) ml_X12_180 lk_X1_ofValue (ci := 0) rfl (hW.obj (rfl : kd 73 = 11) (by decide) (by decide)) (rest := []) rfl rfl (by decide) (by decide) (Nat.le_of_ble_eq_true rfl) (by decide) (by decide) dX12_whole_8 ?_
  refine J_callXS hx he (kX12_throwIfWrong htr hC) ml_X12_66 lk_X12_throwIfWrong (rest := []) rfl rfl (by decide) (by decide) (Nat.le_of_ble_eq_true rfl) (by decide) (by decide) dX12_whole_11 (tiw_x h) fun r1 G1 sz1 hh => ?_
  obtain ⟨hti, rfl, rfl, rfl⟩ := hh
  show J X 2 _ _ 1 6 14 [some (.ref (B.1 + 0)), some (.int l1)] []
  replace h := tiw_n h hti
  refine J_al4 hx rfl rfl dX12_whole_14 ?_
  refine g12_3 hx hW 75 (rfl : kd 0 = 1) fl_X12_35 rfl dX12_whole_15 ?_
  refine J_il4 hx rfl rfl dX12_whole_18 ?_
  obtain ⟨r3, hr4, h⟩ := bnd h
  refine J_rdV hx (kX8_ofWhole  hW hr4) ml_X12_222 lk_X8_ofWhole (ci := 7) rfl (hW.obj (rfl : kd 75 = 13) (by decide) (by decide)) (rest := []) rfl rfl (by decide) (by decide) (Nat.le_of_ble_eq_true rfl) (by decide) (by decide) dX12_whole_19 ?_
  exact J_iret hx hr dX12_whole_22 (by decide) (by decide) ⟨_, (Option.some.inj h).symm, rfl, rfl, rfl⟩
theorem dX12_readyAt_0 : decode cX12_readyAt 0 = .ok (.aload_n 0, 1) := by decide +kernel
theorem dX12_readyAt_1 : decode cX12_readyAt 1 = .ok (.getfield 21, 3) := by decide +kernel
theorem dX12_readyAt_4 : decode cX12_readyAt 4 = .ok (.aload_n 0, 1) := by decide +kernel
theorem dX12_readyAt_5 : decode cX12_readyAt 5 = .ok (.getfield 10, 3) := by decide +kernel
theorem dX12_readyAt_8 : decode cX12_readyAt 8 = .ok (.iload_n 1, 1) := by decide +kernel
theorem dX12_readyAt_9 : decode cX12_readyAt 9 = .ok (.invokevirtual 187, 3) := by decide +kernel
theorem dX12_readyAt_12 : decode cX12_readyAt 12 = .ok (.invokevirtual 214, 3) := by decide +kernel
theorem dX12_readyAt_15 : decode cX12_readyAt 15 = .ok (.invokestatic 66, 3) := by decide +kernel
theorem dX12_readyAt_18 : decode cX12_readyAt 18 = .ok (.aload_n 0, 1) := by decide +kernel
theorem dX12_readyAt_19 : decode cX12_readyAt 19 = .ok (.getfield 44, 3) := by decide +kernel
theorem dX12_readyAt_22 : decode cX12_readyAt 22 = .ok (.iload_n 1, 1) := by decide +kernel
theorem dX12_readyAt_23 : decode cX12_readyAt 23 = .ok (.invokevirtual 225, 3) := by decide +kernel
theorem dX12_readyAt_26 : decode cX12_readyAt 26 = .ok (.ireturn, 1) := by decide +kernel
def sX12_readyAt (w : Wl) (l1 : Int32) : Option (Sum Int32 (Int32 × Wl)) := (sX6_hasWork w l1).bind (fun r1 => (sX1_ofNumber w (bI r1)).bind (fun r3 => tiw r3 ((sX5_timeOfWork w l1).bind (fun r5 => some (Sum.inr (r5.1, r5.2))))))
theorem kX12_readyAt {l : Launch} {Γ : Gl} {B : Bs} {w : Wl} {G : Gf} {sz : Nat} {l1 : Int32} {r : (Sum Int32 (Int32 × Wl))} (htr : l.stackTraces = false) (hC : GC Γ B) (hW : Wd Γ B w G) (h : sX12_readyAt w l1 = some r) : CtX l Γ yX12_readyAt cX12_readyAt 2 (some .int) 7 [.ref (B.1 + 0), .int l1] G sz (fun v G' sz' => ∃ p, r = Sum.inr p ∧ WΨ Γ B (some (.int p.1)) p.2 sz v G' sz') (exq r) 1 6 := by
  refine CtX.of htr rfl (Nat.le_of_ble_eq_true rfl) fun X hx hr he hl hΓ hnm => ?_
  subst hl hΓ
  show J X 2 G sz 0 0 0 [some (.ref (B.1 + 0)), some (.int l1)] []
  unfold sX12_readyAt at h
  refine J_al4 hx rfl rfl dX12_readyAt_0 ?_
  refine g12_1 hx hW 73 (rfl : kd 0 = 1) fl_X12_21 rfl dX12_readyAt_1 ?_
  refine J_al4 hx rfl rfl dX12_readyAt_4 ?_
  refine g12_0 hx hW 1 (rfl : kd 0 = 1) fl_X12_10 rfl dX12_readyAt_5 ?_
  refine J_il4 hx rfl rfl dX12_readyAt_8 ?_
  obtain ⟨r1, hr2, h⟩ := bnd h
  refine J_rdV hx (kX6_hasWork  hW hr2) ml_X12_187 lk_X6_hasWork (ci := 5) rfl (hW.obj (rfl : kd 1 = 2) (by decide) (by decide)) (rest := [.ref (B.1 + 73)]) rfl rfl (by decide) (by decide) (Nat.le_of_ble_eq_true rfl) (by decide) (by decide) dX12_readyAt_9 ?_
  obtain ⟨r3, hr4, h⟩ := bnd h
  refine J_rdV hx (kX1_ofNumber  hW hr4) ml_X12_214 lk_X1_ofNumber (ci := 0) rfl (hW.obj (rfl : kd 73 = 11) (by decide) (by decide)) (rest := []) rfl rfl (by decide) (by decide) (Nat.le_of_ble_eq_true rfl) (by decide) (by decide) dX12_readyAt_12 ?_
  refine J_callXS hx he (kX12_throwIfWrong htr hC) ml_X12_66 lk_X12_throwIfWrong (rest := []) rfl rfl (by decide) (by decide) (Nat.le_of_ble_eq_true rfl) (by decide) (by decide) dX12_readyAt_15 (tiw_x h) fun r1 G1 sz1 hh => ?_
  obtain ⟨hti, rfl, rfl, rfl⟩ := hh
  show J X 2 _ _ 1 6 18 [some (.ref (B.1 + 0)), some (.int l1)] []
  replace h := tiw_n h hti
  refine J_al4 hx rfl rfl dX12_readyAt_18 ?_
  refine g12_4 hx hW 76 (rfl : kd 0 = 1) fl_X12_44 rfl dX12_readyAt_19 ?_
  refine J_il4 hx rfl rfl dX12_readyAt_22 ?_
  obtain ⟨r5, hr6, h⟩ := bnd h
  refine J_wrV hx (kX5_timeOfWork  hW hr6) ml_X12_225 lk_X5_timeOfWork (ci := 4) rfl (hW.obj (rfl : kd 76 = 14) (by decide) (by decide)) (rest := []) rfl rfl (by decide) (by decide) (Nat.le_of_ble_eq_true rfl) (by decide) (by decide) dX12_readyAt_23 fun G7 hW8 => ?_
  show J X 2 G7 _ 1 6 26 [some (.ref (B.1 + 0)), some (.int l1)] [.int r5.1]
  exact J_iret hx hr dX12_readyAt_26 (by decide) (by decide) ⟨_, (Option.some.inj h).symm, rfl, hW8, rfl⟩
theorem dX12_allReadyAt_0 : decode cX12_allReadyAt 0 = .ok (.aload_n 0, 1) := by decide +kernel
theorem dX12_allReadyAt_1 : decode cX12_allReadyAt 1 = .ok (.getfield 21, 3) := by decide +kernel
theorem dX12_allReadyAt_4 : decode cX12_allReadyAt 4 = .ok (.aload_n 0, 1) := by decide +kernel
theorem dX12_allReadyAt_5 : decode cX12_allReadyAt 5 = .ok (.getfield 10, 3) := by decide +kernel
theorem dX12_allReadyAt_8 : decode cX12_allReadyAt 8 = .ok (.iload_n 1, 1) := by decide +kernel
theorem dX12_allReadyAt_9 : decode cX12_allReadyAt 9 = .ok (.invokevirtual 176, 3) := by decide +kernel
theorem dX12_allReadyAt_12 : decode cX12_allReadyAt 12 = .ok (.invokevirtual 214, 3) := by decide +kernel
theorem dX12_allReadyAt_15 : decode cX12_allReadyAt 15 = .ok (.invokestatic 66, 3) := by decide +kernel
theorem dX12_allReadyAt_18 : decode cX12_allReadyAt 18 = .ok (.aload_n 0, 1) := by decide +kernel
theorem dX12_allReadyAt_19 : decode cX12_allReadyAt 19 = .ok (.getfield 44, 3) := by decide +kernel
theorem dX12_allReadyAt_22 : decode cX12_allReadyAt 22 = .ok (.iload_n 1, 1) := by decide +kernel
theorem dX12_allReadyAt_23 : decode cX12_allReadyAt 23 = .ok (.invokevirtual 228, 3) := by decide +kernel
theorem dX12_allReadyAt_26 : decode cX12_allReadyAt 26 = .ok (.ireturn, 1) := by decide +kernel
def sX12_allReadyAt (w : Wl) (l1 : Int32) : Option (Sum Int32 (Int32 × Wl)) := (sX6_hasCrate w l1).bind (fun r1 => (sX1_ofNumber w (bI r1)).bind (fun r3 => tiw r3 ((sX5_timeOfCrate w l1).bind (fun r5 => some (Sum.inr (r5.1, r5.2))))))
theorem kX12_allReadyAt {l : Launch} {Γ : Gl} {B : Bs} {w : Wl} {G : Gf} {sz : Nat} {l1 : Int32} {r : (Sum Int32 (Int32 × Wl))} (htr : l.stackTraces = false) (hC : GC Γ B) (hW : Wd Γ B w G) (h : sX12_allReadyAt w l1 = some r) : CtX l Γ yX12_allReadyAt cX12_allReadyAt 2 (some .int) 7 [.ref (B.1 + 0), .int l1] G sz (fun v G' sz' => ∃ p, r = Sum.inr p ∧ WΨ Γ B (some (.int p.1)) p.2 sz v G' sz') (exq r) 1 6 := by
  refine CtX.of htr rfl (Nat.le_of_ble_eq_true rfl) fun X hx hr he hl hΓ hnm => ?_
  subst hl hΓ
  show J X 2 G sz 0 0 0 [some (.ref (B.1 + 0)), some (.int l1)] []
  unfold sX12_allReadyAt at h
  refine J_al4 hx rfl rfl dX12_allReadyAt_0 ?_
  refine g12_1 hx hW 73 (rfl : kd 0 = 1) fl_X12_21 rfl dX12_allReadyAt_1 ?_
  refine J_al4 hx rfl rfl dX12_allReadyAt_4 ?_
  refine g12_0 hx hW 1 (rfl : kd 0 = 1) fl_X12_10 rfl dX12_allReadyAt_5 ?_
  refine J_il4 hx rfl rfl dX12_allReadyAt_8 ?_
  obtain ⟨r1, hr2, h⟩ := bnd h
  refine J_rdV hx (kX6_hasCrate  hW hr2) ml_X12_176 lk_X6_hasCrate (ci := 5) rfl (hW.obj (rfl : kd 1 = 2) (by decide) (by decide)) (rest := [.ref (B.1 + 73)]) rfl rfl (by decide) (by decide) (Nat.le_of_ble_eq_true rfl) (by decide) (by decide) dX12_allReadyAt_9 ?_
  obtain ⟨r3, hr4, h⟩ := bnd h
  refine J_rdV hx (kX1_ofNumber  hW hr4) ml_X12_214 lk_X1_ofNumber (ci := 0) rfl (hW.obj (rfl : kd 73 = 11) (by decide) (by decide)) (rest := []) rfl rfl (by decide) (by decide) (Nat.le_of_ble_eq_true rfl) (by decide) (by decide) dX12_allReadyAt_12 ?_
  refine J_callXS hx he (kX12_throwIfWrong htr hC) ml_X12_66 lk_X12_throwIfWrong (rest := []) rfl rfl (by decide) (by decide) (Nat.le_of_ble_eq_true rfl) (by decide) (by decide) dX12_allReadyAt_15 (tiw_x h) fun r1 G1 sz1 hh => ?_
  obtain ⟨hti, rfl, rfl, rfl⟩ := hh
  show J X 2 _ _ 1 6 18 [some (.ref (B.1 + 0)), some (.int l1)] []
  replace h := tiw_n h hti
  refine J_al4 hx rfl rfl dX12_allReadyAt_18 ?_
  refine g12_4 hx hW 76 (rfl : kd 0 = 1) fl_X12_44 rfl dX12_allReadyAt_19 ?_
  refine J_il4 hx rfl rfl dX12_allReadyAt_22 ?_
  obtain ⟨r5, hr6, h⟩ := bnd h
  refine J_wrV hx (kX5_timeOfCrate  hW hr6) ml_X12_228 lk_X5_timeOfCrate (ci := 4) rfl (hW.obj (rfl : kd 76 = 14) (by decide) (by decide)) (rest := []) rfl rfl (by decide) (by decide) (Nat.le_of_ble_eq_true rfl) (by decide) (by decide) dX12_allReadyAt_23 fun G7 hW8 => ?_
  show J X 2 G7 _ 1 6 26 [some (.ref (B.1 + 0)), some (.int l1)] [.int r5.1]
  exact J_iret hx hr dX12_allReadyAt_26 (by decide) (by decide) ⟨_, (Option.some.inj h).symm, rfl, hW8, rfl⟩
theorem dX12_bestVenue_0 : decode cX12_bestVenue 0 = .ok (.aload_n 0, 1) := by decide +kernel
theorem dX12_bestVenue_1 : decode cX12_bestVenue 1 = .ok (.getfield 21, 3) := by decide +kernel
theorem dX12_bestVenue_4 : decode cX12_bestVenue 4 = .ok (.aload_n 0, 1) := by decide +kernel
theorem dX12_bestVenue_5 : decode cX12_bestVenue 5 = .ok (.getfield 10, 3) := by decide +kernel
theorem dX12_bestVenue_8 : decode cX12_bestVenue 8 = .ok (.iload_n 1, 1) := by decide +kernel
theorem dX12_bestVenue_9 : decode cX12_bestVenue 9 = .ok (.invokevirtual 176, 3) := by decide +kernel
theorem dX12_bestVenue_12 : decode cX12_bestVenue 12 = .ok (.ifCond .eq 18, 3) := by decide +kernel
theorem dX12_bestVenue_15 : decode cX12_bestVenue 15 = .ok (.aload_n 0, 1) := by decide +kernel
theorem dX12_bestVenue_16 : decode cX12_bestVenue 16 = .ok (.getfield 10, 3) := by decide +kernel
theorem dX12_bestVenue_19 : decode cX12_bestVenue 19 = .ok (.iload_n 2, 1) := by decide +kernel
theorem dX12_bestVenue_20 : decode cX12_bestVenue 20 = .ok (.invokevirtual 231, 3) := by decide +kernel
theorem dX12_bestVenue_23 : decode cX12_bestVenue 23 = .ok (.ifCond .eq 7, 3) := by decide +kernel
theorem dX12_bestVenue_26 : decode cX12_bestVenue 26 = .ok (.iconst 1, 1) := by decide +kernel
theorem dX12_bestVenue_27 : decode cX12_bestVenue 27 = .ok (.goto 4, 3) := by decide +kernel
theorem dX12_bestVenue_30 : decode cX12_bestVenue 30 = .ok (.iconst 0, 1) := by decide +kernel
theorem dX12_bestVenue_31 : decode cX12_bestVenue 31 = .ok (.invokevirtual 214, 3) := by decide +kernel
theorem dX12_bestVenue_34 : decode cX12_bestVenue 34 = .ok (.invokestatic 66, 3) := by decide +kernel
theorem dX12_bestVenue_37 : decode cX12_bestVenue 37 = .ok (.aload_n 0, 1) := by decide +kernel
theorem dX12_bestVenue_38 : decode cX12_bestVenue 38 = .ok (.getfield 44, 3) := by decide +kernel
theorem dX12_bestVenue_41 : decode cX12_bestVenue 41 = .ok (.iload_n 1, 1) := by decide +kernel
theorem dX12_bestVenue_42 : decode cX12_bestVenue 42 = .ok (.iload_n 2, 1) := by decide +kernel
theorem dX12_bestVenue_43 : decode cX12_bestVenue 43 = .ok (.invokevirtual 234, 3) := by decide +kernel
theorem dX12_bestVenue_46 : decode cX12_bestVenue 46 = .ok (.ireturn, 1) := by decide +kernel
def sX12_bestVenue (w : Wl) (l1 : Int32) (l2 : Int32) : Option (Sum Int32 (Int32 × Wl)) := (sX6_hasCrate w l1).bind (fun r1 => (if r1 = true then (sX6_isCourierOrNone w l2).bind (fun r10 => (if r10 = true then (sX1_ofNumber w (1 : Int32)).bind (fun r19 => tiw r19 ((sX5_soonestVenue w l1 l2).bind (fun r21 => some (Sum.inr (r21.1, r21.2))))) else (sX1_ofNumber w (0 : Int32)).bind (fun r13 => tiw r13 ((sX5_soonestVenue w l1 l2).bind (fun r15 => some (Sum.inr (r15.1, r15.2))))))) else (sX1_ofNumber w (0 : Int32)).bind (fun r4 => tiw r4 ((sX5_soonestVenue w l1 l2).bind (fun r6 => some (Sum.inr (r6.1, r6.2)))))))
theorem kX12_bestVenue {l : Launch} {Γ : Gl} {B : Bs} {w : Wl} {G : Gf} {sz : Nat} {l1 : Int32} {l2 : Int32} {r : (Sum Int32 (Int32 × Wl))} (htr : l.stackTraces = false) (hC : GC Γ B) (hW : Wd Γ B w G) (h : sX12_bestVenue w l1 l2 = some r) : CtX l Γ yX12_bestVenue cX12_bestVenue 3 (some .int) 7 [.ref (B.1 + 0), .int l1, .int l2] G sz (fun v G' sz' => ∃ p, r = Sum.inr p ∧ WΨ Γ B (some (.int p.1)) p.2 sz v G' sz') (exq r) 1 6 := by
  refine CtX.of htr rfl (Nat.le_of_ble_eq_true rfl) fun X hx hr he hl hΓ hnm => ?_
  subst hl hΓ
  show J X 3 G sz 0 0 0 [some (.ref (B.1 + 0)), some (.int l1), some (.int l2)] []
  unfold sX12_bestVenue at h
  refine J_al4 hx rfl rfl dX12_bestVenue_0 ?_
  refine g12_1 hx hW 73 (rfl : kd 0 = 1) fl_X12_21 rfl dX12_bestVenue_1 ?_
  refine J_al4 hx rfl rfl dX12_bestVenue_4 ?_
  refine g12_0 hx hW 1 (rfl : kd 0 = 1) fl_X12_10 rfl dX12_bestVenue_5 ?_
  refine J_il4 hx rfl rfl dX12_bestVenue_8 ?_
  obtain ⟨r1, hr2, h⟩ := bnd h
  refine J_rdV hx (kX6_hasCrate  hW hr2) ml_X12_176 lk_X6_hasCrate (ci := 5) rfl (hW.obj (rfl : kd 1 = 2) (by decide) (by decide)) (rest := [.ref (B.1 + 73)]) rfl rfl (by decide) (by decide) (Nat.le_of_ble_eq_true rfl) (by decide) (by decide) dX12_bestVenue_9 ?_
  refine J_bif_eq hx 30 dX12_bestVenue_12 rfl (fun h3 => ?_) (fun h3 => ?_)
  · replace h := neg h (bft h3)
    refine J_iconst hx (0 : Int32) dX12_bestVenue_30 rfl ?_
    obtain ⟨r4, hr5, h⟩ := bnd h
    refine J_rdV hx (kX1_ofNumber  hW hr5) ml_X12_214 lk_X1_ofNumber (ci := 0) rfl (hW.obj (rfl : kd 73 = 11) (by decide) (by decide)) (rest := []) rfl rfl (by decide) (by decide) (Nat.le_of_ble_eq_true rfl) (by decide) (by decide) dX12_bestVenue_31 ?_
    refine J_callXS hx he (kX12_throwIfWrong htr hC) ml_X12_66 lk_X12_throwIfWrong (rest := []) rfl rfl (by decide) (by decide) (Nat.le_of_ble_eq_true rfl) (by decide) (by decide) dX12_bestVenue_34 (tiw_x h) fun r1 G1 sz1 hh => ?_
    obtain ⟨hti, rfl, rfl, rfl⟩ := hh
    show J X 3 _ _ 1 6 37 [some (.ref (B.1 + 0)), some (.int l1), some (.int l2)] []
    replace h := tiw_n h hti
    refine J_al4 hx rfl rfl dX12_bestVenue_37 ?_
    refine g12_4 hx hW 76 (rfl : kd 0 = 1) fl_X12_44 rfl dX12_bestVenue_38 ?_
    refine J_il4 hx rfl rfl dX12_bestVenue_41 ?_
    refine J_il4 hx rfl rfl dX12_bestVenue_42 ?_
    obtain ⟨r6, hr7, h⟩ := bnd h
    refine J_wrV hx (kX5_soonestVenue  hW hr7) ml_X12_234 lk_X5_soonestVenue (ci := 4) rfl (hW.obj (rfl : kd 76 = 14) (by decide) (by decide)) (rest := []) rfl rfl (by decide) (by decide) (Nat.le_of_ble_eq_true rfl) (by decide) (by decide) dX12_bestVenue_43 fun G8 hW9 => ?_
    show J X 3 G8 _ 1 6 46 [some (.ref (B.1 + 0)), some (.int l1), some (.int l2)] [.int r6.1]
    exact J_iret hx hr dX12_bestVenue_46 (by decide) (by decide) ⟨_, (Option.some.inj h).symm, rfl, hW9, rfl⟩
  · replace h := pos h h3
    refine J_al4 hx rfl rfl dX12_bestVenue_15 ?_
    refine g12_0 hx hW 1 (rfl : kd 0 = 1) fl_X12_10 rfl dX12_bestVenue_16 ?_
    refine J_il4 hx rfl rfl dX12_bestVenue_19 ?_
    obtain ⟨r10, hr11, h⟩ := bnd h
    refine J_rdV hx (kX6_isCourierOrNone  hW hr11) ml_X12_231 lk_X6_isCourierOrNone (ci := 5) rfl (hW.obj (rfl : kd 1 = 2) (by decide) (by decide)) (rest := [.ref (B.1 + 73)]) rfl rfl (by decide) (by decide) (Nat.le_of_ble_eq_true rfl) (by decide) (by decide) dX12_bestVenue_20 ?_
    refine J_bif_eq hx 30 dX12_bestVenue_23 rfl (fun h12 => ?_) (fun h12 => ?_)
    · replace h := neg h (bft h12)
      refine J_iconst hx (0 : Int32) dX12_bestVenue_30 rfl ?_
      obtain ⟨r13, hr14, h⟩ := bnd h
      refine J_rdV hx (kX1_ofNumber  hW hr14) ml_X12_214 lk_X1_ofNumber (ci := 0) rfl (hW.obj (rfl : kd 73 = 11) (by decide) (by decide)) (rest := []) rfl rfl (by decide) (by decide) (Nat.le_of_ble_eq_true rfl) (by decide) (by decide) dX12_bestVenue_31 ?_
      refine J_callXS hx he (kX12_throwIfWrong htr hC) ml_X12_66 lk_X12_throwIfWrong (rest := []) rfl rfl (by decide) (by decide) (Nat.le_of_ble_eq_true rfl) (by decide) (by decide) dX12_bestVenue_34 (tiw_x h) fun r1 G1 sz1 hh => ?_
      obtain ⟨hti, rfl, rfl, rfl⟩ := hh
      show J X 3 _ _ 1 6 37 [some (.ref (B.1 + 0)), some (.int l1), some (.int l2)] []
      replace h := tiw_n h hti
      refine J_al4 hx rfl rfl dX12_bestVenue_37 ?_
      refine g12_4 hx hW 76 (rfl : kd 0 = 1) fl_X12_44 rfl dX12_bestVenue_38 ?_
      refine J_il4 hx rfl rfl dX12_bestVenue_41 ?_
      refine J_il4 hx rfl rfl dX12_bestVenue_42 ?_
      obtain ⟨r15, hr16, h⟩ := bnd h
      refine J_wrV hx (kX5_soonestVenue  hW hr16) ml_X12_234 lk_X5_soonestVenue (ci := 4) rfl (hW.obj (rfl : kd 76 = 14) (by decide) (by decide)) (rest := []) rfl rfl (by decide) (by decide) (Nat.le_of_ble_eq_true rfl) (by decide) (by decide) dX12_bestVenue_43 fun G17 hW18 => ?_
      show J X 3 G17 _ 1 6 46 [some (.ref (B.1 + 0)), some (.int l1), some (.int l2)] [.int r15.1]
      exact J_iret hx hr dX12_bestVenue_46 (by decide) (by decide) ⟨_, (Option.some.inj h).symm, rfl, hW18, rfl⟩
    · replace h := pos h h12
      refine J_iconst hx (1 : Int32) dX12_bestVenue_26 rfl ?_
      refine J_goto hx 31 dX12_bestVenue_27 rfl ?_
      obtain ⟨r19, hr20, h⟩ := bnd h
      refine J_rdV hx (kX1_ofNumber  hW hr20) ml_X12_214 lk_X1_ofNumber (ci := 0) rfl (hW.obj (rfl : kd 73 = 11) (by decide) (by decide)) (rest := []) rfl rfl (by decide) (by decide) (Nat.le_of_ble_eq_true rfl) (by decide) (by decide) dX12_bestVenue_31 ?_
      refine J_callXS hx he (kX12_throwIfWrong htr hC) ml_X12_66 lk_X12_throwIfWrong (rest := []) rfl rfl (by decide) (by decide) (Nat.le_of_ble_eq_true rfl) (by decide) (by decide) dX12_bestVenue_34 (tiw_x h) fun r1 G1 sz1 hh => ?_
      obtain ⟨hti, rfl, rfl, rfl⟩ := hh
      show J X 3 _ _ 1 6 37 [some (.ref (B.1 + 0)), some (.int l1), some (.int l2)] []
      replace h := tiw_n h hti
      refine J_al4 hx rfl rfl dX12_bestVenue_37 ?_
      refine g12_4 hx hW 76 (rfl : kd 0 = 1) fl_X12_44 rfl dX12_bestVenue_38 ?_
      refine J_il4 hx rfl rfl dX12_bestVenue_41 ?_
      refine J_il4 hx rfl rfl dX12_bestVenue_42 ?_
      obtain ⟨r21, hr22, h⟩ := bnd h
      refine J_wrV hx (kX5_soonestVenue  hW hr22) ml_X12_234 lk_X5_soonestVenue (ci := 4) rfl (hW.obj (rfl : kd 76 = 14) (by decide) (by decide)) (rest := []) rfl rfl (by decide) (by decide) (Nat.le_of_ble_eq_true rfl) (by decide) (by decide) dX12_bestVenue_43 fun G23 hW24 => ?_
      show J X 3 G23 _ 1 6 46 [some (.ref (B.1 + 0)), some (.int l1), some (.int l2)] [.int r21.1]
      exact J_iret hx hr dX12_bestVenue_46 (by decide) (by decide) ⟨_, (Option.some.inj h).symm, rfl, hW24, rfl⟩
theorem dX12_type_0 : decode cX12_type 0 = .ok (.aload_n 0, 1) := by decide +kernel
theorem dX12_type_1 : decode cX12_type 1 = .ok (.getfield 21, 3) := by decide +kernel
theorem dX12_type_4 : decode cX12_type 4 = .ok (.iload_n 1, 1) := by decide +kernel
theorem dX12_type_5 : decode cX12_type 5 = .ok (.aload_n 0, 1) := by decide +kernel
theorem dX12_type_6 : decode cX12_type 6 = .ok (.getfield 58, 3) := by decide +kernel
theorem dX12_type_9 : decode cX12_type 9 = .ok (.getfield 237, 3) := by decide +kernel
theorem dX12_type_12 : decode cX12_type 12 = .ok (.invokevirtual 241, 3) := by decide +kernel
theorem dX12_type_15 : decode cX12_type 15 = .ok (.invokestatic 66, 3) := by decide +kernel
theorem dX12_type_18 : decode cX12_type 18 = .ok (.aload_n 0, 1) := by decide +kernel
theorem dX12_type_19 : decode cX12_type 19 = .ok (.getfield 58, 3) := by decide +kernel
theorem dX12_type_22 : decode cX12_type 22 = .ok (.iload_n 1, 1) := by decide +kernel
theorem dX12_type_23 : decode cX12_type 23 = .ok (.invokevirtual 244, 3) := by decide +kernel
theorem dX12_type_26 : decode cX12_type 26 = .ok (.ireturn, 1) := by decide +kernel
def sX12_type (w : Wl) (l1 : Int32) : Option (Sum Int32 (Int32 × Wl)) := (sX1_ofByte w l1 (w 368 1)).bind (fun r1 => tiw r1 ((sX2_append w l1).bind (fun r3 => some (Sum.inr (r3.1, r3.2)))))
theorem kX12_type {l : Launch} {Γ : Gl} {B : Bs} {w : Wl} {G : Gf} {sz : Nat} {l1 : Int32} {r : (Sum Int32 (Int32 × Wl))} (htr : l.stackTraces = false) (hC : GC Γ B) (hW : Wd Γ B w G) (h : sX12_type w l1 = some r) : CtX l Γ yX12_type cX12_type 2 (some .int) 7 [.ref (B.1 + 0), .int l1] G sz (fun v G' sz' => ∃ p, r = Sum.inr p ∧ WΨ Γ B (some (.int p.1)) p.2 sz v G' sz') (exq r) 1 6 := by
  refine CtX.of htr rfl (Nat.le_of_ble_eq_true rfl) fun X hx hr he hl hΓ hnm => ?_
  subst hl hΓ
  show J X 2 G sz 0 0 0 [some (.ref (B.1 + 0)), some (.int l1)] []
  unfold sX12_type at h
  refine J_al4 hx rfl rfl dX12_type_0 ?_
  refine g12_1 hx hW 73 (rfl : kd 0 = 1) fl_X12_21 rfl dX12_type_1 ?_
  refine J_il4 hx rfl rfl dX12_type_4 ?_
  refine J_al4 hx rfl rfl dX12_type_5 ?_
  refine g12_6 hx hW 368 (rfl : kd 0 = 1) fl_X12_58 rfl dX12_type_6 ?_
  refine g2_1 hx hW (rfl : kd 368 = 17) fl_X12_237 dX12_type_9 ?_
  obtain ⟨r1, hr2, h⟩ := bnd h
  refine J_rdV hx (kX1_ofByte  hW hr2) ml_X12_241 lk_X1_ofByte (ci := 0) rfl (hW.obj (rfl : kd 73 = 11) (by decide) (by decide)) (rest := []) rfl rfl (by decide) (by decide) (Nat.le_of_ble_eq_true rfl) (by decide) (by decide) dX12_type_12 ?_
  refine J_callXS hx he (kX12_throwIfWrong htr hC) ml_X12_66 lk_X12_throwIfWrong (rest := []) rfl rfl (by decide) (by decide) (Nat.le_of_ble_eq_true rfl) (by decide) (by decide) dX12_type_15 (tiw_x h) fun r1 G1 sz1 hh => ?_
  obtain ⟨hti, rfl, rfl, rfl⟩ := hh
  show J X 2 _ _ 1 6 18 [some (.ref (B.1 + 0)), some (.int l1)] []
  replace h := tiw_n h hti
  refine J_al4 hx rfl rfl dX12_type_18 ?_
  refine g12_6 hx hW 368 (rfl : kd 0 = 1) fl_X12_58 rfl dX12_type_19 ?_
  refine J_il4 hx rfl rfl dX12_type_22 ?_
  obtain ⟨r3, hr4, h⟩ := bnd h
  refine J_wrV hx (kX2_append  hW hr4) ml_X12_244 lk_X2_append (ci := 1) rfl (hW.obj (rfl : kd 368 = 17) (by decide) (by decide)) (rest := []) rfl rfl (by decide) (by decide) (Nat.le_of_ble_eq_true rfl) (by decide) (by decide) dX12_type_23 fun G5 hW6 => ?_
  show J X 2 G5 _ 1 6 26 [some (.ref (B.1 + 0)), some (.int l1)] [.int r3.1]
  exact J_iret hx hr dX12_type_26 (by decide) (by decide) ⟨_, (Option.some.inj h).symm, rfl, hW6, rfl⟩
theorem dX12_undo_0 : decode cX12_undo 0 = .ok (.aload_n 0, 1) := by decide +kernel
theorem dX12_undo_1 : decode cX12_undo 1 = .ok (.getfield 51, 3) := by decide +kernel
theorem dX12_undo_4 : decode cX12_undo 4 = .ok (.getfield 275, 3) := by decide +kernel
theorem dX12_undo_7 : decode cX12_undo 7 = .ok (.ifCond .le 7, 3) := by decide +kernel
theorem dX12_undo_10 : decode cX12_undo 10 = .ok (.iconst 0, 1) := by decide +kernel
theorem dX12_undo_11 : decode cX12_undo 11 = .ok (.goto 4, 3) := by decide +kernel
theorem dX12_undo_14 : decode cX12_undo 14 = .ok (.iconst 3, 1) := by decide +kernel
theorem dX12_undo_15 : decode cX12_undo 15 = .ok (.invokestatic 66, 3) := by decide +kernel
theorem dX12_undo_18 : decode cX12_undo 18 = .ok (.aload_n 0, 1) := by decide +kernel
theorem dX12_undo_19 : decode cX12_undo 19 = .ok (.getfield 51, 3) := by decide +kernel
theorem dX12_undo_22 : decode cX12_undo 22 = .ok (.aload_n 0, 1) := by decide +kernel
theorem dX12_undo_23 : decode cX12_undo 23 = .ok (.getfield 10, 3) := by decide +kernel
theorem dX12_undo_26 : decode cX12_undo 26 = .ok (.invokevirtual 278, 3) := by decide +kernel
theorem dX12_undo_29 : decode cX12_undo 29 = .ok (.ireturn, 1) := by decide +kernel
def sX12_undo (w : Wl) : Option (Sum Int32 (Int32 × Wl)) := (if (w 78 1) ≤ 0 then tiw (3 : Int32) ((sX7_restore w 1).bind (fun r2 => some (Sum.inr (r2.1, r2.2)))) else tiw (0 : Int32) ((sX7_restore w 1).bind (fun r6 => some (Sum.inr (r6.1, r6.2)))))
theorem kX12_undo {l : Launch} {Γ : Gl} {B : Bs} {w : Wl} {G : Gf} {sz : Nat} {r : (Sum Int32 (Int32 × Wl))} (htr : l.stackTraces = false) (hC : GC Γ B) (hW : Wd Γ B w G) (h : sX12_undo w  = some r) : CtX l Γ yX12_undo cX12_undo 1 (some .int) 7 [.ref (B.1 + 0)] G sz (fun v G' sz' => ∃ p, r = Sum.inr p ∧ WΨ Γ B (some (.int p.1)) p.2 sz v G' sz') (exq r) 1 6 := by
  refine CtX.of htr rfl (Nat.le_of_ble_eq_true rfl) fun X hx hr he hl hΓ hnm => ?_
  subst hl hΓ
  show J X 1 G sz 0 0 0 [some (.ref (B.1 + 0))] []
  unfold sX12_undo at h
  refine J_al4 hx rfl rfl dX12_undo_0 ?_
  refine g12_5 hx hW 78 (rfl : kd 0 = 1) fl_X12_51 rfl dX12_undo_1 ?_
  refine g7_1 hx hW (rfl : kd 78 = 15) fl_X12_275 dX12_undo_4 ?_
  refine J_if_le hx 14 dX12_undo_7 rfl (fun h1 => ?_) (fun h1 => ?_)
  · replace h := pos h h1
    refine J_iconst hx (3 : Int32) dX12_undo_14 rfl ?_
    refine J_callXS hx he (kX12_throwIfWrong htr hC) ml_X12_66 lk_X12_throwIfWrong (rest := []) rfl rfl (by decide) (by decide) (Nat.le_of_ble_eq_true rfl) (by decide) (by decide) dX12_undo_15 (tiw_x h) fun r1 G1 sz1 hh => ?_
    obtain ⟨hti, rfl, rfl, rfl⟩ := hh
    show J X 1 _ _ 1 6 18 [some (.ref (B.1 + 0))] []
    replace h := tiw_n h hti
    refine J_al4 hx rfl rfl dX12_undo_18 ?_
    refine g12_5 hx hW 78 (rfl : kd 0 = 1) fl_X12_51 rfl dX12_undo_19 ?_
    refine J_al4 hx rfl rfl dX12_undo_22 ?_
    refine g12_0 hx hW 1 (rfl : kd 0 = 1) fl_X12_10 rfl dX12_undo_23 ?_
    obtain ⟨r2, hr3, h⟩ := bnd h
    refine J_wrV hx (kX7_restore (rfl : kd 1 = 2) hW hr3) ml_X12_278 lk_X7_restore (ci := 6) rfl (hW.obj (rfl : kd 78 = 15) (by decide) (by decide)) (rest := []) rfl rfl (by decide) (by decide) (Nat.le_of_ble_eq_true rfl) (by decide) (by decide) dX12_undo_26 fun G4 hW5 => ?_
    show J X 1 G4 _ 1 6 29 [some (.ref (B.1 + 0))] [.int r2.1]
    exact J_iret hx hr dX12_undo_29 (by decide) (by decide) ⟨_, (Option.some.inj h).symm, rfl, hW5, rfl⟩
  · replace h := neg h h1
    refine J_iconst hx (0 : Int32) dX12_undo_10 rfl ?_
    refine J_goto hx 15 dX12_undo_11 rfl ?_
    refine J_callXS hx he (kX12_throwIfWrong htr hC) ml_X12_66 lk_X12_throwIfWrong (rest := []) rfl rfl (by decide) (by decide) (Nat.le_of_ble_eq_true rfl) (by decide) (by decide) dX12_undo_15 (tiw_x h) fun r1 G1 sz1 hh => ?_
    obtain ⟨hti, rfl, rfl, rfl⟩ := hh
    show J X 1 _ _ 1 6 18 [some (.ref (B.1 + 0))] []
    replace h := tiw_n h hti
    refine J_al4 hx rfl rfl dX12_undo_18 ?_
    refine g12_5 hx hW 78 (rfl : kd 0 = 1) fl_X12_51 rfl dX12_undo_19 ?_
    refine J_al4 hx rfl rfl dX12_undo_22 ?_
    refine g12_0 hx hW 1 (rfl : kd 0 = 1) fl_X12_10 rfl dX12_undo_23 ?_
    obtain ⟨r6, hr7, h⟩ := bnd h
    refine J_wrV hx (kX7_restore (rfl : kd 1 = 2) hW hr7) ml_X12_278 lk_X7_restore (ci := 6) rfl (hW.obj (rfl : kd 78 = 15) (by decide) (by decide)) (rest := []) rfl rfl (by decide) (by decide) (Nat.le_of_ble_eq_true rfl) (by decide) (by decide) dX12_undo_26 fun G8 hW9 => ?_
    show J X 1 G8 _ 1 6 29 [some (.ref (B.1 + 0))] [.int r6.1]
    exact J_iret hx hr dX12_undo_29 (by decide) (by decide) ⟨_, (Option.some.inj h).symm, rfl, hW9, rfl⟩
