/-! Mirrors and walks, written by wip/whole/gen_walks.py -/
theorem dX13_workOf_0 : decode cX13_workOf 0 = .ok (.iload_n 2, 1) := by decide +kernel
theorem dX13_workOf_1 : decode cX13_workOf 1 = .ok (.iconst 5, 1) := by decide +kernel
theorem dX13_workOf_2 : decode cX13_workOf 2 = .ok (.if_icmp .ge 12, 3) := by decide +kernel
theorem dX13_workOf_5 : decode cX13_workOf 5 = .ok (.aload_n 0, 1) := by decide +kernel
theorem dX13_workOf_6 : decode cX13_workOf 6 = .ok (.iload_n 1, 1) := by decide +kernel
theorem dX13_workOf_7 : decode cX13_workOf 7 = .ok (.iload_n 2, 1) := by decide +kernel
theorem dX13_workOf_8 : decode cX13_workOf 8 = .ok (.invokevirtual 51, 3) := by decide +kernel
theorem dX13_workOf_11 : decode cX13_workOf 11 = .ok (.goto 37, 3) := by decide +kernel
theorem dX13_workOf_14 : decode cX13_workOf 14 = .ok (.iload_n 2, 1) := by decide +kernel
theorem dX13_workOf_15 : decode cX13_workOf 15 = .ok (.iconst 5, 1) := by decide +kernel
theorem dX13_workOf_16 : decode cX13_workOf 16 = .ok (.if_icmp .ne 11, 3) := by decide +kernel
theorem dX13_workOf_19 : decode cX13_workOf 19 = .ok (.aload_n 0, 1) := by decide +kernel
theorem dX13_workOf_20 : decode cX13_workOf 20 = .ok (.iload_n 1, 1) := by decide +kernel
theorem dX13_workOf_21 : decode cX13_workOf 21 = .ok (.invokevirtual 145, 3) := by decide +kernel
theorem dX13_workOf_24 : decode cX13_workOf 24 = .ok (.goto 24, 3) := by decide +kernel
theorem dX13_workOf_27 : decode cX13_workOf 27 = .ok (.iload_n 2, 1) := by decide +kernel
theorem dX13_workOf_28 : decode cX13_workOf 28 = .ok (.bipush 6, 2) := by decide +kernel
theorem dX13_workOf_30 : decode cX13_workOf 30 = .ok (.if_icmp .ne 11, 3) := by decide +kernel
theorem dX13_workOf_33 : decode cX13_workOf 33 = .ok (.aload_n 0, 1) := by decide +kernel
theorem dX13_workOf_34 : decode cX13_workOf 34 = .ok (.iload_n 1, 1) := by decide +kernel
theorem dX13_workOf_35 : decode cX13_workOf 35 = .ok (.invokevirtual 209, 3) := by decide +kernel
theorem dX13_workOf_38 : decode cX13_workOf 38 = .ok (.goto 10, 3) := by decide +kernel
theorem dX13_workOf_41 : decode cX13_workOf 41 = .ok (.aload_n 0, 1) := by decide +kernel
theorem dX13_workOf_42 : decode cX13_workOf 42 = .ok (.iload_n 1, 1) := by decide +kernel
theorem dX13_workOf_43 : decode cX13_workOf 43 = .ok (.bipush 6, 2) := by decide +kernel
theorem dX13_workOf_45 : decode cX13_workOf 45 = .ok (.invokevirtual 51, 3) := by decide +kernel
theorem dX13_workOf_48 : decode cX13_workOf 48 = .ok (.ireturn, 1) := by decide +kernel
def sX13_workOf (w : Wl) (l1 : Int32) (l2 : Int32) : Option Int32 := (if (5 : Int32) ≤ l2 then (if l2 = (5 : Int32) then (sX13_standsIn w l1).bind (fun r8 => some r8) else (if l2 = (6 : Int32) then (sX13_around w l1).bind (fun r6 => some r6) else (sX13_ofWork w l1 (6 : Int32)).bind (fun r4 => some r4))) else (sX13_ofWork w l1 l2).bind (fun r10 => some r10))
theorem kX13_workOf {l : Launch} {Γ : Gl} {B : Bs} {w : Wl} {G : Gf} {sz : Nat} {l1 : Int32} {l2 : Int32} {r : Int32} (hW : Wd Γ B w G) (h : sX13_workOf w l1 l2 = some r) : CtR l Γ yX13_workOf cX13_workOf 3 (some .int) 4 [.ref (B.1 + 371), .int l1, .int l2] G sz (.int (r)) := by
  refine Ct.of rfl (Nat.le_of_ble_eq_true rfl) fun X hx hr hl hΓ hnm => ?_
  subst hl hΓ
  show J X 3 G sz 0 0 0 [some (.ref (B.1 + 371)), some (.int l1), some (.int l2)] []
  unfold sX13_workOf at h
  refine J_il4 hx rfl rfl dX13_workOf_0 ?_
  refine J_iconst hx (5 : Int32) dX13_workOf_1 rfl ?_
  refine J_icmp_ge hx 14 dX13_workOf_2 rfl (fun h1 => ?_) (fun h1 => ?_)
  · replace h := pos h h1
    refine J_il4 hx rfl rfl dX13_workOf_14 ?_
    refine J_iconst hx (5 : Int32) dX13_workOf_15 rfl ?_
    refine J_icmp_ne hx 27 dX13_workOf_16 rfl (fun h2 => ?_) (fun h2 => ?_)
    · replace h := neg h h2
      refine J_il4 hx rfl rfl dX13_workOf_27 ?_
      refine J_bipush hx (6 : Int32) dX13_workOf_28 rfl ?_
      refine J_icmp_ne hx 41 dX13_workOf_30 rfl (fun h3 => ?_) (fun h3 => ?_)
      · replace h := neg h h3
        refine J_al4 hx rfl rfl dX13_workOf_41 ?_
        refine J_il4 hx rfl rfl dX13_workOf_42 ?_
        refine J_bipush hx (6 : Int32) dX13_workOf_43 rfl ?_
        obtain ⟨r4, hr5, h⟩ := bnd h
        refine J_rdV hx (kX13_ofWork  hW hr5) ml_X13_51 lk_X13_ofWork (ci := 11) rfl (hW.obj (rfl : kd 371 = 19) (by decide) (by decide)) (rest := []) rfl rfl (by decide) (by decide) (Nat.le_of_ble_eq_true rfl) (Nat.le_refl 0) (Nat.le_refl 0) dX13_workOf_45 ?_
        exact J_iretR hx hr dX13_workOf_48 (Nat.le_refl 0) (Nat.le_refl 0) (Option.some.inj h)
      · replace h := pos h h3
        refine J_al4 hx rfl rfl dX13_workOf_33 ?_
        refine J_il4 hx rfl rfl dX13_workOf_34 ?_
        obtain ⟨r6, hr7, h⟩ := bnd h
        refine J_rdV hx (kX13_around  hW hr7) ml_X13_209 lk_X13_around (ci := 11) rfl (hW.obj (rfl : kd 371 = 19) (by decide) (by decide)) (rest := []) rfl rfl (by decide) (by decide) (Nat.le_of_ble_eq_true rfl) (Nat.le_refl 0) (Nat.le_refl 0) dX13_workOf_35 ?_
        refine J_goto hx 48 dX13_workOf_38 rfl ?_
        exact J_iretR hx hr dX13_workOf_48 (Nat.le_refl 0) (Nat.le_refl 0) (Option.some.inj h)
    · replace h := pos h h2
      refine J_al4 hx rfl rfl dX13_workOf_19 ?_
      refine J_il4 hx rfl rfl dX13_workOf_20 ?_
      obtain ⟨r8, hr9, h⟩ := bnd h
      refine J_rdV hx (kX13_standsIn  hW hr9) ml_X13_145 lk_X13_standsIn (ci := 11) rfl (hW.obj (rfl : kd 371 = 19) (by decide) (by decide)) (rest := []) rfl rfl (by decide) (by decide) (Nat.le_of_ble_eq_true rfl) (Nat.le_refl 0) (Nat.le_refl 0) dX13_workOf_21 ?_
      refine J_goto hx 48 dX13_workOf_24 rfl ?_
      exact J_iretR hx hr dX13_workOf_48 (Nat.le_refl 0) (Nat.le_refl 0) (Option.some.inj h)
  · replace h := neg h h1
    refine J_al4 hx rfl rfl dX13_workOf_5 ?_
    refine J_il4 hx rfl rfl dX13_workOf_6 ?_
    refine J_il4 hx rfl rfl dX13_workOf_7 ?_
    obtain ⟨r10, hr11, h⟩ := bnd h
    refine J_rdV hx (kX13_ofWork  hW hr11) ml_X13_51 lk_X13_ofWork (ci := 11) rfl (hW.obj (rfl : kd 371 = 19) (by decide) (by decide)) (rest := []) rfl rfl (by decide) (by decide) (Nat.le_of_ble_eq_true rfl) (Nat.le_refl 0) (Nat.le_refl 0) dX13_workOf_8 ?_
    refine J_goto hx 48 dX13_workOf_11 rfl ?_
    exact J_iretR hx hr dX13_workOf_48 (Nat.le_refl 0) (Nat.le_refl 0) (Option.some.inj h)
theorem dX13_work_0 : decode cX13_work 0 = .ok (.aload_n 0, 1) := by decide +kernel
theorem dX13_work_1 : decode cX13_work 1 = .ok (.aload_n 0, 1) := by decide +kernel
theorem dX13_work_2 : decode cX13_work 2 = .ok (.iload_n 1, 1) := by decide +kernel
theorem dX13_work_3 : decode cX13_work 3 = .ok (.invokevirtual 130, 3) := by decide +kernel
theorem dX13_work_6 : decode cX13_work 6 = .ok (.ifCond .ne 7, 3) := by decide +kernel
theorem dX13_work_9 : decode cX13_work 9 = .ok (.iconst 1, 1) := by decide +kernel
theorem dX13_work_10 : decode cX13_work 10 = .ok (.goto 18, 3) := by decide +kernel
theorem dX13_work_13 : decode cX13_work 13 = .ok (.iload_n 2, 1) := by decide +kernel
theorem dX13_work_14 : decode cX13_work 14 = .ok (.iconst 0, 1) := by decide +kernel
theorem dX13_work_15 : decode cX13_work 15 = .ok (.bipush 7, 2) := by decide +kernel
theorem dX13_work_17 : decode cX13_work 17 = .ok (.invokestatic 32, 3) := by decide +kernel
theorem dX13_work_20 : decode cX13_work 20 = .ok (.ifCond .eq 7, 3) := by decide +kernel
theorem dX13_work_23 : decode cX13_work 23 = .ok (.iconst 0, 1) := by decide +kernel
theorem dX13_work_24 : decode cX13_work 24 = .ok (.goto 4, 3) := by decide +kernel
theorem dX13_work_27 : decode cX13_work 27 = .ok (.iconst 2, 1) := by decide +kernel
theorem dX13_work_28 : decode cX13_work 28 = .ok (.putfield 25, 3) := by decide +kernel
theorem dX13_work_31 : decode cX13_work 31 = .ok (.aload_n 0, 1) := by decide +kernel
theorem dX13_work_32 : decode cX13_work 32 = .ok (.getfield 25, 3) := by decide +kernel
theorem dX13_work_35 : decode cX13_work 35 = .ok (.ifCond .eq 7, 3) := by decide +kernel
theorem dX13_work_38 : decode cX13_work 38 = .ok (.iconst 0, 1) := by decide +kernel
theorem dX13_work_39 : decode cX13_work 39 = .ok (.goto 9, 3) := by decide +kernel
theorem dX13_work_42 : decode cX13_work 42 = .ok (.aload_n 0, 1) := by decide +kernel
theorem dX13_work_43 : decode cX13_work 43 = .ok (.iload_n 1, 1) := by decide +kernel
theorem dX13_work_44 : decode cX13_work 44 = .ok (.iload_n 2, 1) := by decide +kernel
theorem dX13_work_45 : decode cX13_work 45 = .ok (.invokevirtual 212, 3) := by decide +kernel
theorem dX13_work_48 : decode cX13_work 48 = .ok (.ireturn, 1) := by decide +kernel
def sX13_work_28 (w : Wl) (l1 : Int32) (l2 : Int32) (s1 : Int32) : Option (Int32 × Wl) := (if ((wst w 371 5 s1) 371 5) = 0 then (sX13_workOf (wst w 371 5 s1) l1 l2).bind (fun r4 => some (r4, (wst w 371 5 s1))) else some ((0 : Int32), (wst w 371 5 s1)))
theorem tX13_work_28 {X : Cx} {B : Bs} {sz : Nat} {r : (Int32 × Wl)} (hx : Fx X cX13_work 3 RX13 5 0 0) (hr : Rt X (some .int) 0 0 (WΨ (xΓ X) B (some (.int (r.1))) r.2 sz)) : ∀ (w : Wl) (l1 : Int32) (l2 : Int32) (s1 : Int32) {G : Gf} (hW : Wd (xΓ X) B w G) (h : sX13_work_28  w l1 l2 s1 = some r), J X 3 G sz 0 0 28 [some (.ref (B.1 + 371)), some (.int l1), some (.int l2)] [.int s1, .ref (B.1 + 371)] := by
  intro w l1 l2 s1 G hW h
  unfold sX13_work_28 at h
  refine p13_5 hx hW (rfl : kd 371 = 19) fl_X13_25 dX13_work_28 fun G1 hW2 => ?_
  refine J_al4 hx rfl rfl dX13_work_31 ?_
  refine g13_5 hx hW2 (rfl : kd 371 = 19) fl_X13_25 dX13_work_32 ?_
  refine J_if_eq hx 42 dX13_work_35 rfl (fun h3 => ?_) (fun h3 => ?_)
  · replace h := pos h h3
    refine J_al4 hx rfl rfl dX13_work_42 ?_
    refine J_il4 hx rfl rfl dX13_work_43 ?_
    refine J_il4 hx rfl rfl dX13_work_44 ?_
    obtain ⟨r4, hr5, h⟩ := bnd h
    refine J_rdV hx (kX13_workOf  hW2 hr5) ml_X13_212 lk_X13_workOf (ci := 11) rfl (hW2.obj (rfl : kd 371 = 19) (by decide) (by decide)) (rest := []) rfl rfl (by decide) (by decide) (Nat.le_of_ble_eq_true rfl) (Nat.le_refl 0) (Nat.le_refl 0) dX13_work_45 ?_
    obtain rfl := Option.some.inj h
    exact J_iretW hx hr hW2 dX13_work_48 (Nat.le_refl 0) (Nat.le_refl 0)
  · replace h := neg h h3
    refine J_iconst hx (0 : Int32) dX13_work_38 rfl ?_
    refine J_goto hx 48 dX13_work_39 rfl ?_
    obtain rfl := Option.some.inj h
    exact J_iretW hx hr hW2 dX13_work_48 (Nat.le_refl 0) (Nat.le_refl 0)
def sX13_work (w : Wl) (l1 : Int32) (l2 : Int32) : Option (Int32 × Wl) := (sX13_isWork w l1).bind (fun r1 => (if r1 = true then (sX13_in w l2 (0 : Int32) (7 : Int32)).bind (fun r4 => (if r4 = true then sX13_work_28 w l1 l2 (0 : Int32) else sX13_work_28 w l1 l2 (2 : Int32))) else sX13_work_28 w l1 l2 (1 : Int32)))
theorem kX13_work {l : Launch} {Γ : Gl} {B : Bs} {w : Wl} {G : Gf} {sz : Nat} {l1 : Int32} {l2 : Int32} {r : (Int32 × Wl)} (hW : Wd Γ B w G) (h : sX13_work w l1 l2 = some r) : CtW l Γ yX13_work cX13_work 3 (some .int) 5 [.ref (B.1 + 371), .int l1, .int l2] G sz B (some (.int (r.1))) r.2 := by
  refine Ct.of rfl (Nat.le_of_ble_eq_true rfl) fun X hx hr hl hΓ hnm => ?_
  subst hl hΓ
  show J X 3 G sz 0 0 0 [some (.ref (B.1 + 371)), some (.int l1), some (.int l2)] []
  unfold sX13_work at h
  refine J_al4 hx rfl rfl dX13_work_0 ?_
  refine J_al4 hx rfl rfl dX13_work_1 ?_
  refine J_il4 hx rfl rfl dX13_work_2 ?_
  obtain ⟨r1, hr2, h⟩ := bnd h
  refine J_rdV hx (kX13_isWork  hW hr2) ml_X13_130 lk_X13_isWork (ci := 11) rfl (hW.obj (rfl : kd 371 = 19) (by decide) (by decide)) (rest := [.ref (B.1 + 371)]) rfl rfl (by decide) (by decide) (Nat.le_of_ble_eq_true rfl) (Nat.le_refl 0) (Nat.le_refl 0) dX13_work_3 ?_
  refine J_bif_ne hx 13 dX13_work_6 rfl (fun h3 => ?_) (fun h3 => ?_)
  · replace h := pos h h3
    refine J_il4 hx rfl rfl dX13_work_13 ?_
    refine J_iconst hx (0 : Int32) dX13_work_14 rfl ?_
    refine J_bipush hx (7 : Int32) dX13_work_15 rfl ?_
    obtain ⟨r4, hr5, h⟩ := bnd h
    refine J_rdS hx (kX13_in  hW hr5) ml_X13_32 lk_X13_in (rest := [.ref (B.1 + 371)]) rfl rfl (by decide) (by decide) (Nat.le_of_ble_eq_true rfl) (Nat.le_refl 0) (Nat.le_refl 0) dX13_work_17 ?_
    refine J_bif_eq hx 27 dX13_work_20 rfl (fun h6 => ?_) (fun h6 => ?_)
    · replace h := neg h (bft h6)
      refine J_iconst hx (2 : Int32) dX13_work_27 rfl ?_
      exact tX13_work_28 hx hr _ _ _ _  hW h
    · replace h := pos h h6
      refine J_iconst hx (0 : Int32) dX13_work_23 rfl ?_
      refine J_goto hx 28 dX13_work_24 rfl ?_
      exact tX13_work_28 hx hr _ _ _ _  hW h
  · replace h := neg h (bft h3)
    refine J_iconst hx (1 : Int32) dX13_work_9 rfl ?_
    refine J_goto hx 28 dX13_work_10 rfl ?_
    exact tX13_work_28 hx hr _ _ _ _  hW h
theorem dX13_notedOf_0 : decode cX13_notedOf 0 = .ok (.iload_n 2, 1) := by decide +kernel
theorem dX13_notedOf_1 : decode cX13_notedOf 1 = .ok (.aload_n 0, 1) := by decide +kernel
theorem dX13_notedOf_2 : decode cX13_notedOf 2 = .ok (.iload_n 1, 1) := by decide +kernel
theorem dX13_notedOf_3 : decode cX13_notedOf 3 = .ok (.bipush 7, 2) := by decide +kernel
theorem dX13_notedOf_5 : decode cX13_notedOf 5 = .ok (.invokevirtual 51, 3) := by decide +kernel
theorem dX13_notedOf_8 : decode cX13_notedOf 8 = .ok (.if_icmp .ge 15, 3) := by decide +kernel
theorem dX13_notedOf_11 : decode cX13_notedOf 11 = .ok (.aload_n 0, 1) := by decide +kernel
theorem dX13_notedOf_12 : decode cX13_notedOf 12 = .ok (.iload_n 1, 1) := by decide +kernel
theorem dX13_notedOf_13 : decode cX13_notedOf 13 = .ok (.bipush 8, 2) := by decide +kernel
theorem dX13_notedOf_15 : decode cX13_notedOf 15 = .ok (.iload_n 2, 1) := by decide +kernel
theorem dX13_notedOf_16 : decode cX13_notedOf 16 = .ok (.iadd, 1) := by decide +kernel
theorem dX13_notedOf_17 : decode cX13_notedOf 17 = .ok (.invokevirtual 51, 3) := by decide +kernel
theorem dX13_notedOf_20 : decode cX13_notedOf 20 = .ok (.goto 4, 3) := by decide +kernel
theorem dX13_notedOf_23 : decode cX13_notedOf 23 = .ok (.iconst (-1), 1) := by decide +kernel
theorem dX13_notedOf_24 : decode cX13_notedOf 24 = .ok (.ireturn, 1) := by decide +kernel
def sX13_notedOf (w : Wl) (l1 : Int32) (l2 : Int32) : Option Int32 := (sX13_ofWork w l1 (7 : Int32)).bind (fun r1 => (if r1 ≤ l2 then some (-1 : Int32) else (sX13_ofWork w l1 ((8 : Int32) + l2)).bind (fun r4 => some r4)))
theorem kX13_notedOf {l : Launch} {Γ : Gl} {B : Bs} {w : Wl} {G : Gf} {sz : Nat} {l1 : Int32} {l2 : Int32} {r : Int32} (hW : Wd Γ B w G) (h : sX13_notedOf w l1 l2 = some r) : CtR l Γ yX13_notedOf cX13_notedOf 3 (some .int) 1 [.ref (B.1 + 371), .int l1, .int l2] G sz (.int (r)) := by
  refine Ct.of rfl (Nat.le_of_ble_eq_true rfl) fun X hx hr hl hΓ hnm => ?_
  subst hl hΓ
  show J X 3 G sz 0 0 0 [some (.ref (B.1 + 371)), some (.int l1), some (.int l2)] []
  unfold sX13_notedOf at h
  refine J_il4 hx rfl rfl dX13_notedOf_0 ?_
  refine J_al4 hx rfl rfl dX13_notedOf_1 ?_
  refine J_il4 hx rfl rfl dX13_notedOf_2 ?_
  refine J_bipush hx (7 : Int32) dX13_notedOf_3 rfl ?_
  obtain ⟨r1, hr2, h⟩ := bnd h
  refine J_rdV hx (kX13_ofWork  hW hr2) ml_X13_51 lk_X13_ofWork (ci := 11) rfl (hW.obj (rfl : kd 371 = 19) (by decide) (by decide)) (rest := [.int l2]) rfl rfl (by decide) (by decide) (Nat.le_of_ble_eq_true rfl) (Nat.le_refl 0) (Nat.le_refl 0) dX13_notedOf_5 ?_
  refine J_icmp_ge hx 23 dX13_notedOf_8 rfl (fun h3 => ?_) (fun h3 => ?_)
  · replace h := pos h h3
    refine J_iconst hx (-1 : Int32) dX13_notedOf_23 rfl ?_
    exact J_iretR hx hr dX13_notedOf_24 (Nat.le_refl 0) (Nat.le_refl 0) (Option.some.inj h)
  · replace h := neg h h3
    refine J_al4 hx rfl rfl dX13_notedOf_11 ?_
    refine J_il4 hx rfl rfl dX13_notedOf_12 ?_
    refine J_bipush hx (8 : Int32) dX13_notedOf_13 rfl ?_
    refine J_il4 hx rfl rfl dX13_notedOf_15 ?_
    refine J_iadd hx dX13_notedOf_16 ?_
    obtain ⟨r4, hr5, h⟩ := bnd h
    refine J_rdV hx (kX13_ofWork  hW hr5) ml_X13_51 lk_X13_ofWork (ci := 11) rfl (hW.obj (rfl : kd 371 = 19) (by decide) (by decide)) (rest := []) rfl rfl (by decide) (by decide) (Nat.le_of_ble_eq_true rfl) (Nat.le_refl 0) (Nat.le_refl 0) dX13_notedOf_17 ?_
    refine J_goto hx 24 dX13_notedOf_20 rfl ?_
    exact J_iretR hx hr dX13_notedOf_24 (Nat.le_refl 0) (Nat.le_refl 0) (Option.some.inj h)
theorem dX13_noted_0 : decode cX13_noted 0 = .ok (.aload_n 0, 1) := by decide +kernel
theorem dX13_noted_1 : decode cX13_noted 1 = .ok (.aload_n 0, 1) := by decide +kernel
theorem dX13_noted_2 : decode cX13_noted 2 = .ok (.iload_n 1, 1) := by decide +kernel
theorem dX13_noted_3 : decode cX13_noted 3 = .ok (.invokevirtual 130, 3) := by decide +kernel
theorem dX13_noted_6 : decode cX13_noted 6 = .ok (.ifCond .ne 7, 3) := by decide +kernel
theorem dX13_noted_9 : decode cX13_noted 9 = .ok (.iconst 1, 1) := by decide +kernel
theorem dX13_noted_10 : decode cX13_noted 10 = .ok (.goto 12, 3) := by decide +kernel
theorem dX13_noted_13 : decode cX13_noted 13 = .ok (.iload_n 2, 1) := by decide +kernel
theorem dX13_noted_14 : decode cX13_noted 14 = .ok (.ifCond .ge 7, 3) := by decide +kernel
theorem dX13_noted_17 : decode cX13_noted 17 = .ok (.iconst 2, 1) := by decide +kernel
theorem dX13_noted_18 : decode cX13_noted 18 = .ok (.goto 4, 3) := by decide +kernel
theorem dX13_noted_21 : decode cX13_noted 21 = .ok (.iconst 0, 1) := by decide +kernel
theorem dX13_noted_22 : decode cX13_noted 22 = .ok (.putfield 25, 3) := by decide +kernel
theorem dX13_noted_25 : decode cX13_noted 25 = .ok (.aload_n 0, 1) := by decide +kernel
theorem dX13_noted_26 : decode cX13_noted 26 = .ok (.getfield 25, 3) := by decide +kernel
theorem dX13_noted_29 : decode cX13_noted 29 = .ok (.ifCond .eq 7, 3) := by decide +kernel
theorem dX13_noted_32 : decode cX13_noted 32 = .ok (.iconst 0, 1) := by decide +kernel
theorem dX13_noted_33 : decode cX13_noted 33 = .ok (.goto 9, 3) := by decide +kernel
theorem dX13_noted_36 : decode cX13_noted 36 = .ok (.aload_n 0, 1) := by decide +kernel
theorem dX13_noted_37 : decode cX13_noted 37 = .ok (.iload_n 1, 1) := by decide +kernel
theorem dX13_noted_38 : decode cX13_noted 38 = .ok (.iload_n 2, 1) := by decide +kernel
theorem dX13_noted_39 : decode cX13_noted 39 = .ok (.invokevirtual 215, 3) := by decide +kernel
theorem dX13_noted_42 : decode cX13_noted 42 = .ok (.ireturn, 1) := by decide +kernel
def sX13_noted_22 (w : Wl) (l1 : Int32) (l2 : Int32) (s1 : Int32) : Option (Int32 × Wl) := (if ((wst w 371 5 s1) 371 5) = 0 then (sX13_notedOf (wst w 371 5 s1) l1 l2).bind (fun r4 => some (r4, (wst w 371 5 s1))) else some ((0 : Int32), (wst w 371 5 s1)))
theorem tX13_noted_22 {X : Cx} {B : Bs} {sz : Nat} {r : (Int32 × Wl)} (hx : Fx X cX13_noted 3 RX13 2 0 0) (hr : Rt X (some .int) 0 0 (WΨ (xΓ X) B (some (.int (r.1))) r.2 sz)) : ∀ (w : Wl) (l1 : Int32) (l2 : Int32) (s1 : Int32) {G : Gf} (hW : Wd (xΓ X) B w G) (h : sX13_noted_22  w l1 l2 s1 = some r), J X 3 G sz 0 0 22 [some (.ref (B.1 + 371)), some (.int l1), some (.int l2)] [.int s1, .ref (B.1 + 371)] := by
  intro w l1 l2 s1 G hW h
  unfold sX13_noted_22 at h
  refine p13_5 hx hW (rfl : kd 371 = 19) fl_X13_25 dX13_noted_22 fun G1 hW2 => ?_
  refine J_al4 hx rfl rfl dX13_noted_25 ?_
  refine g13_5 hx hW2 (rfl : kd 371 = 19) fl_X13_25 dX13_noted_26 ?_
  refine J_if_eq hx 36 dX13_noted_29 rfl (fun h3 => ?_) (fun h3 => ?_)
  · replace h := pos h h3
    refine J_al4 hx rfl rfl dX13_noted_36 ?_
    refine J_il4 hx rfl rfl dX13_noted_37 ?_
    refine J_il4 hx rfl rfl dX13_noted_38 ?_
    obtain ⟨r4, hr5, h⟩ := bnd h
    refine J_rdV hx (kX13_notedOf  hW2 hr5) ml_X13_215 lk_X13_notedOf (ci := 11) rfl (hW2.obj (rfl : kd 371 = 19) (by decide) (by decide)) (rest := []) rfl rfl (by decide) (by decide) (Nat.le_of_ble_eq_true rfl) (Nat.le_refl 0) (Nat.le_refl 0) dX13_noted_39 ?_
    obtain rfl := Option.some.inj h
    exact J_iretW hx hr hW2 dX13_noted_42 (Nat.le_refl 0) (Nat.le_refl 0)
  · replace h := neg h h3
    refine J_iconst hx (0 : Int32) dX13_noted_32 rfl ?_
    refine J_goto hx 42 dX13_noted_33 rfl ?_
    obtain rfl := Option.some.inj h
    exact J_iretW hx hr hW2 dX13_noted_42 (Nat.le_refl 0) (Nat.le_refl 0)
def sX13_noted (w : Wl) (l1 : Int32) (l2 : Int32) : Option (Int32 × Wl) := (sX13_isWork w l1).bind (fun r1 => (if r1 = true then (if 0 ≤ l2 then sX13_noted_22 w l1 l2 (0 : Int32) else sX13_noted_22 w l1 l2 (2 : Int32)) else sX13_noted_22 w l1 l2 (1 : Int32)))
theorem kX13_noted {l : Launch} {Γ : Gl} {B : Bs} {w : Wl} {G : Gf} {sz : Nat} {l1 : Int32} {l2 : Int32} {r : (Int32 × Wl)} (hW : Wd Γ B w G) (h : sX13_noted w l1 l2 = some r) : CtW l Γ yX13_noted cX13_noted 3 (some .int) 2 [.ref (B.1 + 371), .int l1, .int l2] G sz B (some (.int (r.1))) r.2 := by
  refine Ct.of rfl (Nat.le_of_ble_eq_true rfl) fun X hx hr hl hΓ hnm => ?_
  subst hl hΓ
  show J X 3 G sz 0 0 0 [some (.ref (B.1 + 371)), some (.int l1), some (.int l2)] []
  unfold sX13_noted at h
  refine J_al4 hx rfl rfl dX13_noted_0 ?_
  refine J_al4 hx rfl rfl dX13_noted_1 ?_
  refine J_il4 hx rfl rfl dX13_noted_2 ?_
  obtain ⟨r1, hr2, h⟩ := bnd h
  refine J_rdV hx (kX13_isWork  hW hr2) ml_X13_130 lk_X13_isWork (ci := 11) rfl (hW.obj (rfl : kd 371 = 19) (by decide) (by decide)) (rest := [.ref (B.1 + 371)]) rfl rfl (by decide) (by decide) (Nat.le_of_ble_eq_true rfl) (Nat.le_refl 0) (Nat.le_refl 0) dX13_noted_3 ?_
  refine J_bif_ne hx 13 dX13_noted_6 rfl (fun h3 => ?_) (fun h3 => ?_)
  · replace h := pos h h3
    refine J_il4 hx rfl rfl dX13_noted_13 ?_
    refine J_if_ge hx 21 dX13_noted_14 rfl (fun h4 => ?_) (fun h4 => ?_)
    · replace h := pos h h4
      refine J_iconst hx (0 : Int32) dX13_noted_21 rfl ?_
      exact tX13_noted_22 hx hr _ _ _ _  hW h
    · replace h := neg h h4
      refine J_iconst hx (2 : Int32) dX13_noted_17 rfl ?_
      refine J_goto hx 22 dX13_noted_18 rfl ?_
      exact tX13_noted_22 hx hr _ _ _ _  hW h
  · replace h := neg h (bft h3)
    refine J_iconst hx (1 : Int32) dX13_noted_9 rfl ?_
    refine J_goto hx 22 dX13_noted_10 rfl ?_
    exact tX13_noted_22 hx hr _ _ _ _  hW h
theorem dX13_valuesAt_0 : decode cX13_valuesAt 0 = .ok (.iconst 0, 1) := by decide +kernel
theorem dX13_valuesAt_1 : decode cX13_valuesAt 1 = .ok (.istore_n 3, 1) := by decide +kernel
theorem dX13_valuesAt_2 : decode cX13_valuesAt 2 = .ok (.iconst 0, 1) := by decide +kernel
theorem dX13_valuesAt_3 : decode cX13_valuesAt 3 = .ok (.istore 4, 2) := by decide +kernel
theorem dX13_valuesAt_5 : decode cX13_valuesAt 5 = .ok (.iload 4, 2) := by decide +kernel
theorem dX13_valuesAt_7 : decode cX13_valuesAt 7 = .ok (.aload_n 0, 1) := by decide +kernel
theorem dX13_valuesAt_8 : decode cX13_valuesAt 8 = .ok (.getfield 7, 3) := by decide +kernel
theorem dX13_valuesAt_11 : decode cX13_valuesAt 11 = .ok (.iconst 3, 1) := by decide +kernel
theorem dX13_valuesAt_12 : decode cX13_valuesAt 12 = .ok (.iaload, 1) := by decide +kernel
theorem dX13_valuesAt_13 : decode cX13_valuesAt 13 = .ok (.if_icmp .ge 46, 3) := by decide +kernel
theorem dX13_valuesAt_16 : decode cX13_valuesAt 16 = .ok (.iload_n 3, 1) := by decide +kernel
theorem dX13_valuesAt_17 : decode cX13_valuesAt 17 = .ok (.iload_n 2, 1) := by decide +kernel
theorem dX13_valuesAt_18 : decode cX13_valuesAt 18 = .ok (.ifCond .eq 12, 3) := by decide +kernel
theorem dX13_valuesAt_21 : decode cX13_valuesAt 21 = .ok (.aload_n 0, 1) := by decide +kernel
theorem dX13_valuesAt_22 : decode cX13_valuesAt 22 = .ok (.iload 4, 2) := by decide +kernel
theorem dX13_valuesAt_24 : decode cX13_valuesAt 24 = .ok (.invokevirtual 148, 3) := by decide +kernel
theorem dX13_valuesAt_27 : decode cX13_valuesAt 27 = .ok (.goto 9, 3) := by decide +kernel
theorem dX13_valuesAt_30 : decode cX13_valuesAt 30 = .ok (.aload_n 0, 1) := by decide +kernel
theorem dX13_valuesAt_31 : decode cX13_valuesAt 31 = .ok (.iload 4, 2) := by decide +kernel
theorem dX13_valuesAt_33 : decode cX13_valuesAt 33 = .ok (.invokevirtual 145, 3) := by decide +kernel
theorem dX13_valuesAt_36 : decode cX13_valuesAt 36 = .ok (.iload_n 1, 1) := by decide +kernel
theorem dX13_valuesAt_37 : decode cX13_valuesAt 37 = .ok (.if_icmp .ne 13, 3) := by decide +kernel
theorem dX13_valuesAt_40 : decode cX13_valuesAt 40 = .ok (.aload_n 0, 1) := by decide +kernel
theorem dX13_valuesAt_41 : decode cX13_valuesAt 41 = .ok (.iload 4, 2) := by decide +kernel
theorem dX13_valuesAt_43 : decode cX13_valuesAt 43 = .ok (.iconst 1, 1) := by decide +kernel
theorem dX13_valuesAt_44 : decode cX13_valuesAt 44 = .ok (.invokevirtual 51, 3) := by decide +kernel
theorem dX13_valuesAt_47 : decode cX13_valuesAt 47 = .ok (.goto 4, 3) := by decide +kernel
theorem dX13_valuesAt_50 : decode cX13_valuesAt 50 = .ok (.iconst 0, 1) := by decide +kernel
theorem dX13_valuesAt_51 : decode cX13_valuesAt 51 = .ok (.iadd, 1) := by decide +kernel
theorem dX13_valuesAt_52 : decode cX13_valuesAt 52 = .ok (.istore_n 3, 1) := by decide +kernel
theorem dX13_valuesAt_53 : decode cX13_valuesAt 53 = .ok (.iinc 4 1, 3) := by decide +kernel
theorem dX13_valuesAt_56 : decode cX13_valuesAt 56 = .ok (.goto (-51), 3) := by decide +kernel
theorem dX13_valuesAt_59 : decode cX13_valuesAt 59 = .ok (.iload_n 3, 1) := by decide +kernel
theorem dX13_valuesAt_60 : decode cX13_valuesAt 60 = .ok (.ireturn, 1) := by decide +kernel
def sX13_valuesAt_36 (k5 : Wl → Int32 → Int32 → Int32 → Int32 → Option Int32) (w : Wl) (l1 : Int32) (l2 : Int32) (l4 : Int32) (s0 : Int32) (s1 : Int32) : Option Int32 := (if s1 = l1 then (sX13_ofWork w l4 (1 : Int32)).bind (fun r2 => k5 w l1 l2 (s0 + r2) (l4 + 1)) else k5 w l1 l2 (s0 + (0 : Int32)) (l4 + 1))
theorem tX13_valuesAt_36 {X : Cx} {B : Bs} {sz : Nat} {G : Gf} {r : Int32} (hx : Fx X cX13_valuesAt 5 RX13 4 0 0) (hr : Rt X (some .int) 0 0 (RdΨ (.int (r)) G sz)) (k5 : Wl → Int32 → Int32 → Int32 → Int32 → Option Int32) (hk5 : ∀ (w : Wl) (l1 : Int32) (l2 : Int32) (l3 : Int32) (l4 : Int32) (hW : Wd (xΓ X) B w G) (h : k5 w l1 l2 l3 l4 = some r), J X 5 G sz 0 0 5 [some (.ref (B.1 + 371)), some (.int l1), some (.int l2), some (.int l3), some (.int l4)] []) : ∀ (w : Wl) (l1 : Int32) (l2 : Int32) (l4 : Int32) (s0 : Int32) (s1 : Int32) (hW : Wd (xΓ X) B w G) (h : sX13_valuesAt_36 k5  w l1 l2 l4 s0 s1 = some r), J X 5 G sz 0 0 36 [some (.ref (B.1 + 371)), some (.int l1), some (.int l2), none, some (.int l4)] [.int s1, .int s0] := by
  intro w l1 l2 l4 s0 s1 hW h
  unfold sX13_valuesAt_36 at h
  refine J_il4 hx rfl rfl dX13_valuesAt_36 ?_
  refine J_icmp_ne hx 50 dX13_valuesAt_37 rfl (fun h1 => ?_) (fun h1 => ?_)
  · replace h := neg h h1
    refine J_iconst hx (0 : Int32) dX13_valuesAt_50 rfl ?_
    refine J_iadd hx dX13_valuesAt_51 ?_
    refine J_is4 hx rfl (by decide) (hc_of rfl) rfl dX13_valuesAt_52 ?_
    refine J_iinc hx (v' := (l4 + 1)) rfl rfl (by decide) (hc_of rfl) rfl dX13_valuesAt_53 ?_
    refine J_goto hx 5 dX13_valuesAt_56 rfl ?_
    exact hk5 _ _ _ _ _  hW h
  · replace h := pos h h1
    refine J_al4 hx rfl rfl dX13_valuesAt_40 ?_
    refine J_il hx rfl dX13_valuesAt_41 ?_
    refine J_iconst hx (1 : Int32) dX13_valuesAt_43 rfl ?_
    obtain ⟨r2, hr3, h⟩ := bnd h
    refine J_rdV hx (kX13_ofWork  hW hr3) ml_X13_51 lk_X13_ofWork (ci := 11) rfl (hW.obj (rfl : kd 371 = 19) (by decide) (by decide)) (rest := [.int s0]) rfl rfl (by decide) (by decide) (Nat.le_of_ble_eq_true rfl) (Nat.le_refl 0) (Nat.le_refl 0) dX13_valuesAt_44 ?_
    refine J_goto hx 51 dX13_valuesAt_47 rfl ?_
    refine J_iadd hx dX13_valuesAt_51 ?_
    refine J_is4 hx rfl (by decide) (hc_of rfl) rfl dX13_valuesAt_52 ?_
    refine J_iinc hx (v' := (l4 + 1)) rfl rfl (by decide) (hc_of rfl) rfl dX13_valuesAt_53 ?_
    refine J_goto hx 5 dX13_valuesAt_56 rfl ?_
    exact hk5 _ _ _ _ _  hW h
def sX13_valuesAt_5 : Nat → Wl → Int32 → Int32 → Int32 → Int32 → Option Int32
  | 0, _, _, _, _, _ => none
  | n + 1, w, l1, l2, l3, l4 => (if (w 372 3) ≤ l4 then some l3 else (if l2 = 0 then (sX13_standsIn w l4).bind (fun r3 => sX13_valuesAt_36 (fun w l1 l2 l3 l4 => sX13_valuesAt_5 n w l1 l2 l3 l4) w l1 l2 l4 l3 r3) else (sX13_goesTo w l4).bind (fun r5 => sX13_valuesAt_36 (fun w l1 l2 l3 l4 => sX13_valuesAt_5 n w l1 l2 l3 l4) w l1 l2 l4 l3 r5)))
theorem tX13_valuesAt_5 {X : Cx} {B : Bs} {sz : Nat} {G : Gf} {r : Int32} (hx : Fx X cX13_valuesAt 5 RX13 4 0 0) (hr : Rt X (some .int) 0 0 (RdΨ (.int (r)) G sz)) : ∀ (n : Nat), ∀ (w : Wl) (l1 : Int32) (l2 : Int32) (l3 : Int32) (l4 : Int32) (hW : Wd (xΓ X) B w G) (h : sX13_valuesAt_5 n w l1 l2 l3 l4 = some r), J X 5 G sz 0 0 5 [some (.ref (B.1 + 371)), some (.int l1), some (.int l2), some (.int l3), some (.int l4)] [] := by
  intro n
  induction n with
  | zero => intro w l1 l2 l3 l4 hW h; rw [sX13_valuesAt_5.eq_1] at h; cases h
  | succ n ih =>
    intro w l1 l2 l3 l4 hW h
    rw [sX13_valuesAt_5.eq_2] at h
    refine J_il hx rfl dX13_valuesAt_5 ?_
    refine J_al4 hx rfl rfl dX13_valuesAt_7 ?_
    refine g13_0 hx hW 372 (rfl : kd 371 = 19) fl_X13_7 rfl dX13_valuesAt_8 ?_
    refine J_iconst hx (3 : Int32) dX13_valuesAt_11 rfl ?_
    refine J_iaW hx hW (rfl : kd 372 = 641) (by decide +kernel : idx (3 : Int32) 541 = some 3) dX13_valuesAt_12 ?_
    refine J_icmp_ge hx 59 dX13_valuesAt_13 rfl (fun h1 => ?_) (fun h1 => ?_)
    · replace h := pos h h1
      refine J_il4 hx rfl rfl dX13_valuesAt_59 ?_
      exact J_iretR hx hr dX13_valuesAt_60 (Nat.le_refl 0) (Nat.le_refl 0) (Option.some.inj h)
    · replace h := neg h h1
      refine J_il4 hx rfl rfl dX13_valuesAt_16 ?_
      refine J_il4 hx rfl rfl dX13_valuesAt_17 ?_
      refine J_if_eq hx 30 dX13_valuesAt_18 rfl (fun h2 => ?_) (fun h2 => ?_)
      · replace h := pos h h2
        refine J_al4 hx rfl rfl dX13_valuesAt_30 ?_
        refine J_il hx rfl dX13_valuesAt_31 ?_
        obtain ⟨r3, hr4, h⟩ := bnd h
        refine J_rdV hx (kX13_standsIn  hW hr4) ml_X13_145 lk_X13_standsIn (ci := 11) rfl (hW.obj (rfl : kd 371 = 19) (by decide) (by decide)) (rest := [.int l3]) rfl rfl (by decide) (by decide) (Nat.le_of_ble_eq_true rfl) (Nat.le_refl 0) (Nat.le_refl 0) dX13_valuesAt_33 ?_
        refine J_lw (ls' := [some (.ref (B.1 + 371)), some (.int l1), some (.int l2), none, some (.int l4)]) (lwS (lwS (lwS (lwN (lwS lwZ))))) ?_
        exact tX13_valuesAt_36 hx hr _ ih _ _ _ _ _ _  hW h
      · replace h := neg h h2
        refine J_al4 hx rfl rfl dX13_valuesAt_21 ?_
        refine J_il hx rfl dX13_valuesAt_22 ?_
        obtain ⟨r5, hr6, h⟩ := bnd h
        refine J_rdV hx (kX13_goesTo  hW hr6) ml_X13_148 lk_X13_goesTo (ci := 11) rfl (hW.obj (rfl : kd 371 = 19) (by decide) (by decide)) (rest := [.int l3]) rfl rfl (by decide) (by decide) (Nat.le_of_ble_eq_true rfl) (Nat.le_refl 0) (Nat.le_refl 0) dX13_valuesAt_24 ?_
        refine J_goto hx 36 dX13_valuesAt_27 rfl ?_
        refine J_lw (ls' := [some (.ref (B.1 + 371)), some (.int l1), some (.int l2), none, some (.int l4)]) (lwS (lwS (lwS (lwN (lwS lwZ))))) ?_
        exact tX13_valuesAt_36 hx hr _ ih _ _ _ _ _ _  hW h
def sX13_valuesAt (w : Wl) (l1 : Int32) (l2 : Int32) : Option Int32 := sX13_valuesAt_5 FU w l1 l2 (0 : Int32) (0 : Int32)
theorem kX13_valuesAt {l : Launch} {Γ : Gl} {B : Bs} {w : Wl} {G : Gf} {sz : Nat} {l1 : Int32} {l2 : Int32} {r : Int32} (hW : Wd Γ B w G) (h : sX13_valuesAt w l1 l2 = some r) : CtR l Γ yX13_valuesAt cX13_valuesAt 5 (some .int) 4 [.ref (B.1 + 371), .int l1, .int l2] G sz (.int (r)) := by
  refine Ct.of rfl (Nat.le_of_ble_eq_true rfl) fun X hx hr hl hΓ hnm => ?_
  subst hl hΓ
  show J X 5 G sz 0 0 0 [some (.ref (B.1 + 371)), some (.int l1), some (.int l2), none, none] []
  unfold sX13_valuesAt at h
  refine J_iconst hx (0 : Int32) dX13_valuesAt_0 rfl ?_
  refine J_is4 hx rfl (by decide) (hc_of rfl) rfl dX13_valuesAt_1 ?_
  refine J_iconst hx (0 : Int32) dX13_valuesAt_2 rfl ?_
  refine J_is hx (by decide) (hc_of rfl) rfl dX13_valuesAt_3 ?_
  exact tX13_valuesAt_5 hx hr _ _ _ _ _ _  hW h
theorem dX13_cratesAt_0 : decode cX13_cratesAt 0 = .ok (.iconst 0, 1) := by decide +kernel
theorem dX13_cratesAt_1 : decode cX13_cratesAt 1 = .ok (.istore_n 2, 1) := by decide +kernel
theorem dX13_cratesAt_2 : decode cX13_cratesAt 2 = .ok (.iconst 0, 1) := by decide +kernel
theorem dX13_cratesAt_3 : decode cX13_cratesAt 3 = .ok (.istore_n 3, 1) := by decide +kernel
theorem dX13_cratesAt_4 : decode cX13_cratesAt 4 = .ok (.iload_n 3, 1) := by decide +kernel
theorem dX13_cratesAt_5 : decode cX13_cratesAt 5 = .ok (.aload_n 0, 1) := by decide +kernel
theorem dX13_cratesAt_6 : decode cX13_cratesAt 6 = .ok (.getfield 7, 3) := by decide +kernel
theorem dX13_cratesAt_9 : decode cX13_cratesAt 9 = .ok (.iconst 2, 1) := by decide +kernel
theorem dX13_cratesAt_10 : decode cX13_cratesAt 10 = .ok (.iaload, 1) := by decide +kernel
theorem dX13_cratesAt_11 : decode cX13_cratesAt 11 = .ok (.if_icmp .ge 37, 3) := by decide +kernel
theorem dX13_cratesAt_14 : decode cX13_cratesAt 14 = .ok (.iload_n 2, 1) := by decide +kernel
theorem dX13_cratesAt_15 : decode cX13_cratesAt 15 = .ok (.aload_n 0, 1) := by decide +kernel
theorem dX13_cratesAt_16 : decode cX13_cratesAt 16 = .ok (.iload_n 3, 1) := by decide +kernel
theorem dX13_cratesAt_17 : decode cX13_cratesAt 17 = .ok (.iconst 2, 1) := by decide +kernel
theorem dX13_cratesAt_18 : decode cX13_cratesAt 18 = .ok (.invokevirtual 36, 3) := by decide +kernel
theorem dX13_cratesAt_21 : decode cX13_cratesAt 21 = .ok (.iconst (-1), 1) := by decide +kernel
theorem dX13_cratesAt_22 : decode cX13_cratesAt 22 = .ok (.if_icmp .ne 17, 3) := by decide +kernel
theorem dX13_cratesAt_25 : decode cX13_cratesAt 25 = .ok (.aload_n 0, 1) := by decide +kernel
theorem dX13_cratesAt_26 : decode cX13_cratesAt 26 = .ok (.iload_n 3, 1) := by decide +kernel
theorem dX13_cratesAt_27 : decode cX13_cratesAt 27 = .ok (.iconst 3, 1) := by decide +kernel
theorem dX13_cratesAt_28 : decode cX13_cratesAt 28 = .ok (.invokevirtual 36, 3) := by decide +kernel
theorem dX13_cratesAt_31 : decode cX13_cratesAt 31 = .ok (.iload_n 1, 1) := by decide +kernel
theorem dX13_cratesAt_32 : decode cX13_cratesAt 32 = .ok (.if_icmp .ne 7, 3) := by decide +kernel
theorem dX13_cratesAt_35 : decode cX13_cratesAt 35 = .ok (.iconst 1, 1) := by decide +kernel
theorem dX13_cratesAt_36 : decode cX13_cratesAt 36 = .ok (.goto 4, 3) := by decide +kernel
theorem dX13_cratesAt_39 : decode cX13_cratesAt 39 = .ok (.iconst 0, 1) := by decide +kernel
theorem dX13_cratesAt_40 : decode cX13_cratesAt 40 = .ok (.iadd, 1) := by decide +kernel
theorem dX13_cratesAt_41 : decode cX13_cratesAt 41 = .ok (.istore_n 2, 1) := by decide +kernel
theorem dX13_cratesAt_42 : decode cX13_cratesAt 42 = .ok (.iinc 3 1, 3) := by decide +kernel
theorem dX13_cratesAt_45 : decode cX13_cratesAt 45 = .ok (.goto (-41), 3) := by decide +kernel
theorem dX13_cratesAt_48 : decode cX13_cratesAt 48 = .ok (.iload_n 2, 1) := by decide +kernel
theorem dX13_cratesAt_49 : decode cX13_cratesAt 49 = .ok (.ireturn, 1) := by decide +kernel
def sX13_cratesAt_4 : Nat → Wl → Int32 → Int32 → Int32 → Option Int32
  | 0, _, _, _, _ => none
  | n + 1, w, l1, l2, l3 => (if (w 372 2) ≤ l3 then some l2 else (sX13_of w l3 (2 : Int32)).bind (fun r2 => (if r2 = (-1 : Int32) then (sX13_of w l3 (3 : Int32)).bind (fun r5 => (if r5 = l1 then sX13_cratesAt_4 n w l1 (l2 + (1 : Int32)) (l3 + 1) else sX13_cratesAt_4 n w l1 (l2 + (0 : Int32)) (l3 + 1))) else sX13_cratesAt_4 n w l1 (l2 + (0 : Int32)) (l3 + 1))))
theorem tX13_cratesAt_4 {X : Cx} {B : Bs} {sz : Nat} {G : Gf} {r : Int32} (hx : Fx X cX13_cratesAt 4 RX13 1 0 0) (hr : Rt X (some .int) 0 0 (RdΨ (.int (r)) G sz)) : ∀ (n : Nat), ∀ (w : Wl) (l1 : Int32) (l2 : Int32) (l3 : Int32) (hW : Wd (xΓ X) B w G) (h : sX13_cratesAt_4 n w l1 l2 l3 = some r), J X 4 G sz 0 0 4 [some (.ref (B.1 + 371)), some (.int l1), some (.int l2), some (.int l3)] [] := by
  intro n
  induction n with
  | zero => intro w l1 l2 l3 hW h; rw [sX13_cratesAt_4.eq_1] at h; cases h
  | succ n ih =>
    intro w l1 l2 l3 hW h
    rw [sX13_cratesAt_4.eq_2] at h
    refine J_il4 hx rfl rfl dX13_cratesAt_4 ?_
    refine J_al4 hx rfl rfl dX13_cratesAt_5 ?_
    refine g13_0 hx hW 372 (rfl : kd 371 = 19) fl_X13_7 rfl dX13_cratesAt_6 ?_
    refine J_iconst hx (2 : Int32) dX13_cratesAt_9 rfl ?_
    refine J_iaW hx hW (rfl : kd 372 = 641) (by decide +kernel : idx (2 : Int32) 541 = some 2) dX13_cratesAt_10 ?_
    refine J_icmp_ge hx 48 dX13_cratesAt_11 rfl (fun h1 => ?_) (fun h1 => ?_)
    · replace h := pos h h1
      refine J_il4 hx rfl rfl dX13_cratesAt_48 ?_
      exact J_iretR hx hr dX13_cratesAt_49 (Nat.le_refl 0) (Nat.le_refl 0) (Option.some.inj h)
    · replace h := neg h h1
      refine J_il4 hx rfl rfl dX13_cratesAt_14 ?_
      refine J_al4 hx rfl rfl dX13_cratesAt_15 ?_
      refine J_il4 hx rfl rfl dX13_cratesAt_16 ?_
      refine J_iconst hx (2 : Int32) dX13_cratesAt_17 rfl ?_
      obtain ⟨r2, hr3, h⟩ := bnd h
      refine J_rdV hx (kX13_of  hW hr3) ml_X13_36 lk_X13_of (ci := 11) rfl (hW.obj (rfl : kd 371 = 19) (by decide) (by decide)) (rest := [.int l2]) rfl rfl (by decide) (by decide) (Nat.le_of_ble_eq_true rfl) (Nat.le_refl 0) (Nat.le_refl 0) dX13_cratesAt_18 ?_
      refine J_iconst hx (-1 : Int32) dX13_cratesAt_21 rfl ?_
      refine J_icmp_ne hx 39 dX13_cratesAt_22 rfl (fun h4 => ?_) (fun h4 => ?_)
      · replace h := neg h h4
        refine J_iconst hx (0 : Int32) dX13_cratesAt_39 rfl ?_
        refine J_iadd hx dX13_cratesAt_40 ?_
        refine J_is4 hx rfl (by decide) (hc_of rfl) rfl dX13_cratesAt_41 ?_
        refine J_iinc hx (v' := (l3 + 1)) rfl rfl (by decide) (hc_of rfl) rfl dX13_cratesAt_42 ?_
        refine J_goto hx 4 dX13_cratesAt_45 rfl ?_
        exact ih _ _ _ _  hW h
      · replace h := pos h h4
        refine J_al4 hx rfl rfl dX13_cratesAt_25 ?_
        refine J_il4 hx rfl rfl dX13_cratesAt_26 ?_
        refine J_iconst hx (3 : Int32) dX13_cratesAt_27 rfl ?_
        obtain ⟨r5, hr6, h⟩ := bnd h
        refine J_rdV hx (kX13_of  hW hr6) ml_X13_36 lk_X13_of (ci := 11) rfl (hW.obj (rfl : kd 371 = 19) (by decide) (by decide)) (rest := [.int l2]) rfl rfl (by decide) (by decide) (Nat.le_of_ble_eq_true rfl) (Nat.le_refl 0) (Nat.le_refl 0) dX13_cratesAt_28 ?_
        refine J_il4 hx rfl rfl dX13_cratesAt_31 ?_
        refine J_icmp_ne hx 39 dX13_cratesAt_32 rfl (fun h7 => ?_) (fun h7 => ?_)
        · replace h := neg h h7
          refine J_iconst hx (0 : Int32) dX13_cratesAt_39 rfl ?_
          refine J_iadd hx dX13_cratesAt_40 ?_
          refine J_is4 hx rfl (by decide) (hc_of rfl) rfl dX13_cratesAt_41 ?_
          refine J_iinc hx (v' := (l3 + 1)) rfl rfl (by decide) (hc_of rfl) rfl dX13_cratesAt_42 ?_
          refine J_goto hx 4 dX13_cratesAt_45 rfl ?_
          exact ih _ _ _ _  hW h
        · replace h := pos h h7
          refine J_iconst hx (1 : Int32) dX13_cratesAt_35 rfl ?_
          refine J_goto hx 40 dX13_cratesAt_36 rfl ?_
          refine J_iadd hx dX13_cratesAt_40 ?_
          refine J_is4 hx rfl (by decide) (hc_of rfl) rfl dX13_cratesAt_41 ?_
          refine J_iinc hx (v' := (l3 + 1)) rfl rfl (by decide) (hc_of rfl) rfl dX13_cratesAt_42 ?_
          refine J_goto hx 4 dX13_cratesAt_45 rfl ?_
          exact ih _ _ _ _  hW h
def sX13_cratesAt (w : Wl) (l1 : Int32) : Option Int32 := sX13_cratesAt_4 FU w l1 (0 : Int32) (0 : Int32)
theorem kX13_cratesAt {l : Launch} {Γ : Gl} {B : Bs} {w : Wl} {G : Gf} {sz : Nat} {l1 : Int32} {r : Int32} (hW : Wd Γ B w G) (h : sX13_cratesAt w l1 = some r) : CtR l Γ yX13_cratesAt cX13_cratesAt 4 (some .int) 1 [.ref (B.1 + 371), .int l1] G sz (.int (r)) := by
  refine Ct.of rfl (Nat.le_of_ble_eq_true rfl) fun X hx hr hl hΓ hnm => ?_
  subst hl hΓ
  show J X 4 G sz 0 0 0 [some (.ref (B.1 + 371)), some (.int l1), none, none] []
  unfold sX13_cratesAt at h
  refine J_iconst hx (0 : Int32) dX13_cratesAt_0 rfl ?_
  refine J_is4 hx rfl (by decide) (hc_of rfl) rfl dX13_cratesAt_1 ?_
  refine J_iconst hx (0 : Int32) dX13_cratesAt_2 rfl ?_
  refine J_is4 hx rfl (by decide) (hc_of rfl) rfl dX13_cratesAt_3 ?_
  exact tX13_cratesAt_4 hx hr _ _ _ _ _  hW h
theorem dX13_couriersAt_0 : decode cX13_couriersAt 0 = .ok (.iconst 0, 1) := by decide +kernel
theorem dX13_couriersAt_1 : decode cX13_couriersAt 1 = .ok (.istore_n 2, 1) := by decide +kernel
theorem dX13_couriersAt_2 : decode cX13_couriersAt 2 = .ok (.iconst 0, 1) := by decide +kernel
theorem dX13_couriersAt_3 : decode cX13_couriersAt 3 = .ok (.istore_n 3, 1) := by decide +kernel
theorem dX13_couriersAt_4 : decode cX13_couriersAt 4 = .ok (.iload_n 3, 1) := by decide +kernel
theorem dX13_couriersAt_5 : decode cX13_couriersAt 5 = .ok (.aload_n 0, 1) := by decide +kernel
theorem dX13_couriersAt_6 : decode cX13_couriersAt 6 = .ok (.getfield 7, 3) := by decide +kernel
theorem dX13_couriersAt_9 : decode cX13_couriersAt 9 = .ok (.iconst 4, 1) := by decide +kernel
theorem dX13_couriersAt_10 : decode cX13_couriersAt 10 = .ok (.iaload, 1) := by decide +kernel
theorem dX13_couriersAt_11 : decode cX13_couriersAt 11 = .ok (.if_icmp .ge 33, 3) := by decide +kernel
theorem dX13_couriersAt_14 : decode cX13_couriersAt 14 = .ok (.iload_n 2, 1) := by decide +kernel
theorem dX13_couriersAt_15 : decode cX13_couriersAt 15 = .ok (.aload_n 0, 1) := by decide +kernel
theorem dX13_couriersAt_16 : decode cX13_couriersAt 16 = .ok (.getfield 7, 3) := by decide +kernel
theorem dX13_couriersAt_19 : decode cX13_couriersAt 19 = .ok (.sipush 137, 3) := by decide +kernel
theorem dX13_couriersAt_22 : decode cX13_couriersAt 22 = .ok (.iconst 2, 1) := by decide +kernel
theorem dX13_couriersAt_23 : decode cX13_couriersAt 23 = .ok (.iload_n 3, 1) := by decide +kernel
theorem dX13_couriersAt_24 : decode cX13_couriersAt 24 = .ok (.imul, 1) := by decide +kernel
theorem dX13_couriersAt_25 : decode cX13_couriersAt 25 = .ok (.iadd, 1) := by decide +kernel
theorem dX13_couriersAt_26 : decode cX13_couriersAt 26 = .ok (.iaload, 1) := by decide +kernel
theorem dX13_couriersAt_27 : decode cX13_couriersAt 27 = .ok (.iload_n 1, 1) := by decide +kernel
theorem dX13_couriersAt_28 : decode cX13_couriersAt 28 = .ok (.if_icmp .ne 7, 3) := by decide +kernel
theorem dX13_couriersAt_31 : decode cX13_couriersAt 31 = .ok (.iconst 1, 1) := by decide +kernel
theorem dX13_couriersAt_32 : decode cX13_couriersAt 32 = .ok (.goto 4, 3) := by decide +kernel
theorem dX13_couriersAt_35 : decode cX13_couriersAt 35 = .ok (.iconst 0, 1) := by decide +kernel
theorem dX13_couriersAt_36 : decode cX13_couriersAt 36 = .ok (.iadd, 1) := by decide +kernel
theorem dX13_couriersAt_37 : decode cX13_couriersAt 37 = .ok (.istore_n 2, 1) := by decide +kernel
theorem dX13_couriersAt_38 : decode cX13_couriersAt 38 = .ok (.iinc 3 1, 3) := by decide +kernel
theorem dX13_couriersAt_41 : decode cX13_couriersAt 41 = .ok (.goto (-37), 3) := by decide +kernel
theorem dX13_couriersAt_44 : decode cX13_couriersAt 44 = .ok (.iload_n 2, 1) := by decide +kernel
theorem dX13_couriersAt_45 : decode cX13_couriersAt 45 = .ok (.ireturn, 1) := by decide +kernel
def sX13_couriersAt_4 : Nat → Wl → Int32 → Int32 → Int32 → Option Int32
  | 0, _, _, _, _ => none
  | n + 1, w, l1, l2, l3 => (if (w 372 4) ≤ l3 then some l2 else (idx ((137 : Int32) + ((2 : Int32) * l3)) 541).bind (fun c2 => (if (w 372 c2) = l1 then sX13_couriersAt_4 n w l1 (l2 + (1 : Int32)) (l3 + 1) else sX13_couriersAt_4 n w l1 (l2 + (0 : Int32)) (l3 + 1))))
theorem tX13_couriersAt_4 {X : Cx} {B : Bs} {sz : Nat} {G : Gf} {r : Int32} (hx : Fx X cX13_couriersAt 4 RX13 0 0 0) (hr : Rt X (some .int) 0 0 (RdΨ (.int (r)) G sz)) : ∀ (n : Nat), ∀ (w : Wl) (l1 : Int32) (l2 : Int32) (l3 : Int32) (hW : Wd (xΓ X) B w G) (h : sX13_couriersAt_4 n w l1 l2 l3 = some r), J X 4 G sz 0 0 4 [some (.ref (B.1 + 371)), some (.int l1), some (.int l2), some (.int l3)] [] := by
  intro n
  induction n with
  | zero => intro w l1 l2 l3 hW h; rw [sX13_couriersAt_4.eq_1] at h; cases h
  | succ n ih =>
    intro w l1 l2 l3 hW h
    rw [sX13_couriersAt_4.eq_2] at h
    refine J_il4 hx rfl rfl dX13_couriersAt_4 ?_
    refine J_al4 hx rfl rfl dX13_couriersAt_5 ?_
    refine g13_0 hx hW 372 (rfl : kd 371 = 19) fl_X13_7 rfl dX13_couriersAt_6 ?_
    refine J_iconst hx (4 : Int32) dX13_couriersAt_9 rfl ?_
    refine J_iaW hx hW (rfl : kd 372 = 641) (by decide +kernel : idx (4 : Int32) 541 = some 4) dX13_couriersAt_10 ?_
    refine J_icmp_ge hx 44 dX13_couriersAt_11 rfl (fun h1 => ?_) (fun h1 => ?_)
    · replace h := pos h h1
      refine J_il4 hx rfl rfl dX13_couriersAt_44 ?_
      exact J_iretR hx hr dX13_couriersAt_45 (Nat.le_refl 0) (Nat.le_refl 0) (Option.some.inj h)
    · replace h := neg h h1
      refine J_il4 hx rfl rfl dX13_couriersAt_14 ?_
      refine J_al4 hx rfl rfl dX13_couriersAt_15 ?_
      refine g13_0 hx hW 372 (rfl : kd 371 = 19) fl_X13_7 rfl dX13_couriersAt_16 ?_
      refine J_sipush hx (137 : Int32) dX13_couriersAt_19 rfl ?_
      refine J_iconst hx (2 : Int32) dX13_couriersAt_22 rfl ?_
      refine J_il4 hx rfl rfl dX13_couriersAt_23 ?_
      refine J_imul hx dX13_couriersAt_24 ?_
      refine J_iadd hx dX13_couriersAt_25 ?_
      obtain ⟨c2, hc3, h⟩ := bnd h
      refine J_iaW hx hW (rfl : kd 372 = 641) hc3 dX13_couriersAt_26 ?_
      refine J_il4 hx rfl rfl dX13_couriersAt_27 ?_
      refine J_icmp_ne hx 35 dX13_couriersAt_28 rfl (fun h4 => ?_) (fun h4 => ?_)
      · replace h := neg h h4
        refine J_iconst hx (0 : Int32) dX13_couriersAt_35 rfl ?_
        refine J_iadd hx dX13_couriersAt_36 ?_
        refine J_is4 hx rfl (by decide) (hc_of rfl) rfl dX13_couriersAt_37 ?_
        refine J_iinc hx (v' := (l3 + 1)) rfl rfl (by decide) (hc_of rfl) rfl dX13_couriersAt_38 ?_
        refine J_goto hx 4 dX13_couriersAt_41 rfl ?_
        exact ih _ _ _ _  hW h
      · replace h := pos h h4
        refine J_iconst hx (1 : Int32) dX13_couriersAt_31 rfl ?_
        refine J_goto hx 36 dX13_couriersAt_32 rfl ?_
        refine J_iadd hx dX13_couriersAt_36 ?_
        refine J_is4 hx rfl (by decide) (hc_of rfl) rfl dX13_couriersAt_37 ?_
        refine J_iinc hx (v' := (l3 + 1)) rfl rfl (by decide) (hc_of rfl) rfl dX13_couriersAt_38 ?_
        refine J_goto hx 4 dX13_couriersAt_41 rfl ?_
        exact ih _ _ _ _  hW h
def sX13_couriersAt (w : Wl) (l1 : Int32) : Option Int32 := sX13_couriersAt_4 FU w l1 (0 : Int32) (0 : Int32)
theorem kX13_couriersAt {l : Launch} {Γ : Gl} {B : Bs} {w : Wl} {G : Gf} {sz : Nat} {l1 : Int32} {r : Int32} (hW : Wd Γ B w G) (h : sX13_couriersAt w l1 = some r) : CtR l Γ yX13_couriersAt cX13_couriersAt 4 (some .int) 0 [.ref (B.1 + 371), .int l1] G sz (.int (r)) := by
  refine Ct.of rfl (Nat.le_of_ble_eq_true rfl) fun X hx hr hl hΓ hnm => ?_
  subst hl hΓ
  show J X 4 G sz 0 0 0 [some (.ref (B.1 + 371)), some (.int l1), none, none] []
  unfold sX13_couriersAt at h
  refine J_iconst hx (0 : Int32) dX13_couriersAt_0 rfl ?_
  refine J_is4 hx rfl (by decide) (hc_of rfl) rfl dX13_couriersAt_1 ?_
  refine J_iconst hx (0 : Int32) dX13_couriersAt_2 rfl ?_
  refine J_is4 hx rfl (by decide) (hc_of rfl) rfl dX13_couriersAt_3 ?_
  exact tX13_couriersAt_4 hx hr _ _ _ _ _  hW h
theorem dX13_venueOfWhat_0 : decode cX13_venueOfWhat 0 = .ok (.iload_n 2, 1) := by decide +kernel
theorem dX13_venueOfWhat_1 : decode cX13_venueOfWhat 1 = .ok (.tableswitch 70 4 8 #[35, 35, 51, 57, 63], 35) := by decide +kernel
theorem dX13_venueOfWhat_36 : decode cX13_venueOfWhat 36 = .ok (.aload_n 0, 1) := by decide +kernel
theorem dX13_venueOfWhat_37 : decode cX13_venueOfWhat 37 = .ok (.iload_n 1, 1) := by decide +kernel
theorem dX13_venueOfWhat_38 : decode cX13_venueOfWhat 38 = .ok (.iload_n 2, 1) := by decide +kernel
theorem dX13_venueOfWhat_39 : decode cX13_venueOfWhat 39 = .ok (.iconst 5, 1) := by decide +kernel
theorem dX13_venueOfWhat_40 : decode cX13_venueOfWhat 40 = .ok (.if_icmp .ne 7, 3) := by decide +kernel
theorem dX13_venueOfWhat_43 : decode cX13_venueOfWhat 43 = .ok (.iconst 1, 1) := by decide +kernel
theorem dX13_venueOfWhat_44 : decode cX13_venueOfWhat 44 = .ok (.goto 4, 3) := by decide +kernel
theorem dX13_venueOfWhat_47 : decode cX13_venueOfWhat 47 = .ok (.iconst 0, 1) := by decide +kernel
theorem dX13_venueOfWhat_48 : decode cX13_venueOfWhat 48 = .ok (.invokevirtual 218, 3) := by decide +kernel
theorem dX13_venueOfWhat_51 : decode cX13_venueOfWhat 51 = .ok (.ireturn, 1) := by decide +kernel
theorem dX13_venueOfWhat_52 : decode cX13_venueOfWhat 52 = .ok (.aload_n 0, 1) := by decide +kernel
theorem dX13_venueOfWhat_53 : decode cX13_venueOfWhat 53 = .ok (.iload_n 1, 1) := by decide +kernel
theorem dX13_venueOfWhat_54 : decode cX13_venueOfWhat 54 = .ok (.invokevirtual 222, 3) := by decide +kernel
theorem dX13_venueOfWhat_57 : decode cX13_venueOfWhat 57 = .ok (.ireturn, 1) := by decide +kernel
theorem dX13_venueOfWhat_58 : decode cX13_venueOfWhat 58 = .ok (.aload_n 0, 1) := by decide +kernel
theorem dX13_venueOfWhat_59 : decode cX13_venueOfWhat 59 = .ok (.iload_n 1, 1) := by decide +kernel
theorem dX13_venueOfWhat_60 : decode cX13_venueOfWhat 60 = .ok (.invokevirtual 225, 3) := by decide +kernel
theorem dX13_venueOfWhat_63 : decode cX13_venueOfWhat 63 = .ok (.ireturn, 1) := by decide +kernel
theorem dX13_venueOfWhat_64 : decode cX13_venueOfWhat 64 = .ok (.aload_n 0, 1) := by decide +kernel
theorem dX13_venueOfWhat_65 : decode cX13_venueOfWhat 65 = .ok (.iload_n 1, 1) := by decide +kernel
theorem dX13_venueOfWhat_66 : decode cX13_venueOfWhat 66 = .ok (.iconst 4, 1) := by decide +kernel
theorem dX13_venueOfWhat_67 : decode cX13_venueOfWhat 67 = .ok (.invokevirtual 68, 3) := by decide +kernel
theorem dX13_venueOfWhat_70 : decode cX13_venueOfWhat 70 = .ok (.ireturn, 1) := by decide +kernel
theorem dX13_venueOfWhat_71 : decode cX13_venueOfWhat 71 = .ok (.aload_n 0, 1) := by decide +kernel
theorem dX13_venueOfWhat_72 : decode cX13_venueOfWhat 72 = .ok (.iload_n 1, 1) := by decide +kernel
theorem dX13_venueOfWhat_73 : decode cX13_venueOfWhat 73 = .ok (.iload_n 2, 1) := by decide +kernel
theorem dX13_venueOfWhat_74 : decode cX13_venueOfWhat 74 = .ok (.invokevirtual 68, 3) := by decide +kernel
theorem dX13_venueOfWhat_77 : decode cX13_venueOfWhat 77 = .ok (.ireturn, 1) := by decide +kernel
def sX13_venueOfWhat_36 (w : Wl) (l1 : Int32) (l2 : Int32) : Option Int32 := (if l2 = (5 : Int32) then (sX13_valuesAt w l1 (1 : Int32)).bind (fun r4 => some r4) else (sX13_valuesAt w l1 (0 : Int32)).bind (fun r2 => some r2))
theorem tX13_venueOfWhat_36 {X : Cx} {B : Bs} {sz : Nat} {G : Gf} {r : Int32} (hx : Fx X cX13_venueOfWhat 3 RX13 5 0 0) (hr : Rt X (some .int) 0 0 (RdΨ (.int (r)) G sz)) : ∀ (w : Wl) (l1 : Int32) (l2 : Int32) (hW : Wd (xΓ X) B w G) (h : sX13_venueOfWhat_36  w l1 l2 = some r), J X 3 G sz 0 0 36 [some (.ref (B.1 + 371)), some (.int l1), some (.int l2)] [] := by
  intro w l1 l2 hW h
  unfold sX13_venueOfWhat_36 at h
  refine J_al4 hx rfl rfl dX13_venueOfWhat_36 ?_
  refine J_il4 hx rfl rfl dX13_venueOfWhat_37 ?_
  refine J_il4 hx rfl rfl dX13_venueOfWhat_38 ?_
  refine J_iconst hx (5 : Int32) dX13_venueOfWhat_39 rfl ?_
  refine J_icmp_ne hx 47 dX13_venueOfWhat_40 rfl (fun h1 => ?_) (fun h1 => ?_)
  · replace h := neg h h1
    refine J_iconst hx (0 : Int32) dX13_venueOfWhat_47 rfl ?_
    obtain ⟨r2, hr3, h⟩ := bnd h
    refine J_rdV hx (kX13_valuesAt  hW hr3) ml_X13_218 lk_X13_valuesAt (ci := 11) rfl (hW.obj (rfl : kd 371 = 19) (by decide) (by decide)) (rest := []) rfl rfl (by decide) (by decide) (Nat.le_of_ble_eq_true rfl) (Nat.le_refl 0) (Nat.le_refl 0) dX13_venueOfWhat_48 ?_
    exact J_iretR hx hr dX13_venueOfWhat_51 (Nat.le_refl 0) (Nat.le_refl 0) (Option.some.inj h)
  · replace h := pos h h1
    refine J_iconst hx (1 : Int32) dX13_venueOfWhat_43 rfl ?_
    refine J_goto hx 48 dX13_venueOfWhat_44 rfl ?_
    obtain ⟨r4, hr5, h⟩ := bnd h
    refine J_rdV hx (kX13_valuesAt  hW hr5) ml_X13_218 lk_X13_valuesAt (ci := 11) rfl (hW.obj (rfl : kd 371 = 19) (by decide) (by decide)) (rest := []) rfl rfl (by decide) (by decide) (Nat.le_of_ble_eq_true rfl) (Nat.le_refl 0) (Nat.le_refl 0) dX13_venueOfWhat_48 ?_
    exact J_iretR hx hr dX13_venueOfWhat_51 (Nat.le_refl 0) (Nat.le_refl 0) (Option.some.inj h)
def sX13_venueOfWhat (w : Wl) (l1 : Int32) (l2 : Int32) : Option Int32 := (if l2 = 4 then sX13_venueOfWhat_36 w l1 l2 else (if l2 = 5 then sX13_venueOfWhat_36 w l1 l2 else (if l2 = 6 then (sX13_cratesAt w l1).bind (fun r4 => some r4) else (if l2 = 7 then (sX13_couriersAt w l1).bind (fun r7 => some r7) else (if l2 = 8 then (sX13_ofVenue w l1 (4 : Int32)).bind (fun r10 => some r10) else (sX13_ofVenue w l1 l2).bind (fun r12 => some r12))))))
theorem kX13_venueOfWhat {l : Launch} {Γ : Gl} {B : Bs} {w : Wl} {G : Gf} {sz : Nat} {l1 : Int32} {l2 : Int32} {r : Int32} (hW : Wd Γ B w G) (h : sX13_venueOfWhat w l1 l2 = some r) : CtR l Γ yX13_venueOfWhat cX13_venueOfWhat 3 (some .int) 5 [.ref (B.1 + 371), .int l1, .int l2] G sz (.int (r)) := by
  refine Ct.of rfl (Nat.le_of_ble_eq_true rfl) fun X hx hr hl hΓ hnm => ?_
  subst hl hΓ
  show J X 3 G sz 0 0 0 [some (.ref (B.1 + 371)), some (.int l1), some (.int l2)] []
  unfold sX13_venueOfWhat at h
  refine J_il4 hx rfl rfl dX13_venueOfWhat_0 ?_
  by_cases h1 : l2 = 4
  · replace h := pos h h1
    refine J_swIn hx 36 dX13_venueOfWhat_1 (by rw [h1]; decide) (by rw [h1]; decide) (by rw [h1]; rfl) rfl ?_
    exact tX13_venueOfWhat_36 hx hr _ _ _  hW h
  replace h := neg h h1
  by_cases h2 : l2 = 5
  · replace h := pos h h2
    refine J_swIn hx 36 dX13_venueOfWhat_1 (by rw [h2]; decide) (by rw [h2]; decide) (by rw [h2]; rfl) rfl ?_
    exact tX13_venueOfWhat_36 hx hr _ _ _  hW h
  replace h := neg h h2
  by_cases h3 : l2 = 6
  · replace h := pos h h3
    refine J_swIn hx 52 dX13_venueOfWhat_1 (by rw [h3]; decide) (by rw [h3]; decide) (by rw [h3]; rfl) rfl ?_
    refine J_al4 hx rfl rfl dX13_venueOfWhat_52 ?_
    refine J_il4 hx rfl rfl dX13_venueOfWhat_53 ?_
    obtain ⟨r4, hr5, h⟩ := bnd h
    refine J_rdV hx (kX13_cratesAt  hW hr5) ml_X13_222 lk_X13_cratesAt (ci := 11) rfl (hW.obj (rfl : kd 371 = 19) (by decide) (by decide)) (rest := []) rfl rfl (by decide) (by decide) (Nat.le_of_ble_eq_true rfl) (Nat.le_refl 0) (Nat.le_refl 0) dX13_venueOfWhat_54 ?_
    exact J_iretR hx hr dX13_venueOfWhat_57 (Nat.le_refl 0) (Nat.le_refl 0) (Option.some.inj h)
  replace h := neg h h3
  by_cases h6 : l2 = 7
  · replace h := pos h h6
    refine J_swIn hx 58 dX13_venueOfWhat_1 (by rw [h6]; decide) (by rw [h6]; decide) (by rw [h6]; rfl) rfl ?_
    refine J_al4 hx rfl rfl dX13_venueOfWhat_58 ?_
    refine J_il4 hx rfl rfl dX13_venueOfWhat_59 ?_
    obtain ⟨r7, hr8, h⟩ := bnd h
    refine J_rdV hx (kX13_couriersAt  hW hr8) ml_X13_225 lk_X13_couriersAt (ci := 11) rfl (hW.obj (rfl : kd 371 = 19) (by decide) (by decide)) (rest := []) rfl rfl (by decide) (by decide) (Nat.le_of_ble_eq_true rfl) (Nat.le_refl 0) (Nat.le_refl 0) dX13_venueOfWhat_60 ?_
    exact J_iretR hx hr dX13_venueOfWhat_63 (Nat.le_refl 0) (Nat.le_refl 0) (Option.some.inj h)
  replace h := neg h h6
  by_cases h9 : l2 = 8
  · replace h := pos h h9
    refine J_swIn hx 64 dX13_venueOfWhat_1 (by rw [h9]; decide) (by rw [h9]; decide) (by rw [h9]; rfl) rfl ?_
    refine J_al4 hx rfl rfl dX13_venueOfWhat_64 ?_
    refine J_il4 hx rfl rfl dX13_venueOfWhat_65 ?_
    refine J_iconst hx (4 : Int32) dX13_venueOfWhat_66 rfl ?_
    obtain ⟨r10, hr11, h⟩ := bnd h
    refine J_rdV hx (kX13_ofVenue  hW hr11) ml_X13_68 lk_X13_ofVenue (ci := 11) rfl (hW.obj (rfl : kd 371 = 19) (by decide) (by decide)) (rest := []) rfl rfl (by decide) (by decide) (Nat.le_of_ble_eq_true rfl) (Nat.le_refl 0) (Nat.le_refl 0) dX13_venueOfWhat_67 ?_
    exact J_iretR hx hr dX13_venueOfWhat_70 (Nat.le_refl 0) (Nat.le_refl 0) (Option.some.inj h)
  replace h := neg h h9
  refine J_swOut hx 71 dX13_venueOfWhat_1 (swD fun j jl jh e => by
      have hj : j = 4 ∨ j = 5 ∨ j = 6 ∨ j = 7 ∨ j = 8 := by omega
      rcases hj with rfl | rfl | rfl | rfl | rfl <;> first | exact h1 e | exact h2 e | exact h3 e | exact h6 e | exact h9 e) rfl ?_
  refine J_al4 hx rfl rfl dX13_venueOfWhat_71 ?_
  refine J_il4 hx rfl rfl dX13_venueOfWhat_72 ?_
  refine J_il4 hx rfl rfl dX13_venueOfWhat_73 ?_
  obtain ⟨r12, hr13, h⟩ := bnd h
  refine J_rdV hx (kX13_ofVenue  hW hr13) ml_X13_68 lk_X13_ofVenue (ci := 11) rfl (hW.obj (rfl : kd 371 = 19) (by decide) (by decide)) (rest := []) rfl rfl (by decide) (by decide) (Nat.le_of_ble_eq_true rfl) (Nat.le_refl 0) (Nat.le_refl 0) dX13_venueOfWhat_74 ?_
  exact J_iretR hx hr dX13_venueOfWhat_77 (Nat.le_refl 0) (Nat.le_refl 0) (Option.some.inj h)
theorem dX13_venue_0 : decode cX13_venue 0 = .ok (.aload_n 0, 1) := by decide +kernel
theorem dX13_venue_1 : decode cX13_venue 1 = .ok (.aload_n 0, 1) := by decide +kernel
theorem dX13_venue_2 : decode cX13_venue 2 = .ok (.iload_n 1, 1) := by decide +kernel
theorem dX13_venue_3 : decode cX13_venue 3 = .ok (.invokevirtual 65, 3) := by decide +kernel
theorem dX13_venue_6 : decode cX13_venue 6 = .ok (.ifCond .ne 7, 3) := by decide +kernel
theorem dX13_venue_9 : decode cX13_venue 9 = .ok (.iconst 1, 1) := by decide +kernel
theorem dX13_venue_10 : decode cX13_venue 10 = .ok (.goto 18, 3) := by decide +kernel
theorem dX13_venue_13 : decode cX13_venue 13 = .ok (.iload_n 2, 1) := by decide +kernel
theorem dX13_venue_14 : decode cX13_venue 14 = .ok (.iconst 0, 1) := by decide +kernel
theorem dX13_venue_15 : decode cX13_venue 15 = .ok (.bipush 8, 2) := by decide +kernel
theorem dX13_venue_17 : decode cX13_venue 17 = .ok (.invokestatic 32, 3) := by decide +kernel
theorem dX13_venue_20 : decode cX13_venue 20 = .ok (.ifCond .eq 7, 3) := by decide +kernel
theorem dX13_venue_23 : decode cX13_venue 23 = .ok (.iconst 0, 1) := by decide +kernel
theorem dX13_venue_24 : decode cX13_venue 24 = .ok (.goto 4, 3) := by decide +kernel
theorem dX13_venue_27 : decode cX13_venue 27 = .ok (.iconst 2, 1) := by decide +kernel
theorem dX13_venue_28 : decode cX13_venue 28 = .ok (.putfield 25, 3) := by decide +kernel
theorem dX13_venue_31 : decode cX13_venue 31 = .ok (.aload_n 0, 1) := by decide +kernel
theorem dX13_venue_32 : decode cX13_venue 32 = .ok (.getfield 25, 3) := by decide +kernel
theorem dX13_venue_35 : decode cX13_venue 35 = .ok (.ifCond .eq 7, 3) := by decide +kernel
theorem dX13_venue_38 : decode cX13_venue 38 = .ok (.iconst 0, 1) := by decide +kernel
theorem dX13_venue_39 : decode cX13_venue 39 = .ok (.goto 9, 3) := by decide +kernel
theorem dX13_venue_42 : decode cX13_venue 42 = .ok (.aload_n 0, 1) := by decide +kernel
theorem dX13_venue_43 : decode cX13_venue 43 = .ok (.iload_n 1, 1) := by decide +kernel
theorem dX13_venue_44 : decode cX13_venue 44 = .ok (.iload_n 2, 1) := by decide +kernel
theorem dX13_venue_45 : decode cX13_venue 45 = .ok (.invokevirtual 228, 3) := by decide +kernel
theorem dX13_venue_48 : decode cX13_venue 48 = .ok (.ireturn, 1) := by decide +kernel
def sX13_venue_28 (w : Wl) (l1 : Int32) (l2 : Int32) (s1 : Int32) : Option (Int32 × Wl) := (if ((wst w 371 5 s1) 371 5) = 0 then (sX13_venueOfWhat (wst w 371 5 s1) l1 l2).bind (fun r4 => some (r4, (wst w 371 5 s1))) else some ((0 : Int32), (wst w 371 5 s1)))
theorem tX13_venue_28 {X : Cx} {B : Bs} {sz : Nat} {r : (Int32 × Wl)} (hx : Fx X cX13_venue 3 RX13 6 0 0) (hr : Rt X (some .int) 0 0 (WΨ (xΓ X) B (some (.int (r.1))) r.2 sz)) : ∀ (w : Wl) (l1 : Int32) (l2 : Int32) (s1 : Int32) {G : Gf} (hW : Wd (xΓ X) B w G) (h : sX13_venue_28  w l1 l2 s1 = some r), J X 3 G sz 0 0 28 [some (.ref (B.1 + 371)), some (.int l1), some (.int l2)] [.int s1, .ref (B.1 + 371)] := by
  intro w l1 l2 s1 G hW h
  unfold sX13_venue_28 at h
  refine p13_5 hx hW (rfl : kd 371 = 19) fl_X13_25 dX13_venue_28 fun G1 hW2 => ?_
  refine J_al4 hx rfl rfl dX13_venue_31 ?_
  refine g13_5 hx hW2 (rfl : kd 371 = 19) fl_X13_25 dX13_venue_32 ?_
  refine J_if_eq hx 42 dX13_venue_35 rfl (fun h3 => ?_) (fun h3 => ?_)
  · replace h := pos h h3
    refine J_al4 hx rfl rfl dX13_venue_42 ?_
    refine J_il4 hx rfl rfl dX13_venue_43 ?_
    refine J_il4 hx rfl rfl dX13_venue_44 ?_
    obtain ⟨r4, hr5, h⟩ := bnd h
    refine J_rdV hx (kX13_venueOfWhat  hW2 hr5) ml_X13_228 lk_X13_venueOfWhat (ci := 11) rfl (hW2.obj (rfl : kd 371 = 19) (by decide) (by decide)) (rest := []) rfl rfl (by decide) (by decide) (Nat.le_of_ble_eq_true rfl) (Nat.le_refl 0) (Nat.le_refl 0) dX13_venue_45 ?_
    obtain rfl := Option.some.inj h
    exact J_iretW hx hr hW2 dX13_venue_48 (Nat.le_refl 0) (Nat.le_refl 0)
  · replace h := neg h h3
    refine J_iconst hx (0 : Int32) dX13_venue_38 rfl ?_
    refine J_goto hx 48 dX13_venue_39 rfl ?_
    obtain rfl := Option.some.inj h
    exact J_iretW hx hr hW2 dX13_venue_48 (Nat.le_refl 0) (Nat.le_refl 0)
def sX13_venue (w : Wl) (l1 : Int32) (l2 : Int32) : Option (Int32 × Wl) := (sX13_isVenue w l1).bind (fun r1 => (if r1 = true then (sX13_in w l2 (0 : Int32) (8 : Int32)).bind (fun r4 => (if r4 = true then sX13_venue_28 w l1 l2 (0 : Int32) else sX13_venue_28 w l1 l2 (2 : Int32))) else sX13_venue_28 w l1 l2 (1 : Int32)))
theorem kX13_venue {l : Launch} {Γ : Gl} {B : Bs} {w : Wl} {G : Gf} {sz : Nat} {l1 : Int32} {l2 : Int32} {r : (Int32 × Wl)} (hW : Wd Γ B w G) (h : sX13_venue w l1 l2 = some r) : CtW l Γ yX13_venue cX13_venue 3 (some .int) 6 [.ref (B.1 + 371), .int l1, .int l2] G sz B (some (.int (r.1))) r.2 := by
  refine Ct.of rfl (Nat.le_of_ble_eq_true rfl) fun X hx hr hl hΓ hnm => ?_
  subst hl hΓ
  show J X 3 G sz 0 0 0 [some (.ref (B.1 + 371)), some (.int l1), some (.int l2)] []
  unfold sX13_venue at h
  refine J_al4 hx rfl rfl dX13_venue_0 ?_
  refine J_al4 hx rfl rfl dX13_venue_1 ?_
  refine J_il4 hx rfl rfl dX13_venue_2 ?_
  obtain ⟨r1, hr2, h⟩ := bnd h
  refine J_rdV hx (kX13_isVenue  hW hr2) ml_X13_65 lk_X13_isVenue (ci := 11) rfl (hW.obj (rfl : kd 371 = 19) (by decide) (by decide)) (rest := [.ref (B.1 + 371)]) rfl rfl (by decide) (by decide) (Nat.le_of_ble_eq_true rfl) (Nat.le_refl 0) (Nat.le_refl 0) dX13_venue_3 ?_
  refine J_bif_ne hx 13 dX13_venue_6 rfl (fun h3 => ?_) (fun h3 => ?_)
  · replace h := pos h h3
    refine J_il4 hx rfl rfl dX13_venue_13 ?_
    refine J_iconst hx (0 : Int32) dX13_venue_14 rfl ?_
    refine J_bipush hx (8 : Int32) dX13_venue_15 rfl ?_
    obtain ⟨r4, hr5, h⟩ := bnd h
    refine J_rdS hx (kX13_in  hW hr5) ml_X13_32 lk_X13_in (rest := [.ref (B.1 + 371)]) rfl rfl (by decide) (by decide) (Nat.le_of_ble_eq_true rfl) (Nat.le_refl 0) (Nat.le_refl 0) dX13_venue_17 ?_
    refine J_bif_eq hx 27 dX13_venue_20 rfl (fun h6 => ?_) (fun h6 => ?_)
    · replace h := neg h (bft h6)
      refine J_iconst hx (2 : Int32) dX13_venue_27 rfl ?_
      exact tX13_venue_28 hx hr _ _ _ _  hW h
    · replace h := pos h h6
      refine J_iconst hx (0 : Int32) dX13_venue_23 rfl ?_
      refine J_goto hx 28 dX13_venue_24 rfl ?_
      exact tX13_venue_28 hx hr _ _ _ _  hW h
  · replace h := neg h (bft h3)
    refine J_iconst hx (1 : Int32) dX13_venue_9 rfl ?_
    refine J_goto hx 28 dX13_venue_10 rfl ?_
    exact tX13_venue_28 hx hr _ _ _ _  hW h
theorem dX13_courier_0 : decode cX13_courier 0 = .ok (.aload_n 0, 1) := by decide +kernel
theorem dX13_courier_1 : decode cX13_courier 1 = .ok (.aload_n 0, 1) := by decide +kernel
theorem dX13_courier_2 : decode cX13_courier 2 = .ok (.iload_n 1, 1) := by decide +kernel
theorem dX13_courier_3 : decode cX13_courier 3 = .ok (.invokevirtual 164, 3) := by decide +kernel
theorem dX13_courier_6 : decode cX13_courier 6 = .ok (.ifCond .eq 7, 3) := by decide +kernel
theorem dX13_courier_9 : decode cX13_courier 9 = .ok (.iconst 0, 1) := by decide +kernel
theorem dX13_courier_10 : decode cX13_courier 10 = .ok (.goto 4, 3) := by decide +kernel
theorem dX13_courier_13 : decode cX13_courier 13 = .ok (.iconst 1, 1) := by decide +kernel
theorem dX13_courier_14 : decode cX13_courier 14 = .ok (.putfield 25, 3) := by decide +kernel
theorem dX13_courier_17 : decode cX13_courier 17 = .ok (.aload_n 0, 1) := by decide +kernel
theorem dX13_courier_18 : decode cX13_courier 18 = .ok (.getfield 25, 3) := by decide +kernel
theorem dX13_courier_21 : decode cX13_courier 21 = .ok (.ifCond .eq 7, 3) := by decide +kernel
theorem dX13_courier_24 : decode cX13_courier 24 = .ok (.iconst 0, 1) := by decide +kernel
theorem dX13_courier_25 : decode cX13_courier 25 = .ok (.goto 15, 3) := by decide +kernel
theorem dX13_courier_28 : decode cX13_courier 28 = .ok (.aload_n 0, 1) := by decide +kernel
theorem dX13_courier_29 : decode cX13_courier 29 = .ok (.getfield 7, 3) := by decide +kernel
theorem dX13_courier_32 : decode cX13_courier 32 = .ok (.sipush 137, 3) := by decide +kernel
theorem dX13_courier_35 : decode cX13_courier 35 = .ok (.iconst 2, 1) := by decide +kernel
theorem dX13_courier_36 : decode cX13_courier 36 = .ok (.iload_n 1, 1) := by decide +kernel
theorem dX13_courier_37 : decode cX13_courier 37 = .ok (.imul, 1) := by decide +kernel
theorem dX13_courier_38 : decode cX13_courier 38 = .ok (.iadd, 1) := by decide +kernel
theorem dX13_courier_39 : decode cX13_courier 39 = .ok (.iaload, 1) := by decide +kernel
theorem dX13_courier_40 : decode cX13_courier 40 = .ok (.ireturn, 1) := by decide +kernel
def sX13_courier_14 (w : Wl) (l1 : Int32) (s1 : Int32) : Option (Int32 × Wl) := (if ((wst w 371 5 s1) 371 5) = 0 then (idx ((137 : Int32) + ((2 : Int32) * l1)) 541).bind (fun c4 => some (((wst w 371 5 s1) 372 c4), (wst w 371 5 s1))) else some ((0 : Int32), (wst w 371 5 s1)))
theorem tX13_courier_14 {X : Cx} {B : Bs} {sz : Nat} {r : (Int32 × Wl)} (hx : Fx X cX13_courier 2 RX13 2 0 0) (hr : Rt X (some .int) 0 0 (WΨ (xΓ X) B (some (.int (r.1))) r.2 sz)) : ∀ (w : Wl) (l1 : Int32) (s1 : Int32) {G : Gf} (hW : Wd (xΓ X) B w G) (h : sX13_courier_14  w l1 s1 = some r), J X 2 G sz 0 0 14 [some (.ref (B.1 + 371)), some (.int l1)] [.int s1, .ref (B.1 + 371)] := by
  intro w l1 s1 G hW h
  unfold sX13_courier_14 at h
  refine p13_5 hx hW (rfl : kd 371 = 19) fl_X13_25 dX13_courier_14 fun G1 hW2 => ?_
  refine J_al4 hx rfl rfl dX13_courier_17 ?_
  refine g13_5 hx hW2 (rfl : kd 371 = 19) fl_X13_25 dX13_courier_18 ?_
  refine J_if_eq hx 28 dX13_courier_21 rfl (fun h3 => ?_) (fun h3 => ?_)
  · replace h := pos h h3
    refine J_al4 hx rfl rfl dX13_courier_28 ?_
    refine g13_0 hx hW2 372 (rfl : kd 371 = 19) fl_X13_7 rfl dX13_courier_29 ?_
    refine J_sipush hx (137 : Int32) dX13_courier_32 rfl ?_
    refine J_iconst hx (2 : Int32) dX13_courier_35 rfl ?_
    refine J_il4 hx rfl rfl dX13_courier_36 ?_
    refine J_imul hx dX13_courier_37 ?_
    refine J_iadd hx dX13_courier_38 ?_
    obtain ⟨c4, hc5, h⟩ := bnd h
    refine J_iaW hx hW2 (rfl : kd 372 = 641) hc5 dX13_courier_39 ?_
    obtain rfl := Option.some.inj h
    exact J_iretW hx hr hW2 dX13_courier_40 (Nat.le_refl 0) (Nat.le_refl 0)
  · replace h := neg h h3
    refine J_iconst hx (0 : Int32) dX13_courier_24 rfl ?_
    refine J_goto hx 40 dX13_courier_25 rfl ?_
    obtain rfl := Option.some.inj h
    exact J_iretW hx hr hW2 dX13_courier_40 (Nat.le_refl 0) (Nat.le_refl 0)
def sX13_courier (w : Wl) (l1 : Int32) : Option (Int32 × Wl) := (sX13_isCourier w l1).bind (fun r1 => (if r1 = true then sX13_courier_14 w l1 (0 : Int32) else sX13_courier_14 w l1 (1 : Int32)))
theorem kX13_courier {l : Launch} {Γ : Gl} {B : Bs} {w : Wl} {G : Gf} {sz : Nat} {l1 : Int32} {r : (Int32 × Wl)} (hW : Wd Γ B w G) (h : sX13_courier w l1 = some r) : CtW l Γ yX13_courier cX13_courier 2 (some .int) 2 [.ref (B.1 + 371), .int l1] G sz B (some (.int (r.1))) r.2 := by
  refine Ct.of rfl (Nat.le_of_ble_eq_true rfl) fun X hx hr hl hΓ hnm => ?_
  subst hl hΓ
  show J X 2 G sz 0 0 0 [some (.ref (B.1 + 371)), some (.int l1)] []
  unfold sX13_courier at h
  refine J_al4 hx rfl rfl dX13_courier_0 ?_
  refine J_al4 hx rfl rfl dX13_courier_1 ?_
  refine J_il4 hx rfl rfl dX13_courier_2 ?_
  obtain ⟨r1, hr2, h⟩ := bnd h
  refine J_rdV hx (kX13_isCourier  hW hr2) ml_X13_164 lk_X13_isCourier (ci := 11) rfl (hW.obj (rfl : kd 371 = 19) (by decide) (by decide)) (rest := [.ref (B.1 + 371)]) rfl rfl (by decide) (by decide) (Nat.le_of_ble_eq_true rfl) (Nat.le_refl 0) (Nat.le_refl 0) dX13_courier_3 ?_
  refine J_bif_eq hx 13 dX13_courier_6 rfl (fun h3 => ?_) (fun h3 => ?_)
  · replace h := neg h (bft h3)
    refine J_iconst hx (1 : Int32) dX13_courier_13 rfl ?_
    exact tX13_courier_14 hx hr _ _ _  hW h
  · replace h := pos h h3
    refine J_iconst hx (0 : Int32) dX13_courier_9 rfl ?_
    refine J_goto hx 14 dX13_courier_10 rfl ?_
    exact tX13_courier_14 hx hr _ _ _  hW h
theorem dX13_onTheirWay_0 : decode cX13_onTheirWay 0 = .ok (.iconst 0, 1) := by decide +kernel
theorem dX13_onTheirWay_1 : decode cX13_onTheirWay 1 = .ok (.istore_n 1, 1) := by decide +kernel
theorem dX13_onTheirWay_2 : decode cX13_onTheirWay 2 = .ok (.iconst 0, 1) := by decide +kernel
theorem dX13_onTheirWay_3 : decode cX13_onTheirWay 3 = .ok (.istore_n 2, 1) := by decide +kernel
theorem dX13_onTheirWay_4 : decode cX13_onTheirWay 4 = .ok (.iload_n 2, 1) := by decide +kernel
theorem dX13_onTheirWay_5 : decode cX13_onTheirWay 5 = .ok (.aload_n 0, 1) := by decide +kernel
theorem dX13_onTheirWay_6 : decode cX13_onTheirWay 6 = .ok (.getfield 7, 3) := by decide +kernel
theorem dX13_onTheirWay_9 : decode cX13_onTheirWay 9 = .ok (.iconst 3, 1) := by decide +kernel
theorem dX13_onTheirWay_10 : decode cX13_onTheirWay 10 = .ok (.iaload, 1) := by decide +kernel
theorem dX13_onTheirWay_11 : decode cX13_onTheirWay 11 = .ok (.if_icmp .ge 26, 3) := by decide +kernel
theorem dX13_onTheirWay_14 : decode cX13_onTheirWay 14 = .ok (.iload_n 1, 1) := by decide +kernel
theorem dX13_onTheirWay_15 : decode cX13_onTheirWay 15 = .ok (.aload_n 0, 1) := by decide +kernel
theorem dX13_onTheirWay_16 : decode cX13_onTheirWay 16 = .ok (.iload_n 2, 1) := by decide +kernel
theorem dX13_onTheirWay_17 : decode cX13_onTheirWay 17 = .ok (.invokevirtual 145, 3) := by decide +kernel
theorem dX13_onTheirWay_20 : decode cX13_onTheirWay 20 = .ok (.iconst (-1), 1) := by decide +kernel
theorem dX13_onTheirWay_21 : decode cX13_onTheirWay 21 = .ok (.if_icmp .ne 7, 3) := by decide +kernel
theorem dX13_onTheirWay_24 : decode cX13_onTheirWay 24 = .ok (.iconst 1, 1) := by decide +kernel
theorem dX13_onTheirWay_25 : decode cX13_onTheirWay 25 = .ok (.goto 4, 3) := by decide +kernel
theorem dX13_onTheirWay_28 : decode cX13_onTheirWay 28 = .ok (.iconst 0, 1) := by decide +kernel
theorem dX13_onTheirWay_29 : decode cX13_onTheirWay 29 = .ok (.iadd, 1) := by decide +kernel
theorem dX13_onTheirWay_30 : decode cX13_onTheirWay 30 = .ok (.istore_n 1, 1) := by decide +kernel
theorem dX13_onTheirWay_31 : decode cX13_onTheirWay 31 = .ok (.iinc 2 1, 3) := by decide +kernel
theorem dX13_onTheirWay_34 : decode cX13_onTheirWay 34 = .ok (.goto (-30), 3) := by decide +kernel
theorem dX13_onTheirWay_37 : decode cX13_onTheirWay 37 = .ok (.iload_n 1, 1) := by decide +kernel
theorem dX13_onTheirWay_38 : decode cX13_onTheirWay 38 = .ok (.ireturn, 1) := by decide +kernel
def sX13_onTheirWay_4 : Nat → Wl → Int32 → Int32 → Option Int32
  | 0, _, _, _ => none
  | n + 1, w, l1, l2 => (if (w 372 3) ≤ l2 then some l1 else (sX13_standsIn w l2).bind (fun r2 => (if r2 = (-1 : Int32) then sX13_onTheirWay_4 n w (l1 + (1 : Int32)) (l2 + 1) else sX13_onTheirWay_4 n w (l1 + (0 : Int32)) (l2 + 1))))
theorem tX13_onTheirWay_4 {X : Cx} {B : Bs} {sz : Nat} {G : Gf} {r : Int32} (hx : Fx X cX13_onTheirWay 3 RX13 4 0 0) (hr : Rt X (some .int) 0 0 (RdΨ (.int (r)) G sz)) : ∀ (n : Nat), ∀ (w : Wl) (l1 : Int32) (l2 : Int32) (hW : Wd (xΓ X) B w G) (h : sX13_onTheirWay_4 n w l1 l2 = some r), J X 3 G sz 0 0 4 [some (.ref (B.1 + 371)), some (.int l1), some (.int l2)] [] := by
  intro n
  induction n with
  | zero => intro w l1 l2 hW h; rw [sX13_onTheirWay_4.eq_1] at h; cases h
  | succ n ih =>
    intro w l1 l2 hW h
    rw [sX13_onTheirWay_4.eq_2] at h
    refine J_il4 hx rfl rfl dX13_onTheirWay_4 ?_
    refine J_al4 hx rfl rfl dX13_onTheirWay_5 ?_
    refine g13_0 hx hW 372 (rfl : kd 371 = 19) fl_X13_7 rfl dX13_onTheirWay_6 ?_
    refine J_iconst hx (3 : Int32) dX13_onTheirWay_9 rfl ?_
    refine J_iaW hx hW (rfl : kd 372 = 641) (by decide +kernel : idx (3 : Int32) 541 = some 3) dX13_onTheirWay_10 ?_
    refine J_icmp_ge hx 37 dX13_onTheirWay_11 rfl (fun h1 => ?_) (fun h1 => ?_)
    · replace h := pos h h1
      refine J_il4 hx rfl rfl dX13_onTheirWay_37 ?_
      exact J_iretR hx hr dX13_onTheirWay_38 (Nat.le_refl 0) (Nat.le_refl 0) (Option.some.inj h)
    · replace h := neg h h1
      refine J_il4 hx rfl rfl dX13_onTheirWay_14 ?_
      refine J_al4 hx rfl rfl dX13_onTheirWay_15 ?_
      refine J_il4 hx rfl rfl dX13_onTheirWay_16 ?_
      obtain ⟨r2, hr3, h⟩ := bnd h
      refine J_rdV hx (kX13_standsIn  hW hr3) ml_X13_145 lk_X13_standsIn (ci := 11) rfl (hW.obj (rfl : kd 371 = 19) (by decide) (by decide)) (rest := [.int l1]) rfl rfl (by decide) (by decide) (Nat.le_of_ble_eq_true rfl) (Nat.le_refl 0) (Nat.le_refl 0) dX13_onTheirWay_17 ?_
      refine J_iconst hx (-1 : Int32) dX13_onTheirWay_20 rfl ?_
      refine J_icmp_ne hx 28 dX13_onTheirWay_21 rfl (fun h4 => ?_) (fun h4 => ?_)
      · replace h := neg h h4
        refine J_iconst hx (0 : Int32) dX13_onTheirWay_28 rfl ?_
        refine J_iadd hx dX13_onTheirWay_29 ?_
        refine J_is4 hx rfl (by decide) (hc_of rfl) rfl dX13_onTheirWay_30 ?_
        refine J_iinc hx (v' := (l2 + 1)) rfl rfl (by decide) (hc_of rfl) rfl dX13_onTheirWay_31 ?_
        refine J_goto hx 4 dX13_onTheirWay_34 rfl ?_
        exact ih _ _ _  hW h
      · replace h := pos h h4
        refine J_iconst hx (1 : Int32) dX13_onTheirWay_24 rfl ?_
        refine J_goto hx 29 dX13_onTheirWay_25 rfl ?_
        refine J_iadd hx dX13_onTheirWay_29 ?_
        refine J_is4 hx rfl (by decide) (hc_of rfl) rfl dX13_onTheirWay_30 ?_
        refine J_iinc hx (v' := (l2 + 1)) rfl rfl (by decide) (hc_of rfl) rfl dX13_onTheirWay_31 ?_
        refine J_goto hx 4 dX13_onTheirWay_34 rfl ?_
        exact ih _ _ _  hW h
def sX13_onTheirWay (w : Wl) : Option Int32 := sX13_onTheirWay_4 FU w (0 : Int32) (0 : Int32)
theorem kX13_onTheirWay {l : Launch} {Γ : Gl} {B : Bs} {w : Wl} {G : Gf} {sz : Nat} {r : Int32} (hW : Wd Γ B w G) (h : sX13_onTheirWay w  = some r) : CtR l Γ yX13_onTheirWay cX13_onTheirWay 3 (some .int) 4 [.ref (B.1 + 371)] G sz (.int (r)) := by
  refine Ct.of rfl (Nat.le_of_ble_eq_true rfl) fun X hx hr hl hΓ hnm => ?_
  subst hl hΓ
  show J X 3 G sz 0 0 0 [some (.ref (B.1 + 371)), none, none] []
  unfold sX13_onTheirWay at h
  refine J_iconst hx (0 : Int32) dX13_onTheirWay_0 rfl ?_
  refine J_is4 hx rfl (by decide) (hc_of rfl) rfl dX13_onTheirWay_1 ?_
  refine J_iconst hx (0 : Int32) dX13_onTheirWay_2 rfl ?_
  refine J_is4 hx rfl (by decide) (hc_of rfl) rfl dX13_onTheirWay_3 ?_
  exact tX13_onTheirWay_4 hx hr _ _ _ _  hW h
theorem dX13_openCrates_0 : decode cX13_openCrates 0 = .ok (.iconst 0, 1) := by decide +kernel
theorem dX13_openCrates_1 : decode cX13_openCrates 1 = .ok (.istore_n 1, 1) := by decide +kernel
theorem dX13_openCrates_2 : decode cX13_openCrates 2 = .ok (.iconst 0, 1) := by decide +kernel
theorem dX13_openCrates_3 : decode cX13_openCrates 3 = .ok (.istore_n 2, 1) := by decide +kernel
theorem dX13_openCrates_4 : decode cX13_openCrates 4 = .ok (.iload_n 2, 1) := by decide +kernel
theorem dX13_openCrates_5 : decode cX13_openCrates 5 = .ok (.aload_n 0, 1) := by decide +kernel
theorem dX13_openCrates_6 : decode cX13_openCrates 6 = .ok (.getfield 7, 3) := by decide +kernel
theorem dX13_openCrates_9 : decode cX13_openCrates 9 = .ok (.iconst 2, 1) := by decide +kernel
theorem dX13_openCrates_10 : decode cX13_openCrates 10 = .ok (.iaload, 1) := by decide +kernel
theorem dX13_openCrates_11 : decode cX13_openCrates 11 = .ok (.if_icmp .ge 18, 3) := by decide +kernel
theorem dX13_openCrates_14 : decode cX13_openCrates 14 = .ok (.iload_n 1, 1) := by decide +kernel
theorem dX13_openCrates_15 : decode cX13_openCrates 15 = .ok (.aload_n 0, 1) := by decide +kernel
theorem dX13_openCrates_16 : decode cX13_openCrates 16 = .ok (.iload_n 2, 1) := by decide +kernel
theorem dX13_openCrates_17 : decode cX13_openCrates 17 = .ok (.iconst 1, 1) := by decide +kernel
theorem dX13_openCrates_18 : decode cX13_openCrates 18 = .ok (.invokevirtual 36, 3) := by decide +kernel
theorem dX13_openCrates_21 : decode cX13_openCrates 21 = .ok (.iadd, 1) := by decide +kernel
theorem dX13_openCrates_22 : decode cX13_openCrates 22 = .ok (.istore_n 1, 1) := by decide +kernel
theorem dX13_openCrates_23 : decode cX13_openCrates 23 = .ok (.iinc 2 1, 3) := by decide +kernel
theorem dX13_openCrates_26 : decode cX13_openCrates 26 = .ok (.goto (-22), 3) := by decide +kernel
theorem dX13_openCrates_29 : decode cX13_openCrates 29 = .ok (.iload_n 1, 1) := by decide +kernel
theorem dX13_openCrates_30 : decode cX13_openCrates 30 = .ok (.ireturn, 1) := by decide +kernel
def sX13_openCrates_4 : Nat → Wl → Int32 → Int32 → Option Int32
  | 0, _, _, _ => none
  | n + 1, w, l1, l2 => (if (w 372 2) ≤ l2 then some l1 else (sX13_of w l2 (1 : Int32)).bind (fun r2 => sX13_openCrates_4 n w (l1 + r2) (l2 + 1)))
theorem tX13_openCrates_4 {X : Cx} {B : Bs} {sz : Nat} {G : Gf} {r : Int32} (hx : Fx X cX13_openCrates 3 RX13 1 0 0) (hr : Rt X (some .int) 0 0 (RdΨ (.int (r)) G sz)) : ∀ (n : Nat), ∀ (w : Wl) (l1 : Int32) (l2 : Int32) (hW : Wd (xΓ X) B w G) (h : sX13_openCrates_4 n w l1 l2 = some r), J X 3 G sz 0 0 4 [some (.ref (B.1 + 371)), some (.int l1), some (.int l2)] [] := by
  intro n
  induction n with
  | zero => intro w l1 l2 hW h; rw [sX13_openCrates_4.eq_1] at h; cases h
  | succ n ih =>
    intro w l1 l2 hW h
    rw [sX13_openCrates_4.eq_2] at h
    refine J_il4 hx rfl rfl dX13_openCrates_4 ?_
    refine J_al4 hx rfl rfl dX13_openCrates_5 ?_
    refine g13_0 hx hW 372 (rfl : kd 371 = 19) fl_X13_7 rfl dX13_openCrates_6 ?_
    refine J_iconst hx (2 : Int32) dX13_openCrates_9 rfl ?_
    refine J_iaW hx hW (rfl : kd 372 = 641) (by decide +kernel : idx (2 : Int32) 541 = some 2) dX13_openCrates_10 ?_
    refine J_icmp_ge hx 29 dX13_openCrates_11 rfl (fun h1 => ?_) (fun h1 => ?_)
    · replace h := pos h h1
      refine J_il4 hx rfl rfl dX13_openCrates_29 ?_
      exact J_iretR hx hr dX13_openCrates_30 (Nat.le_refl 0) (Nat.le_refl 0) (Option.some.inj h)
    · replace h := neg h h1
      refine J_il4 hx rfl rfl dX13_openCrates_14 ?_
      refine J_al4 hx rfl rfl dX13_openCrates_15 ?_
      refine J_il4 hx rfl rfl dX13_openCrates_16 ?_
      refine J_iconst hx (1 : Int32) dX13_openCrates_17 rfl ?_
      obtain ⟨r2, hr3, h⟩ := bnd h
      refine J_rdV hx (kX13_of  hW hr3) ml_X13_36 lk_X13_of (ci := 11) rfl (hW.obj (rfl : kd 371 = 19) (by decide) (by decide)) (rest := [.int l1]) rfl rfl (by decide) (by decide) (Nat.le_of_ble_eq_true rfl) (Nat.le_refl 0) (Nat.le_refl 0) dX13_openCrates_18 ?_
      refine J_iadd hx dX13_openCrates_21 ?_
      refine J_is4 hx rfl (by decide) (hc_of rfl) rfl dX13_openCrates_22 ?_
      refine J_iinc hx (v' := (l2 + 1)) rfl rfl (by decide) (hc_of rfl) rfl dX13_openCrates_23 ?_
      refine J_goto hx 4 dX13_openCrates_26 rfl ?_
      exact ih _ _ _  hW h
def sX13_openCrates (w : Wl) : Option Int32 := sX13_openCrates_4 FU w (0 : Int32) (0 : Int32)
theorem kX13_openCrates {l : Launch} {Γ : Gl} {B : Bs} {w : Wl} {G : Gf} {sz : Nat} {r : Int32} (hW : Wd Γ B w G) (h : sX13_openCrates w  = some r) : CtR l Γ yX13_openCrates cX13_openCrates 3 (some .int) 1 [.ref (B.1 + 371)] G sz (.int (r)) := by
  refine Ct.of rfl (Nat.le_of_ble_eq_true rfl) fun X hx hr hl hΓ hnm => ?_
  subst hl hΓ
  show J X 3 G sz 0 0 0 [some (.ref (B.1 + 371)), none, none] []
  unfold sX13_openCrates at h
  refine J_iconst hx (0 : Int32) dX13_openCrates_0 rfl ?_
  refine J_is4 hx rfl (by decide) (hc_of rfl) rfl dX13_openCrates_1 ?_
  refine J_iconst hx (0 : Int32) dX13_openCrates_2 rfl ?_
  refine J_is4 hx rfl (by decide) (hc_of rfl) rfl dX13_openCrates_3 ?_
  exact tX13_openCrates_4 hx hr _ _ _ _  hW h
theorem dX13_wholeOf_0 : decode cX13_wholeOf 0 = .ok (.iload_n 1, 1) := by decide +kernel
theorem dX13_wholeOf_1 : decode cX13_wholeOf 1 = .ok (.bipush 8, 2) := by decide +kernel
theorem dX13_wholeOf_3 : decode cX13_wholeOf 3 = .ok (.if_icmp .ge 12, 3) := by decide +kernel
theorem dX13_wholeOf_6 : decode cX13_wholeOf 6 = .ok (.aload_n 0, 1) := by decide +kernel
theorem dX13_wholeOf_7 : decode cX13_wholeOf 7 = .ok (.getfield 7, 3) := by decide +kernel
theorem dX13_wholeOf_10 : decode cX13_wholeOf 10 = .ok (.iload_n 1, 1) := by decide +kernel
theorem dX13_wholeOf_11 : decode cX13_wholeOf 11 = .ok (.iaload, 1) := by decide +kernel
theorem dX13_wholeOf_12 : decode cX13_wholeOf 12 = .ok (.goto 20, 3) := by decide +kernel
theorem dX13_wholeOf_15 : decode cX13_wholeOf 15 = .ok (.iload_n 1, 1) := by decide +kernel
theorem dX13_wholeOf_16 : decode cX13_wholeOf 16 = .ok (.bipush 8, 2) := by decide +kernel
theorem dX13_wholeOf_18 : decode cX13_wholeOf 18 = .ok (.if_icmp .ne 10, 3) := by decide +kernel
theorem dX13_wholeOf_21 : decode cX13_wholeOf 21 = .ok (.aload_n 0, 1) := by decide +kernel
theorem dX13_wholeOf_22 : decode cX13_wholeOf 22 = .ok (.invokevirtual 231, 3) := by decide +kernel
theorem dX13_wholeOf_25 : decode cX13_wholeOf 25 = .ok (.goto 7, 3) := by decide +kernel
theorem dX13_wholeOf_28 : decode cX13_wholeOf 28 = .ok (.aload_n 0, 1) := by decide +kernel
theorem dX13_wholeOf_29 : decode cX13_wholeOf 29 = .ok (.invokevirtual 234, 3) := by decide +kernel
theorem dX13_wholeOf_32 : decode cX13_wholeOf 32 = .ok (.ireturn, 1) := by decide +kernel
def sX13_wholeOf (w : Wl) (l1 : Int32) : Option Int32 := (if (8 : Int32) ≤ l1 then (if l1 = (8 : Int32) then (sX13_onTheirWay w ).bind (fun r5 => some r5) else (sX13_openCrates w ).bind (fun r3 => some r3)) else (idx l1 541).bind (fun c7 => some (w 372 c7)))
theorem kX13_wholeOf {l : Launch} {Γ : Gl} {B : Bs} {w : Wl} {G : Gf} {sz : Nat} {l1 : Int32} {r : Int32} (hW : Wd Γ B w G) (h : sX13_wholeOf w l1 = some r) : CtR l Γ yX13_wholeOf cX13_wholeOf 2 (some .int) 5 [.ref (B.1 + 371), .int l1] G sz (.int (r)) := by
  refine Ct.of rfl (Nat.le_of_ble_eq_true rfl) fun X hx hr hl hΓ hnm => ?_
  subst hl hΓ
  show J X 2 G sz 0 0 0 [some (.ref (B.1 + 371)), some (.int l1)] []
  unfold sX13_wholeOf at h
  refine J_il4 hx rfl rfl dX13_wholeOf_0 ?_
  refine J_bipush hx (8 : Int32) dX13_wholeOf_1 rfl ?_
  refine J_icmp_ge hx 15 dX13_wholeOf_3 rfl (fun h1 => ?_) (fun h1 => ?_)
  · replace h := pos h h1
    refine J_il4 hx rfl rfl dX13_wholeOf_15 ?_
    refine J_bipush hx (8 : Int32) dX13_wholeOf_16 rfl ?_
    refine J_icmp_ne hx 28 dX13_wholeOf_18 rfl (fun h2 => ?_) (fun h2 => ?_)
    · replace h := neg h h2
      refine J_al4 hx rfl rfl dX13_wholeOf_28 ?_
      obtain ⟨r3, hr4, h⟩ := bnd h
      refine J_rdV hx (kX13_openCrates  hW hr4) ml_X13_234 lk_X13_openCrates (ci := 11) rfl (hW.obj (rfl : kd 371 = 19) (by decide) (by decide)) (rest := []) rfl rfl (by decide) (by decide) (Nat.le_of_ble_eq_true rfl) (Nat.le_refl 0) (Nat.le_refl 0) dX13_wholeOf_29 ?_
      exact J_iretR hx hr dX13_wholeOf_32 (Nat.le_refl 0) (Nat.le_refl 0) (Option.some.inj h)
    · replace h := pos h h2
      refine J_al4 hx rfl rfl dX13_wholeOf_21 ?_
      obtain ⟨r5, hr6, h⟩ := bnd h
      refine J_rdV hx (kX13_onTheirWay  hW hr6) ml_X13_231 lk_X13_onTheirWay (ci := 11) rfl (hW.obj (rfl : kd 371 = 19) (by decide) (by decide)) (rest := []) rfl rfl (by decide) (by decide) (Nat.le_of_ble_eq_true rfl) (Nat.le_refl 0) (Nat.le_refl 0) dX13_wholeOf_22 ?_
      refine J_goto hx 32 dX13_wholeOf_25 rfl ?_
      exact J_iretR hx hr dX13_wholeOf_32 (Nat.le_refl 0) (Nat.le_refl 0) (Option.some.inj h)
  · replace h := neg h h1
    refine J_al4 hx rfl rfl dX13_wholeOf_6 ?_
    refine g13_0 hx hW 372 (rfl : kd 371 = 19) fl_X13_7 rfl dX13_wholeOf_7 ?_
    refine J_il4 hx rfl rfl dX13_wholeOf_10 ?_
    obtain ⟨c7, hc8, h⟩ := bnd h
    refine J_iaW hx hW (rfl : kd 372 = 641) hc8 dX13_wholeOf_11 ?_
    refine J_goto hx 32 dX13_wholeOf_12 rfl ?_
    exact J_iretR hx hr dX13_wholeOf_32 (Nat.le_refl 0) (Nat.le_refl 0) (Option.some.inj h)
theorem dX13_whole_0 : decode cX13_whole 0 = .ok (.aload_n 0, 1) := by decide +kernel
theorem dX13_whole_1 : decode cX13_whole 1 = .ok (.iload_n 1, 1) := by decide +kernel
theorem dX13_whole_2 : decode cX13_whole 2 = .ok (.iconst 0, 1) := by decide +kernel
theorem dX13_whole_3 : decode cX13_whole 3 = .ok (.bipush 9, 2) := by decide +kernel
theorem dX13_whole_5 : decode cX13_whole 5 = .ok (.invokestatic 32, 3) := by decide +kernel
theorem dX13_whole_8 : decode cX13_whole 8 = .ok (.ifCond .eq 7, 3) := by decide +kernel
theorem dX13_whole_11 : decode cX13_whole 11 = .ok (.iconst 0, 1) := by decide +kernel
theorem dX13_whole_12 : decode cX13_whole 12 = .ok (.goto 4, 3) := by decide +kernel
theorem dX13_whole_15 : decode cX13_whole 15 = .ok (.iconst 1, 1) := by decide +kernel
theorem dX13_whole_16 : decode cX13_whole 16 = .ok (.putfield 25, 3) := by decide +kernel
theorem dX13_whole_19 : decode cX13_whole 19 = .ok (.aload_n 0, 1) := by decide +kernel
theorem dX13_whole_20 : decode cX13_whole 20 = .ok (.getfield 25, 3) := by decide +kernel
theorem dX13_whole_23 : decode cX13_whole 23 = .ok (.ifCond .eq 7, 3) := by decide +kernel
theorem dX13_whole_26 : decode cX13_whole 26 = .ok (.iconst 0, 1) := by decide +kernel
theorem dX13_whole_27 : decode cX13_whole 27 = .ok (.goto 8, 3) := by decide +kernel
theorem dX13_whole_30 : decode cX13_whole 30 = .ok (.aload_n 0, 1) := by decide +kernel
theorem dX13_whole_31 : decode cX13_whole 31 = .ok (.iload_n 1, 1) := by decide +kernel
theorem dX13_whole_32 : decode cX13_whole 32 = .ok (.invokevirtual 237, 3) := by decide +kernel
theorem dX13_whole_35 : decode cX13_whole 35 = .ok (.ireturn, 1) := by decide +kernel
def sX13_whole_16 (w : Wl) (l1 : Int32) (s1 : Int32) : Option (Int32 × Wl) := (if ((wst w 371 5 s1) 371 5) = 0 then (sX13_wholeOf (wst w 371 5 s1) l1).bind (fun r4 => some (r4, (wst w 371 5 s1))) else some ((0 : Int32), (wst w 371 5 s1)))
theorem tX13_whole_16 {X : Cx} {B : Bs} {sz : Nat} {r : (Int32 × Wl)} (hx : Fx X cX13_whole 2 RX13 6 0 0) (hr : Rt X (some .int) 0 0 (WΨ (xΓ X) B (some (.int (r.1))) r.2 sz)) : ∀ (w : Wl) (l1 : Int32) (s1 : Int32) {G : Gf} (hW : Wd (xΓ X) B w G) (h : sX13_whole_16  w l1 s1 = some r), J X 2 G sz 0 0 16 [some (.ref (B.1 + 371)), some (.int l1)] [.int s1, .ref (B.1 + 371)] := by
  intro w l1 s1 G hW h
  unfold sX13_whole_16 at h
  refine p13_5 hx hW (rfl : kd 371 = 19) fl_X13_25 dX13_whole_16 fun G1 hW2 => ?_
  refine J_al4 hx rfl rfl dX13_whole_19 ?_
  refine g13_5 hx hW2 (rfl : kd 371 = 19) fl_X13_25 dX13_whole_20 ?_
  refine J_if_eq hx 30 dX13_whole_23 rfl (fun h3 => ?_) (fun h3 => ?_)
  · replace h := pos h h3
    refine J_al4 hx rfl rfl dX13_whole_30 ?_
    refine J_il4 hx rfl rfl dX13_whole_31 ?_
    obtain ⟨r4, hr5, h⟩ := bnd h
    refine J_rdV hx (kX13_wholeOf  hW2 hr5) ml_X13_237 lk_X13_wholeOf (ci := 11) rfl (hW2.obj (rfl : kd 371 = 19) (by decide) (by decide)) (rest := []) rfl rfl (by decide) (by decide) (Nat.le_of_ble_eq_true rfl) (Nat.le_refl 0) (Nat.le_refl 0) dX13_whole_32 ?_
    obtain rfl := Option.some.inj h
    exact J_iretW hx hr hW2 dX13_whole_35 (Nat.le_refl 0) (Nat.le_refl 0)
  · replace h := neg h h3
    refine J_iconst hx (0 : Int32) dX13_whole_26 rfl ?_
    refine J_goto hx 35 dX13_whole_27 rfl ?_
    obtain rfl := Option.some.inj h
    exact J_iretW hx hr hW2 dX13_whole_35 (Nat.le_refl 0) (Nat.le_refl 0)
def sX13_whole (w : Wl) (l1 : Int32) : Option (Int32 × Wl) := (sX13_in w l1 (0 : Int32) (9 : Int32)).bind (fun r1 => (if r1 = true then sX13_whole_16 w l1 (0 : Int32) else sX13_whole_16 w l1 (1 : Int32)))
theorem kX13_whole {l : Launch} {Γ : Gl} {B : Bs} {w : Wl} {G : Gf} {sz : Nat} {l1 : Int32} {r : (Int32 × Wl)} (hW : Wd Γ B w G) (h : sX13_whole w l1 = some r) : CtW l Γ yX13_whole cX13_whole 2 (some .int) 6 [.ref (B.1 + 371), .int l1] G sz B (some (.int (r.1))) r.2 := by
  refine Ct.of rfl (Nat.le_of_ble_eq_true rfl) fun X hx hr hl hΓ hnm => ?_
  subst hl hΓ
  show J X 2 G sz 0 0 0 [some (.ref (B.1 + 371)), some (.int l1)] []
  unfold sX13_whole at h
  refine J_al4 hx rfl rfl dX13_whole_0 ?_
  refine J_il4 hx rfl rfl dX13_whole_1 ?_
  refine J_iconst hx (0 : Int32) dX13_whole_2 rfl ?_
  refine J_bipush hx (9 : Int32) dX13_whole_3 rfl ?_
  obtain ⟨r1, hr2, h⟩ := bnd h
  refine J_rdS hx (kX13_in  hW hr2) ml_X13_32 lk_X13_in (rest := [.ref (B.1 + 371)]) rfl rfl (by decide) (by decide) (Nat.le_of_ble_eq_true rfl) (Nat.le_refl 0) (Nat.le_refl 0) dX13_whole_5 ?_
  refine J_bif_eq hx 15 dX13_whole_8 rfl (fun h3 => ?_) (fun h3 => ?_)
  · replace h := neg h (bft h3)
    refine J_iconst hx (1 : Int32) dX13_whole_15 rfl ?_
    exact tX13_whole_16 hx hr _ _ _  hW h
  · replace h := pos h h3
    refine J_iconst hx (0 : Int32) dX13_whole_11 rfl ?_
    refine J_goto hx 16 dX13_whole_12 rfl ?_
    exact tX13_whole_16 hx hr _ _ _  hW h
theorem dX13_ready_0 : decode cX13_ready 0 = .ok (.iconst 0, 1) := by decide +kernel
theorem dX13_ready_1 : decode cX13_ready 1 = .ok (.istore_n 2, 1) := by decide +kernel
theorem dX13_ready_2 : decode cX13_ready 2 = .ok (.aload_n 0, 1) := by decide +kernel
theorem dX13_ready_3 : decode cX13_ready 3 = .ok (.iload_n 1, 1) := by decide +kernel
theorem dX13_ready_4 : decode cX13_ready 4 = .ok (.iconst 4, 1) := by decide +kernel
theorem dX13_ready_5 : decode cX13_ready 5 = .ok (.invokevirtual 51, 3) := by decide +kernel
theorem dX13_ready_8 : decode cX13_ready 8 = .ok (.istore_n 3, 1) := by decide +kernel
theorem dX13_ready_9 : decode cX13_ready 9 = .ok (.iload_n 3, 1) := by decide +kernel
theorem dX13_ready_10 : decode cX13_ready 10 = .ok (.iconst (-1), 1) := by decide +kernel
theorem dX13_ready_11 : decode cX13_ready 11 = .ok (.if_icmp .eq 23, 3) := by decide +kernel
theorem dX13_ready_14 : decode cX13_ready 14 = .ok (.aload_n 0, 1) := by decide +kernel
theorem dX13_ready_15 : decode cX13_ready 15 = .ok (.getfield 19, 3) := by decide +kernel
theorem dX13_ready_18 : decode cX13_ready 18 = .ok (.iload_n 2, 1) := by decide +kernel
theorem dX13_ready_19 : decode cX13_ready 19 = .ok (.iload_n 3, 1) := by decide +kernel
theorem dX13_ready_20 : decode cX13_ready 20 = .ok (.iastore, 1) := by decide +kernel
theorem dX13_ready_21 : decode cX13_ready 21 = .ok (.iinc 2 1, 3) := by decide +kernel
theorem dX13_ready_24 : decode cX13_ready 24 = .ok (.aload_n 0, 1) := by decide +kernel
theorem dX13_ready_25 : decode cX13_ready 25 = .ok (.iload_n 3, 1) := by decide +kernel
theorem dX13_ready_26 : decode cX13_ready 26 = .ok (.iconst 2, 1) := by decide +kernel
theorem dX13_ready_27 : decode cX13_ready 27 = .ok (.invokevirtual 36, 3) := by decide +kernel
theorem dX13_ready_30 : decode cX13_ready 30 = .ok (.istore_n 3, 1) := by decide +kernel
theorem dX13_ready_31 : decode cX13_ready 31 = .ok (.goto (-22), 3) := by decide +kernel
theorem dX13_ready_34 : decode cX13_ready 34 = .ok (.aload_n 0, 1) := by decide +kernel
theorem dX13_ready_35 : decode cX13_ready 35 = .ok (.getfield 7, 3) := by decide +kernel
theorem dX13_ready_38 : decode cX13_ready 38 = .ok (.iconst 0, 1) := by decide +kernel
theorem dX13_ready_39 : decode cX13_ready 39 = .ok (.iaload, 1) := by decide +kernel
theorem dX13_ready_40 : decode cX13_ready 40 = .ok (.istore 4, 2) := by decide +kernel
theorem dX13_ready_42 : decode cX13_ready 42 = .ok (.iconst 0, 1) := by decide +kernel
theorem dX13_ready_43 : decode cX13_ready 43 = .ok (.istore 5, 2) := by decide +kernel
theorem dX13_ready_45 : decode cX13_ready 45 = .ok (.iload_n 2, 1) := by decide +kernel
theorem dX13_ready_46 : decode cX13_ready 46 = .ok (.iconst 1, 1) := by decide +kernel
theorem dX13_ready_47 : decode cX13_ready 47 = .ok (.isub, 1) := by decide +kernel
theorem dX13_ready_48 : decode cX13_ready 48 = .ok (.istore 6, 2) := by decide +kernel
theorem dX13_ready_50 : decode cX13_ready 50 = .ok (.iload 6, 2) := by decide +kernel
theorem dX13_ready_52 : decode cX13_ready 52 = .ok (.ifCond .lt 135, 3) := by decide +kernel
theorem dX13_ready_55 : decode cX13_ready 55 = .ok (.aload_n 0, 1) := by decide +kernel
theorem dX13_ready_56 : decode cX13_ready 56 = .ok (.getfield 19, 3) := by decide +kernel
theorem dX13_ready_59 : decode cX13_ready 59 = .ok (.iload 6, 2) := by decide +kernel
theorem dX13_ready_61 : decode cX13_ready 61 = .ok (.iaload, 1) := by decide +kernel
theorem dX13_ready_62 : decode cX13_ready 62 = .ok (.istore 7, 2) := by decide +kernel
theorem dX13_ready_64 : decode cX13_ready 64 = .ok (.aload_n 0, 1) := by decide +kernel
theorem dX13_ready_65 : decode cX13_ready 65 = .ok (.getfield 19, 3) := by decide +kernel
theorem dX13_ready_68 : decode cX13_ready 68 = .ok (.iload_n 2, 1) := by decide +kernel
theorem dX13_ready_69 : decode cX13_ready 69 = .ok (.iconst 1, 1) := by decide +kernel
theorem dX13_ready_70 : decode cX13_ready 70 = .ok (.isub, 1) := by decide +kernel
theorem dX13_ready_71 : decode cX13_ready 71 = .ok (.iaload, 1) := by decide +kernel
theorem dX13_ready_72 : decode cX13_ready 72 = .ok (.istore 8, 2) := by decide +kernel
theorem dX13_ready_74 : decode cX13_ready 74 = .ok (.aload_n 0, 1) := by decide +kernel
theorem dX13_ready_75 : decode cX13_ready 75 = .ok (.iload 8, 2) := by decide +kernel
theorem dX13_ready_77 : decode cX13_ready 77 = .ok (.iconst 3, 1) := by decide +kernel
theorem dX13_ready_78 : decode cX13_ready 78 = .ok (.invokevirtual 36, 3) := by decide +kernel
theorem dX13_ready_81 : decode cX13_ready 81 = .ok (.iconst (-1), 1) := by decide +kernel
theorem dX13_ready_82 : decode cX13_ready 82 = .ok (.if_icmp .ne 7, 3) := by decide +kernel
theorem dX13_ready_85 : decode cX13_ready 85 = .ok (.iconst 1, 1) := by decide +kernel
theorem dX13_ready_86 : decode cX13_ready 86 = .ok (.goto 4, 3) := by decide +kernel
theorem dX13_ready_89 : decode cX13_ready 89 = .ok (.iconst 0, 1) := by decide +kernel
theorem dX13_ready_90 : decode cX13_ready 90 = .ok (.istore 9, 2) := by decide +kernel
theorem dX13_ready_92 : decode cX13_ready 92 = .ok (.iload 9, 2) := by decide +kernel
theorem dX13_ready_94 : decode cX13_ready 94 = .ok (.ifCond .eq 13, 3) := by decide +kernel
theorem dX13_ready_97 : decode cX13_ready 97 = .ok (.aload_n 0, 1) := by decide +kernel
theorem dX13_ready_98 : decode cX13_ready 98 = .ok (.iload 8, 2) := by decide +kernel
theorem dX13_ready_100 : decode cX13_ready 100 = .ok (.iconst 4, 1) := by decide +kernel
theorem dX13_ready_101 : decode cX13_ready 101 = .ok (.invokevirtual 36, 3) := by decide +kernel
theorem dX13_ready_104 : decode cX13_ready 104 = .ok (.goto 10, 3) := by decide +kernel
theorem dX13_ready_107 : decode cX13_ready 107 = .ok (.aload_n 0, 1) := by decide +kernel
theorem dX13_ready_108 : decode cX13_ready 108 = .ok (.iload 8, 2) := by decide +kernel
theorem dX13_ready_110 : decode cX13_ready 110 = .ok (.iconst 3, 1) := by decide +kernel
theorem dX13_ready_111 : decode cX13_ready 111 = .ok (.invokevirtual 36, 3) := by decide +kernel
theorem dX13_ready_114 : decode cX13_ready 114 = .ok (.istore 10, 2) := by decide +kernel
theorem dX13_ready_116 : decode cX13_ready 116 = .ok (.aload_n 0, 1) := by decide +kernel
theorem dX13_ready_117 : decode cX13_ready 117 = .ok (.iload 7, 2) := by decide +kernel
theorem dX13_ready_119 : decode cX13_ready 119 = .ok (.invokevirtual 47, 3) := by decide +kernel
theorem dX13_ready_122 : decode cX13_ready 122 = .ok (.ifCond .ne 59, 3) := by decide +kernel
theorem dX13_ready_125 : decode cX13_ready 125 = .ok (.iload 5, 2) := by decide +kernel
theorem dX13_ready_127 : decode cX13_ready 127 = .ok (.ifCond .eq 8, 3) := by decide +kernel
theorem dX13_ready_130 : decode cX13_ready 130 = .ok (.iload 4, 2) := by decide +kernel
theorem dX13_ready_132 : decode cX13_ready 132 = .ok (.goto 26, 3) := by decide +kernel
theorem dX13_ready_135 : decode cX13_ready 135 = .ok (.iload 9, 2) := by decide +kernel
theorem dX13_ready_137 : decode cX13_ready 137 = .ok (.ifCond .eq 13, 3) := by decide +kernel
theorem dX13_ready_140 : decode cX13_ready 140 = .ok (.aload_n 0, 1) := by decide +kernel
theorem dX13_ready_141 : decode cX13_ready 141 = .ok (.iload 8, 2) := by decide +kernel
theorem dX13_ready_143 : decode cX13_ready 143 = .ok (.iconst 5, 1) := by decide +kernel
theorem dX13_ready_144 : decode cX13_ready 144 = .ok (.invokevirtual 36, 3) := by decide +kernel
theorem dX13_ready_147 : decode cX13_ready 147 = .ok (.goto 11, 3) := by decide +kernel
theorem dX13_ready_150 : decode cX13_ready 150 = .ok (.aload_n 0, 1) := by decide +kernel
theorem dX13_ready_151 : decode cX13_ready 151 = .ok (.iload 7, 2) := by decide +kernel
theorem dX13_ready_153 : decode cX13_ready 153 = .ok (.bipush 8, 2) := by decide +kernel
theorem dX13_ready_155 : decode cX13_ready 155 = .ok (.invokevirtual 36, 3) := by decide +kernel
theorem dX13_ready_158 : decode cX13_ready 158 = .ok (.istore 11, 2) := by decide +kernel
theorem dX13_ready_160 : decode cX13_ready 160 = .ok (.iload 4, 2) := by decide +kernel
theorem dX13_ready_162 : decode cX13_ready 162 = .ok (.iload 11, 2) := by decide +kernel
theorem dX13_ready_164 : decode cX13_ready 164 = .ok (.aload_n 0, 1) := by decide +kernel
theorem dX13_ready_165 : decode cX13_ready 165 = .ok (.iload 7, 2) := by decide +kernel
theorem dX13_ready_167 : decode cX13_ready 167 = .ok (.iload 10, 2) := by decide +kernel
theorem dX13_ready_169 : decode cX13_ready 169 = .ok (.invokevirtual 91, 3) := by decide +kernel
theorem dX13_ready_172 : decode cX13_ready 172 = .ok (.iadd, 1) := by decide +kernel
theorem dX13_ready_173 : decode cX13_ready 173 = .ok (.invokestatic 240, 3) := by decide +kernel
theorem dX13_ready_176 : decode cX13_ready 176 = .ok (.istore 4, 2) := by decide +kernel
theorem dX13_ready_178 : decode cX13_ready 178 = .ok (.iconst 1, 1) := by decide +kernel
theorem dX13_ready_179 : decode cX13_ready 179 = .ok (.istore 5, 2) := by decide +kernel
theorem dX13_ready_181 : decode cX13_ready 181 = .ok (.iinc 6 (-1), 3) := by decide +kernel
theorem dX13_ready_184 : decode cX13_ready 184 = .ok (.goto (-134), 3) := by decide +kernel
theorem dX13_ready_187 : decode cX13_ready 187 = .ok (.iload 4, 2) := by decide +kernel
theorem dX13_ready_189 : decode cX13_ready 189 = .ok (.ireturn, 1) := by decide +kernel
def sX13_ready_158 (k50 : Wl → Int32 → Int32 → Int32 → Int32 → Option (Int32 × Wl)) (w : Wl) (l2 : Int32) (l4 : Int32) (l6 : Int32) (l7 : Int32) (l10 : Int32) (s0 : Int32) : Option (Int32 × Wl) := (sX13_needs w l7 l10).bind (fun r1 => (sX13_greater w l4 (s0 + r1)).bind (fun r3 => k50 w l2 r3 (1 : Int32) (l6 + (-1))))
theorem tX13_ready_158 {X : Cx} {B : Bs} {sz : Nat} {r : (Int32 × Wl)} (hx : Fx X cX13_ready 12 RX13 2 0 0) (hr : Rt X (some .int) 0 0 (WΨ (xΓ X) B (some (.int (r.1))) r.2 sz)) (k50 : Wl → Int32 → Int32 → Int32 → Int32 → Option (Int32 × Wl)) (hk50 : ∀ (w : Wl) (l2 : Int32) (l4 : Int32) (l5 : Int32) (l6 : Int32) {G : Gf} (hW : Wd (xΓ X) B w G) (h : k50 w l2 l4 l5 l6 = some r), J X 12 G sz 0 0 50 [some (.ref (B.1 + 371)), none, some (.int l2), none, some (.int l4), some (.int l5), some (.int l6), none, none, none, none, none] []) : ∀ (w : Wl) (l2 : Int32) (l4 : Int32) (l6 : Int32) (l7 : Int32) (l10 : Int32) (s0 : Int32) {G : Gf} (hW : Wd (xΓ X) B w G) (h : sX13_ready_158 k50  w l2 l4 l6 l7 l10 s0 = some r), J X 12 G sz 0 0 158 [some (.ref (B.1 + 371)), none, some (.int l2), none, some (.int l4), none, some (.int l6), some (.int l7), none, none, some (.int l10), none] [.int s0] := by
  intro w l2 l4 l6 l7 l10 s0 G hW h
  unfold sX13_ready_158 at h
  refine J_is hx (by decide) (hc_of rfl) rfl dX13_ready_158 ?_
  refine J_il hx rfl dX13_ready_160 ?_
  refine J_il hx rfl dX13_ready_162 ?_
  refine J_al4 hx rfl rfl dX13_ready_164 ?_
  refine J_il hx rfl dX13_ready_165 ?_
  refine J_il hx rfl dX13_ready_167 ?_
  obtain ⟨r1, hr2, h⟩ := bnd h
  refine J_rdV hx (kX13_needs  hW hr2) ml_X13_91 lk_X13_needs (ci := 11) rfl (hW.obj (rfl : kd 371 = 19) (by decide) (by decide)) (rest := [.int s0, .int l4]) rfl rfl (by decide) (by decide) (Nat.le_of_ble_eq_true rfl) (Nat.le_refl 0) (Nat.le_refl 0) dX13_ready_169 ?_
  refine J_iadd hx dX13_ready_172 ?_
  obtain ⟨r3, hr4, h⟩ := bnd h
  refine J_rdS hx (kX13_greater  hW hr4) ml_X13_240 lk_X13_greater (rest := []) rfl rfl (by decide) (by decide) (Nat.le_of_ble_eq_true rfl) (Nat.le_refl 0) (Nat.le_refl 0) dX13_ready_173 ?_
  refine J_is hx (by decide) (hc_of rfl) rfl dX13_ready_176 ?_
  refine J_iconst hx (1 : Int32) dX13_ready_178 rfl ?_
  refine J_is hx (by decide) (hc_of rfl) rfl dX13_ready_179 ?_
  refine J_iinc hx (v' := (l6 + (-1))) rfl (iinc_m1 _) (by decide) (hc_of rfl) rfl dX13_ready_181 ?_
  refine J_goto hx 50 dX13_ready_184 rfl ?_
  refine J_lw (ls' := [some (.ref (B.1 + 371)), none, some (.int l2), none, some (.int r3), some (.int (1 : Int32)), some (.int (l6 + (-1))), none, none, none, none, none]) (lwS (lwN (lwS (lwN (lwS (lwS (lwS (lwN (lwN (lwN (lwN (lwN lwZ)))))))))))) ?_
  exact hk50 _ _ _ _ _  hW h
def sX13_ready_114 (k50 : Wl → Int32 → Int32 → Int32 → Int32 → Option (Int32 × Wl)) (w : Wl) (l2 : Int32) (l4 : Int32) (l5 : Int32) (l6 : Int32) (l7 : Int32) (l8 : Int32) (l9 : Int32) (s0 : Int32) : Option (Int32 × Wl) := (sX13_isOpen w l7).bind (fun r1 => (if r1 = true then k50 w l2 l4 l5 (l6 + (-1)) else (if l5 = 0 then (if l9 = 0 then (sX13_of w l7 (8 : Int32)).bind (fun r6 => sX13_ready_158 k50 w l2 l4 l6 l7 s0 r6) else (sX13_of w l8 (5 : Int32)).bind (fun r8 => sX13_ready_158 k50 w l2 l4 l6 l7 s0 r8)) else sX13_ready_158 k50 w l2 l4 l6 l7 s0 l4)))
theorem tX13_ready_114 {X : Cx} {B : Bs} {sz : Nat} {r : (Int32 × Wl)} (hx : Fx X cX13_ready 12 RX13 2 0 0) (hr : Rt X (some .int) 0 0 (WΨ (xΓ X) B (some (.int (r.1))) r.2 sz)) (k50 : Wl → Int32 → Int32 → Int32 → Int32 → Option (Int32 × Wl)) (hk50 : ∀ (w : Wl) (l2 : Int32) (l4 : Int32) (l5 : Int32) (l6 : Int32) {G : Gf} (hW : Wd (xΓ X) B w G) (h : k50 w l2 l4 l5 l6 = some r), J X 12 G sz 0 0 50 [some (.ref (B.1 + 371)), none, some (.int l2), none, some (.int l4), some (.int l5), some (.int l6), none, none, none, none, none] []) : ∀ (w : Wl) (l2 : Int32) (l4 : Int32) (l5 : Int32) (l6 : Int32) (l7 : Int32) (l8 : Int32) (l9 : Int32) (s0 : Int32) {G : Gf} (hW : Wd (xΓ X) B w G) (h : sX13_ready_114 k50  w l2 l4 l5 l6 l7 l8 l9 s0 = some r), J X 12 G sz 0 0 114 [some (.ref (B.1 + 371)), none, some (.int l2), none, some (.int l4), some (.int l5), some (.int l6), some (.int l7), some (.int l8), some (.int l9), none, none] [.int s0] := by
  intro w l2 l4 l5 l6 l7 l8 l9 s0 G hW h
  unfold sX13_ready_114 at h
  refine J_is hx (by decide) (hc_of rfl) rfl dX13_ready_114 ?_
  refine J_al4 hx rfl rfl dX13_ready_116 ?_
  refine J_il hx rfl dX13_ready_117 ?_
  obtain ⟨r1, hr2, h⟩ := bnd h
  refine J_rdV hx (kX13_isOpen  hW hr2) ml_X13_47 lk_X13_isOpen (ci := 11) rfl (hW.obj (rfl : kd 371 = 19) (by decide) (by decide)) (rest := []) rfl rfl (by decide) (by decide) (Nat.le_of_ble_eq_true rfl) (Nat.le_refl 0) (Nat.le_refl 0) dX13_ready_119 ?_
  refine J_bif_ne hx 181 dX13_ready_122 rfl (fun h3 => ?_) (fun h3 => ?_)
  · replace h := pos h h3
    refine J_iinc hx (v' := (l6 + (-1))) rfl (iinc_m1 _) (by decide) (hc_of rfl) rfl dX13_ready_181 ?_
    refine J_goto hx 50 dX13_ready_184 rfl ?_
    refine J_lw (ls' := [some (.ref (B.1 + 371)), none, some (.int l2), none, some (.int l4), some (.int l5), some (.int (l6 + (-1))), none, none, none, none, none]) (lwS (lwN (lwS (lwN (lwS (lwS (lwS (lwN (lwN (lwN (lwN (lwN lwZ)))))))))))) ?_
    exact hk50 _ _ _ _ _  hW h
  · replace h := neg h (bft h3)
    refine J_il hx rfl dX13_ready_125 ?_
    refine J_if_eq hx 135 dX13_ready_127 rfl (fun h4 => ?_) (fun h4 => ?_)
    · replace h := pos h h4
      refine J_il hx rfl dX13_ready_135 ?_
      refine J_if_eq hx 150 dX13_ready_137 rfl (fun h5 => ?_) (fun h5 => ?_)
      · replace h := pos h h5
        refine J_al4 hx rfl rfl dX13_ready_150 ?_
        refine J_il hx rfl dX13_ready_151 ?_
        refine J_bipush hx (8 : Int32) dX13_ready_153 rfl ?_
        obtain ⟨r6, hr7, h⟩ := bnd h
        refine J_rdV hx (kX13_of  hW hr7) ml_X13_36 lk_X13_of (ci := 11) rfl (hW.obj (rfl : kd 371 = 19) (by decide) (by decide)) (rest := []) rfl rfl (by decide) (by decide) (Nat.le_of_ble_eq_true rfl) (Nat.le_refl 0) (Nat.le_refl 0) dX13_ready_155 ?_
        refine J_lw (ls' := [some (.ref (B.1 + 371)), none, some (.int l2), none, some (.int l4), none, some (.int l6), some (.int l7), none, none, some (.int s0), none]) (lwS (lwN (lwS (lwN (lwS (lwN (lwS (lwS (lwN (lwN (lwS (lwN lwZ)))))))))))) ?_
        exact tX13_ready_158 hx hr _ hk50 _ _ _ _ _ _ _  hW h
      · replace h := neg h h5
        refine J_al4 hx rfl rfl dX13_ready_140 ?_
        refine J_il hx rfl dX13_ready_141 ?_
        refine J_iconst hx (5 : Int32) dX13_ready_143 rfl ?_
        obtain ⟨r8, hr9, h⟩ := bnd h
        refine J_rdV hx (kX13_of  hW hr9) ml_X13_36 lk_X13_of (ci := 11) rfl (hW.obj (rfl : kd 371 = 19) (by decide) (by decide)) (rest := []) rfl rfl (by decide) (by decide) (Nat.le_of_ble_eq_true rfl) (Nat.le_refl 0) (Nat.le_refl 0) dX13_ready_144 ?_
        refine J_goto hx 158 dX13_ready_147 rfl ?_
        refine J_lw (ls' := [some (.ref (B.1 + 371)), none, some (.int l2), none, some (.int l4), none, some (.int l6), some (.int l7), none, none, some (.int s0), none]) (lwS (lwN (lwS (lwN (lwS (lwN (lwS (lwS (lwN (lwN (lwS (lwN lwZ)))))))))))) ?_
        exact tX13_ready_158 hx hr _ hk50 _ _ _ _ _ _ _  hW h
    · replace h := neg h h4
      refine J_il hx rfl dX13_ready_130 ?_
      refine J_goto hx 158 dX13_ready_132 rfl ?_
      refine J_lw (ls' := [some (.ref (B.1 + 371)), none, some (.int l2), none, some (.int l4), none, some (.int l6), some (.int l7), none, none, some (.int s0), none]) (lwS (lwN (lwS (lwN (lwS (lwN (lwS (lwS (lwN (lwN (lwS (lwN lwZ)))))))))))) ?_
      exact tX13_ready_158 hx hr _ hk50 _ _ _ _ _ _ _  hW h
def sX13_ready_90 (k50 : Wl → Int32 → Int32 → Int32 → Int32 → Option (Int32 × Wl)) (w : Wl) (l2 : Int32) (l4 : Int32) (l5 : Int32) (l6 : Int32) (l7 : Int32) (l8 : Int32) (s0 : Int32) : Option (Int32 × Wl) := (if s0 = 0 then (sX13_of w l8 (3 : Int32)).bind (fun r2 => sX13_ready_114 k50 w l2 l4 l5 l6 l7 l8 s0 r2) else (sX13_of w l8 (4 : Int32)).bind (fun r4 => sX13_ready_114 k50 w l2 l4 l5 l6 l7 l8 s0 r4))
theorem tX13_ready_90 {X : Cx} {B : Bs} {sz : Nat} {r : (Int32 × Wl)} (hx : Fx X cX13_ready 12 RX13 2 0 0) (hr : Rt X (some .int) 0 0 (WΨ (xΓ X) B (some (.int (r.1))) r.2 sz)) (k50 : Wl → Int32 → Int32 → Int32 → Int32 → Option (Int32 × Wl)) (hk50 : ∀ (w : Wl) (l2 : Int32) (l4 : Int32) (l5 : Int32) (l6 : Int32) {G : Gf} (hW : Wd (xΓ X) B w G) (h : k50 w l2 l4 l5 l6 = some r), J X 12 G sz 0 0 50 [some (.ref (B.1 + 371)), none, some (.int l2), none, some (.int l4), some (.int l5), some (.int l6), none, none, none, none, none] []) : ∀ (w : Wl) (l2 : Int32) (l4 : Int32) (l5 : Int32) (l6 : Int32) (l7 : Int32) (l8 : Int32) (s0 : Int32) {G : Gf} (hW : Wd (xΓ X) B w G) (h : sX13_ready_90 k50  w l2 l4 l5 l6 l7 l8 s0 = some r), J X 12 G sz 0 0 90 [some (.ref (B.1 + 371)), none, some (.int l2), none, some (.int l4), some (.int l5), some (.int l6), some (.int l7), some (.int l8), none, none, none] [.int s0] := by
  intro w l2 l4 l5 l6 l7 l8 s0 G hW h
  unfold sX13_ready_90 at h
  refine J_is hx (by decide) (hc_of rfl) rfl dX13_ready_90 ?_
  refine J_il hx rfl dX13_ready_92 ?_
  refine J_if_eq hx 107 dX13_ready_94 rfl (fun h1 => ?_) (fun h1 => ?_)
  · replace h := pos h h1
    refine J_al4 hx rfl rfl dX13_ready_107 ?_
    refine J_il hx rfl dX13_ready_108 ?_
    refine J_iconst hx (3 : Int32) dX13_ready_110 rfl ?_
    obtain ⟨r2, hr3, h⟩ := bnd h
    refine J_rdV hx (kX13_of  hW hr3) ml_X13_36 lk_X13_of (ci := 11) rfl (hW.obj (rfl : kd 371 = 19) (by decide) (by decide)) (rest := []) rfl rfl (by decide) (by decide) (Nat.le_of_ble_eq_true rfl) (Nat.le_refl 0) (Nat.le_refl 0) dX13_ready_111 ?_
    exact tX13_ready_114 hx hr _ hk50 _ _ _ _ _ _ _ _ _  hW h
  · replace h := neg h h1
    refine J_al4 hx rfl rfl dX13_ready_97 ?_
    refine J_il hx rfl dX13_ready_98 ?_
    refine J_iconst hx (4 : Int32) dX13_ready_100 rfl ?_
    obtain ⟨r4, hr5, h⟩ := bnd h
    refine J_rdV hx (kX13_of  hW hr5) ml_X13_36 lk_X13_of (ci := 11) rfl (hW.obj (rfl : kd 371 = 19) (by decide) (by decide)) (rest := []) rfl rfl (by decide) (by decide) (Nat.le_of_ble_eq_true rfl) (Nat.le_refl 0) (Nat.le_refl 0) dX13_ready_101 ?_
    refine J_goto hx 114 dX13_ready_104 rfl ?_
    exact tX13_ready_114 hx hr _ hk50 _ _ _ _ _ _ _ _ _  hW h
def sX13_ready_50 : Nat → Wl → Int32 → Int32 → Int32 → Int32 → Option (Int32 × Wl)
  | 0, _, _, _, _, _ => none
  | n + 1, w, l2, l4, l5, l6 => (if l6 < 0 then some (l4, w) else (idx l6 12).bind (fun c2 => (idx (l2 - (1 : Int32)) 12).bind (fun c4 => (sX13_of w (w 375 c4) (3 : Int32)).bind (fun r6 => (if r6 = (-1 : Int32) then sX13_ready_90 (fun w l2 l4 l5 l6 => sX13_ready_50 n w l2 l4 l5 l6) w l2 l4 l5 l6 (w 375 c2) (w 375 c4) (1 : Int32) else sX13_ready_90 (fun w l2 l4 l5 l6 => sX13_ready_50 n w l2 l4 l5 l6) w l2 l4 l5 l6 (w 375 c2) (w 375 c4) (0 : Int32))))))
theorem tX13_ready_50 {X : Cx} {B : Bs} {sz : Nat} {r : (Int32 × Wl)} (hx : Fx X cX13_ready 12 RX13 2 0 0) (hr : Rt X (some .int) 0 0 (WΨ (xΓ X) B (some (.int (r.1))) r.2 sz)) : ∀ (n : Nat), ∀ (w : Wl) (l2 : Int32) (l4 : Int32) (l5 : Int32) (l6 : Int32) {G : Gf} (hW : Wd (xΓ X) B w G) (h : sX13_ready_50 n w l2 l4 l5 l6 = some r), J X 12 G sz 0 0 50 [some (.ref (B.1 + 371)), none, some (.int l2), none, some (.int l4), some (.int l5), some (.int l6), none, none, none, none, none] [] := by
  intro n
  induction n with
  | zero => intro w l2 l4 l5 l6 G hW h; rw [sX13_ready_50.eq_1] at h; cases h
  | succ n ih =>
    intro w l2 l4 l5 l6 G hW h
    rw [sX13_ready_50.eq_2] at h
    refine J_il hx rfl dX13_ready_50 ?_
    refine J_if_lt hx 187 dX13_ready_52 rfl (fun h1 => ?_) (fun h1 => ?_)
    · replace h := pos h h1
      refine J_il hx rfl dX13_ready_187 ?_
      obtain rfl := Option.some.inj h
      exact J_iretW hx hr hW dX13_ready_189 (Nat.le_refl 0) (Nat.le_refl 0)
    · replace h := neg h h1
      refine J_al4 hx rfl rfl dX13_ready_55 ?_
      refine g13_6 hx hW 375 (rfl : kd 371 = 19) fl_X13_19 rfl dX13_ready_56 ?_
      refine J_il hx rfl dX13_ready_59 ?_
      obtain ⟨c2, hc3, h⟩ := bnd h
      refine J_iaW hx hW (rfl : kd 375 = 112) hc3 dX13_ready_61 ?_
      refine J_is hx (by decide) (hc_of rfl) rfl dX13_ready_62 ?_
      refine J_al4 hx rfl rfl dX13_ready_64 ?_
      refine g13_6 hx hW 375 (rfl : kd 371 = 19) fl_X13_19 rfl dX13_ready_65 ?_
      refine J_il4 hx rfl rfl dX13_ready_68 ?_
      refine J_iconst hx (1 : Int32) dX13_ready_69 rfl ?_
      refine J_isub hx dX13_ready_70 ?_
      obtain ⟨c4, hc5, h⟩ := bnd h
      refine J_iaW hx hW (rfl : kd 375 = 112) hc5 dX13_ready_71 ?_
      refine J_is hx (by decide) (hc_of rfl) rfl dX13_ready_72 ?_
      refine J_al4 hx rfl rfl dX13_ready_74 ?_
      refine J_il hx rfl dX13_ready_75 ?_
      refine J_iconst hx (3 : Int32) dX13_ready_77 rfl ?_
      obtain ⟨r6, hr7, h⟩ := bnd h
      refine J_rdV hx (kX13_of  hW hr7) ml_X13_36 lk_X13_of (ci := 11) rfl (hW.obj (rfl : kd 371 = 19) (by decide) (by decide)) (rest := []) rfl rfl (by decide) (by decide) (Nat.le_of_ble_eq_true rfl) (Nat.le_refl 0) (Nat.le_refl 0) dX13_ready_78 ?_
      refine J_iconst hx (-1 : Int32) dX13_ready_81 rfl ?_
      refine J_icmp_ne hx 89 dX13_ready_82 rfl (fun h8 => ?_) (fun h8 => ?_)
      · replace h := neg h h8
        refine J_iconst hx (0 : Int32) dX13_ready_89 rfl ?_
        exact tX13_ready_90 hx hr _ ih _ _ _ _ _ _ _ _  hW h
      · replace h := pos h h8
        refine J_iconst hx (1 : Int32) dX13_ready_85 rfl ?_
        refine J_goto hx 90 dX13_ready_86 rfl ?_
        exact tX13_ready_90 hx hr _ ih _ _ _ _ _ _ _ _  hW h
def sX13_ready_9 : Nat → Wl → Int32 → Int32 → Option (Int32 × Wl)
  | 0, _, _, _ => none
  | n + 1, w, l2, l3 => (if l3 = (-1 : Int32) then sX13_ready_50 FU w l2 (w 372 0) (0 : Int32) (l2 - (1 : Int32)) else (idx l2 12).bind (fun c2 => (sX13_of (wst w 375 c2 l3) l3 (2 : Int32)).bind (fun r6 => sX13_ready_9 n (wst w 375 c2 l3) (l2 + 1) r6)))
theorem tX13_ready_9 {X : Cx} {B : Bs} {sz : Nat} {r : (Int32 × Wl)} (hx : Fx X cX13_ready 12 RX13 2 0 0) (hr : Rt X (some .int) 0 0 (WΨ (xΓ X) B (some (.int (r.1))) r.2 sz)) : ∀ (n : Nat), ∀ (w : Wl) (l2 : Int32) (l3 : Int32) {G : Gf} (hW : Wd (xΓ X) B w G) (h : sX13_ready_9 n w l2 l3 = some r), J X 12 G sz 0 0 9 [some (.ref (B.1 + 371)), none, some (.int l2), some (.int l3), none, none, none, none, none, none, none, none] [] := by
  intro n
  induction n with
  | zero => intro w l2 l3 G hW h; rw [sX13_ready_9.eq_1] at h; cases h
  | succ n ih =>
    intro w l2 l3 G hW h
    rw [sX13_ready_9.eq_2] at h
    refine J_il4 hx rfl rfl dX13_ready_9 ?_
    refine J_iconst hx (-1 : Int32) dX13_ready_10 rfl ?_
    refine J_icmp_eq hx 34 dX13_ready_11 rfl (fun h1 => ?_) (fun h1 => ?_)
    · replace h := pos h h1
      refine J_al4 hx rfl rfl dX13_ready_34 ?_
      refine g13_0 hx hW 372 (rfl : kd 371 = 19) fl_X13_7 rfl dX13_ready_35 ?_
      refine J_iconst hx (0 : Int32) dX13_ready_38 rfl ?_
      refine J_iaW hx hW (rfl : kd 372 = 641) (by decide +kernel : idx (0 : Int32) 541 = some 0) dX13_ready_39 ?_
      refine J_is hx (by decide) (hc_of rfl) rfl dX13_ready_40 ?_
      refine J_iconst hx (0 : Int32) dX13_ready_42 rfl ?_
      refine J_is hx (by decide) (hc_of rfl) rfl dX13_ready_43 ?_
      refine J_il4 hx rfl rfl dX13_ready_45 ?_
      refine J_iconst hx (1 : Int32) dX13_ready_46 rfl ?_
      refine J_isub hx dX13_ready_47 ?_
      refine J_is hx (by decide) (hc_of rfl) rfl dX13_ready_48 ?_
      refine J_lw (ls' := [some (.ref (B.1 + 371)), none, some (.int l2), none, some (.int (w 372 0)), some (.int (0 : Int32)), some (.int (l2 - (1 : Int32))), none, none, none, none, none]) (lwS (lwN (lwS (lwN (lwS (lwS (lwS (lwN (lwN (lwN (lwN (lwN lwZ)))))))))))) ?_
      exact tX13_ready_50 hx hr _ _ _ _ _ _  hW h
    · replace h := neg h h1
      refine J_al4 hx rfl rfl dX13_ready_14 ?_
      refine g13_6 hx hW 375 (rfl : kd 371 = 19) fl_X13_19 rfl dX13_ready_15 ?_
      refine J_il4 hx rfl rfl dX13_ready_18 ?_
      refine J_il4 hx rfl rfl dX13_ready_19 ?_
      obtain ⟨c2, hc3, h⟩ := bnd h
      refine J_iaS hx hW (rfl : kd 375 = 112) hc3 dX13_ready_20 fun G4 hW5 => ?_
      refine J_iinc hx (v' := (l2 + 1)) rfl rfl (by decide) (hc_of rfl) rfl dX13_ready_21 ?_
      refine J_al4 hx rfl rfl dX13_ready_24 ?_
      refine J_il4 hx rfl rfl dX13_ready_25 ?_
      refine J_iconst hx (2 : Int32) dX13_ready_26 rfl ?_
      obtain ⟨r6, hr7, h⟩ := bnd h
      refine J_rdV hx (kX13_of  hW5 hr7) ml_X13_36 lk_X13_of (ci := 11) rfl (hW5.obj (rfl : kd 371 = 19) (by decide) (by decide)) (rest := []) rfl rfl (by decide) (by decide) (Nat.le_of_ble_eq_true rfl) (Nat.le_refl 0) (Nat.le_refl 0) dX13_ready_27 ?_
      refine J_is4 hx rfl (by decide) (hc_of rfl) rfl dX13_ready_30 ?_
      refine J_goto hx 9 dX13_ready_31 rfl ?_
      exact ih _ _ _  hW5 h
def sX13_ready (w : Wl) (l1 : Int32) : Option (Int32 × Wl) := (sX13_ofWork w l1 (4 : Int32)).bind (fun r1 => sX13_ready_9 FU w (0 : Int32) r1)
theorem kX13_ready {l : Launch} {Γ : Gl} {B : Bs} {w : Wl} {G : Gf} {sz : Nat} {l1 : Int32} {r : (Int32 × Wl)} (hW : Wd Γ B w G) (h : sX13_ready w l1 = some r) : CtW l Γ yX13_ready cX13_ready 12 (some .int) 2 [.ref (B.1 + 371), .int l1] G sz B (some (.int (r.1))) r.2 := by
  refine Ct.of rfl (Nat.le_of_ble_eq_true rfl) fun X hx hr hl hΓ hnm => ?_
  subst hl hΓ
  show J X 12 G sz 0 0 0 [some (.ref (B.1 + 371)), some (.int l1), none, none, none, none, none, none, none, none, none, none] []
  unfold sX13_ready at h
  refine J_iconst hx (0 : Int32) dX13_ready_0 rfl ?_
  refine J_is4 hx rfl (by decide) (hc_of rfl) rfl dX13_ready_1 ?_
  refine J_al4 hx rfl rfl dX13_ready_2 ?_
  refine J_il4 hx rfl rfl dX13_ready_3 ?_
  refine J_iconst hx (4 : Int32) dX13_ready_4 rfl ?_
  obtain ⟨r1, hr2, h⟩ := bnd h
  refine J_rdV hx (kX13_ofWork  hW hr2) ml_X13_51 lk_X13_ofWork (ci := 11) rfl (hW.obj (rfl : kd 371 = 19) (by decide) (by decide)) (rest := []) rfl rfl (by decide) (by decide) (Nat.le_of_ble_eq_true rfl) (Nat.le_refl 0) (Nat.le_refl 0) dX13_ready_5 ?_
  refine J_is4 hx rfl (by decide) (hc_of rfl) rfl dX13_ready_8 ?_
  refine J_lw (ls' := [some (.ref (B.1 + 371)), none, some (.int (0 : Int32)), some (.int r1), none, none, none, none, none, none, none, none]) (lwS (lwN (lwS (lwS (lwN (lwN (lwN (lwN (lwN (lwN (lwN (lwN lwZ)))))))))))) ?_
  exact tX13_ready_9 hx hr _ _ _ _  hW h
theorem dX13_readyAt_0 : decode cX13_readyAt 0 = .ok (.aload_n 0, 1) := by decide +kernel
theorem dX13_readyAt_1 : decode cX13_readyAt 1 = .ok (.aload_n 0, 1) := by decide +kernel
theorem dX13_readyAt_2 : decode cX13_readyAt 2 = .ok (.iload_n 1, 1) := by decide +kernel
theorem dX13_readyAt_3 : decode cX13_readyAt 3 = .ok (.invokevirtual 130, 3) := by decide +kernel
theorem dX13_readyAt_6 : decode cX13_readyAt 6 = .ok (.ifCond .eq 7, 3) := by decide +kernel
theorem dX13_readyAt_9 : decode cX13_readyAt 9 = .ok (.iconst 0, 1) := by decide +kernel
theorem dX13_readyAt_10 : decode cX13_readyAt 10 = .ok (.goto 4, 3) := by decide +kernel
theorem dX13_readyAt_13 : decode cX13_readyAt 13 = .ok (.iconst 1, 1) := by decide +kernel
theorem dX13_readyAt_14 : decode cX13_readyAt 14 = .ok (.putfield 25, 3) := by decide +kernel
theorem dX13_readyAt_17 : decode cX13_readyAt 17 = .ok (.aload_n 0, 1) := by decide +kernel
theorem dX13_readyAt_18 : decode cX13_readyAt 18 = .ok (.getfield 25, 3) := by decide +kernel
theorem dX13_readyAt_21 : decode cX13_readyAt 21 = .ok (.ifCond .eq 7, 3) := by decide +kernel
theorem dX13_readyAt_24 : decode cX13_readyAt 24 = .ok (.iconst 0, 1) := by decide +kernel
theorem dX13_readyAt_25 : decode cX13_readyAt 25 = .ok (.goto 8, 3) := by decide +kernel
theorem dX13_readyAt_28 : decode cX13_readyAt 28 = .ok (.aload_n 0, 1) := by decide +kernel
theorem dX13_readyAt_29 : decode cX13_readyAt 29 = .ok (.iload_n 1, 1) := by decide +kernel
theorem dX13_readyAt_30 : decode cX13_readyAt 30 = .ok (.invokevirtual 243, 3) := by decide +kernel
theorem dX13_readyAt_33 : decode cX13_readyAt 33 = .ok (.ireturn, 1) := by decide +kernel
def sX13_readyAt_14 (w : Wl) (l1 : Int32) (s1 : Int32) : Option (Int32 × Wl) := (if ((wst w 371 5 s1) 371 5) = 0 then (sX13_ready (wst w 371 5 s1) l1).bind (fun r4 => some (r4.1, r4.2)) else some ((0 : Int32), (wst w 371 5 s1)))
theorem tX13_readyAt_14 {X : Cx} {B : Bs} {sz : Nat} {r : (Int32 × Wl)} (hx : Fx X cX13_readyAt 2 RX13 4 0 0) (hr : Rt X (some .int) 0 0 (WΨ (xΓ X) B (some (.int (r.1))) r.2 sz)) : ∀ (w : Wl) (l1 : Int32) (s1 : Int32) {G : Gf} (hW : Wd (xΓ X) B w G) (h : sX13_readyAt_14  w l1 s1 = some r), J X 2 G sz 0 0 14 [some (.ref (B.1 + 371)), some (.int l1)] [.int s1, .ref (B.1 + 371)] := by
  intro w l1 s1 G hW h
  unfold sX13_readyAt_14 at h
  refine p13_5 hx hW (rfl : kd 371 = 19) fl_X13_25 dX13_readyAt_14 fun G1 hW2 => ?_
  refine J_al4 hx rfl rfl dX13_readyAt_17 ?_
  refine g13_5 hx hW2 (rfl : kd 371 = 19) fl_X13_25 dX13_readyAt_18 ?_
  refine J_if_eq hx 28 dX13_readyAt_21 rfl (fun h3 => ?_) (fun h3 => ?_)
  · replace h := pos h h3
    refine J_al4 hx rfl rfl dX13_readyAt_28 ?_
    refine J_il4 hx rfl rfl dX13_readyAt_29 ?_
    obtain ⟨r4, hr5, h⟩ := bnd h
    refine J_wrV hx (kX13_ready  hW2 hr5) ml_X13_243 lk_X13_ready (ci := 11) rfl (hW2.obj (rfl : kd 371 = 19) (by decide) (by decide)) (rest := []) rfl rfl (by decide) (by decide) (Nat.le_of_ble_eq_true rfl) (Nat.le_refl 0) (Nat.le_refl 0) dX13_readyAt_30 fun G6 hW7 => ?_
    show J X 2 G6 sz 0 0 33 [some (.ref (B.1 + 371)), some (.int l1)] [.int r4.1]
    obtain rfl := Option.some.inj h
    exact J_iretW hx hr hW7 dX13_readyAt_33 (Nat.le_refl 0) (Nat.le_refl 0)
  · replace h := neg h h3
    refine J_iconst hx (0 : Int32) dX13_readyAt_24 rfl ?_
    refine J_goto hx 33 dX13_readyAt_25 rfl ?_
    obtain rfl := Option.some.inj h
    exact J_iretW hx hr hW2 dX13_readyAt_33 (Nat.le_refl 0) (Nat.le_refl 0)
def sX13_readyAt (w : Wl) (l1 : Int32) : Option (Int32 × Wl) := (sX13_isWork w l1).bind (fun r1 => (if r1 = true then sX13_readyAt_14 w l1 (0 : Int32) else sX13_readyAt_14 w l1 (1 : Int32)))
theorem kX13_readyAt {l : Launch} {Γ : Gl} {B : Bs} {w : Wl} {G : Gf} {sz : Nat} {l1 : Int32} {r : (Int32 × Wl)} (hW : Wd Γ B w G) (h : sX13_readyAt w l1 = some r) : CtW l Γ yX13_readyAt cX13_readyAt 2 (some .int) 4 [.ref (B.1 + 371), .int l1] G sz B (some (.int (r.1))) r.2 := by
  refine Ct.of rfl (Nat.le_of_ble_eq_true rfl) fun X hx hr hl hΓ hnm => ?_
  subst hl hΓ
  show J X 2 G sz 0 0 0 [some (.ref (B.1 + 371)), some (.int l1)] []
  unfold sX13_readyAt at h
  refine J_al4 hx rfl rfl dX13_readyAt_0 ?_
  refine J_al4 hx rfl rfl dX13_readyAt_1 ?_
  refine J_il4 hx rfl rfl dX13_readyAt_2 ?_
  obtain ⟨r1, hr2, h⟩ := bnd h
  refine J_rdV hx (kX13_isWork  hW hr2) ml_X13_130 lk_X13_isWork (ci := 11) rfl (hW.obj (rfl : kd 371 = 19) (by decide) (by decide)) (rest := [.ref (B.1 + 371)]) rfl rfl (by decide) (by decide) (Nat.le_of_ble_eq_true rfl) (Nat.le_refl 0) (Nat.le_refl 0) dX13_readyAt_3 ?_
  refine J_bif_eq hx 13 dX13_readyAt_6 rfl (fun h3 => ?_) (fun h3 => ?_)
  · replace h := neg h (bft h3)
    refine J_iconst hx (1 : Int32) dX13_readyAt_13 rfl ?_
    exact tX13_readyAt_14 hx hr _ _ _  hW h
  · replace h := pos h h3
    refine J_iconst hx (0 : Int32) dX13_readyAt_9 rfl ?_
    refine J_goto hx 14 dX13_readyAt_10 rfl ?_
    exact tX13_readyAt_14 hx hr _ _ _  hW h
theorem dX13_allReady_0 : decode cX13_allReady 0 = .ok (.iconst (-1), 1) := by decide +kernel
theorem dX13_allReady_1 : decode cX13_allReady 1 = .ok (.istore_n 2, 1) := by decide +kernel
theorem dX13_allReady_2 : decode cX13_allReady 2 = .ok (.iconst 0, 1) := by decide +kernel
theorem dX13_allReady_3 : decode cX13_allReady 3 = .ok (.istore_n 3, 1) := by decide +kernel
theorem dX13_allReady_4 : decode cX13_allReady 4 = .ok (.iload_n 3, 1) := by decide +kernel
theorem dX13_allReady_5 : decode cX13_allReady 5 = .ok (.aload_n 0, 1) := by decide +kernel
theorem dX13_allReady_6 : decode cX13_allReady 6 = .ok (.getfield 7, 3) := by decide +kernel
theorem dX13_allReady_9 : decode cX13_allReady 9 = .ok (.iconst 3, 1) := by decide +kernel
theorem dX13_allReady_10 : decode cX13_allReady 10 = .ok (.iaload, 1) := by decide +kernel
theorem dX13_allReady_11 : decode cX13_allReady 11 = .ok (.if_icmp .ge 37, 3) := by decide +kernel
theorem dX13_allReady_14 : decode cX13_allReady 14 = .ok (.aload_n 0, 1) := by decide +kernel
theorem dX13_allReady_15 : decode cX13_allReady 15 = .ok (.aload_n 0, 1) := by decide +kernel
theorem dX13_allReady_16 : decode cX13_allReady 16 = .ok (.iload_n 3, 1) := by decide +kernel
theorem dX13_allReady_17 : decode cX13_allReady 17 = .ok (.iconst 4, 1) := by decide +kernel
theorem dX13_allReady_18 : decode cX13_allReady 18 = .ok (.invokevirtual 51, 3) := by decide +kernel
theorem dX13_allReady_21 : decode cX13_allReady 21 = .ok (.iload_n 1, 1) := by decide +kernel
theorem dX13_allReady_22 : decode cX13_allReady 22 = .ok (.invokevirtual 54, 3) := by decide +kernel
theorem dX13_allReady_25 : decode cX13_allReady 25 = .ok (.ifCond .eq 15, 3) := by decide +kernel
theorem dX13_allReady_28 : decode cX13_allReady 28 = .ok (.iload_n 2, 1) := by decide +kernel
theorem dX13_allReady_29 : decode cX13_allReady 29 = .ok (.aload_n 0, 1) := by decide +kernel
theorem dX13_allReady_30 : decode cX13_allReady 30 = .ok (.iload_n 3, 1) := by decide +kernel
theorem dX13_allReady_31 : decode cX13_allReady 31 = .ok (.invokevirtual 243, 3) := by decide +kernel
theorem dX13_allReady_34 : decode cX13_allReady 34 = .ok (.invokestatic 240, 3) := by decide +kernel
theorem dX13_allReady_37 : decode cX13_allReady 37 = .ok (.goto 4, 3) := by decide +kernel
theorem dX13_allReady_40 : decode cX13_allReady 40 = .ok (.iload_n 2, 1) := by decide +kernel
theorem dX13_allReady_41 : decode cX13_allReady 41 = .ok (.istore_n 2, 1) := by decide +kernel
theorem dX13_allReady_42 : decode cX13_allReady 42 = .ok (.iinc 3 1, 3) := by decide +kernel
theorem dX13_allReady_45 : decode cX13_allReady 45 = .ok (.goto (-41), 3) := by decide +kernel
theorem dX13_allReady_48 : decode cX13_allReady 48 = .ok (.iload_n 2, 1) := by decide +kernel
theorem dX13_allReady_49 : decode cX13_allReady 49 = .ok (.ireturn, 1) := by decide +kernel
def sX13_allReady_4 : Nat → Wl → Int32 → Int32 → Int32 → Option (Int32 × Wl)
  | 0, _, _, _, _ => none
  | n + 1, w, l1, l2, l3 => (if (w 372 3) ≤ l3 then some (l2, w) else (sX13_ofWork w l3 (4 : Int32)).bind (fun r2 => (sX13_isWithin w r2 l1).bind (fun r4 => (if r4 = true then (sX13_ready w l3).bind (fun r7 => (sX13_greater r7.2 l2 r7.1).bind (fun r11 => sX13_allReady_4 n r7.2 l1 r11 (l3 + 1))) else sX13_allReady_4 n w l1 l2 (l3 + 1)))))
theorem tX13_allReady_4 {X : Cx} {B : Bs} {sz : Nat} {r : (Int32 × Wl)} (hx : Fx X cX13_allReady 4 RX13 4 0 0) (hr : Rt X (some .int) 0 0 (WΨ (xΓ X) B (some (.int (r.1))) r.2 sz)) : ∀ (n : Nat), ∀ (w : Wl) (l1 : Int32) (l2 : Int32) (l3 : Int32) {G : Gf} (hW : Wd (xΓ X) B w G) (h : sX13_allReady_4 n w l1 l2 l3 = some r), J X 4 G sz 0 0 4 [some (.ref (B.1 + 371)), some (.int l1), some (.int l2), some (.int l3)] [] := by
  intro n
  induction n with
  | zero => intro w l1 l2 l3 G hW h; rw [sX13_allReady_4.eq_1] at h; cases h
  | succ n ih =>
    intro w l1 l2 l3 G hW h
    rw [sX13_allReady_4.eq_2] at h
    refine J_il4 hx rfl rfl dX13_allReady_4 ?_
    refine J_al4 hx rfl rfl dX13_allReady_5 ?_
    refine g13_0 hx hW 372 (rfl : kd 371 = 19) fl_X13_7 rfl dX13_allReady_6 ?_
    refine J_iconst hx (3 : Int32) dX13_allReady_9 rfl ?_
    refine J_iaW hx hW (rfl : kd 372 = 641) (by decide +kernel : idx (3 : Int32) 541 = some 3) dX13_allReady_10 ?_
    refine J_icmp_ge hx 48 dX13_allReady_11 rfl (fun h1 => ?_) (fun h1 => ?_)
    · replace h := pos h h1
      refine J_il4 hx rfl rfl dX13_allReady_48 ?_
      obtain rfl := Option.some.inj h
      exact J_iretW hx hr hW dX13_allReady_49 (Nat.le_refl 0) (Nat.le_refl 0)
    · replace h := neg h h1
      refine J_al4 hx rfl rfl dX13_allReady_14 ?_
      refine J_al4 hx rfl rfl dX13_allReady_15 ?_
      refine J_il4 hx rfl rfl dX13_allReady_16 ?_
      refine J_iconst hx (4 : Int32) dX13_allReady_17 rfl ?_
      obtain ⟨r2, hr3, h⟩ := bnd h
      refine J_rdV hx (kX13_ofWork  hW hr3) ml_X13_51 lk_X13_ofWork (ci := 11) rfl (hW.obj (rfl : kd 371 = 19) (by decide) (by decide)) (rest := [.ref (B.1 + 371)]) rfl rfl (by decide) (by decide) (Nat.le_of_ble_eq_true rfl) (Nat.le_refl 0) (Nat.le_refl 0) dX13_allReady_18 ?_
      refine J_il4 hx rfl rfl dX13_allReady_21 ?_
      obtain ⟨r4, hr5, h⟩ := bnd h
      refine J_rdV hx (kX13_isWithin  hW hr5) ml_X13_54 lk_X13_isWithin (ci := 11) rfl (hW.obj (rfl : kd 371 = 19) (by decide) (by decide)) (rest := []) rfl rfl (by decide) (by decide) (Nat.le_of_ble_eq_true rfl) (Nat.le_refl 0) (Nat.le_refl 0) dX13_allReady_22 ?_
      refine J_bif_eq hx 40 dX13_allReady_25 rfl (fun h6 => ?_) (fun h6 => ?_)
      · replace h := neg h (bft h6)
        refine J_il4 hx rfl rfl dX13_allReady_40 ?_
        refine J_is4 hx rfl (by decide) (hc_of rfl) rfl dX13_allReady_41 ?_
        refine J_iinc hx (v' := (l3 + 1)) rfl rfl (by decide) (hc_of rfl) rfl dX13_allReady_42 ?_
        refine J_goto hx 4 dX13_allReady_45 rfl ?_
        exact ih _ _ _ _  hW h
      · replace h := pos h h6
        refine J_il4 hx rfl rfl dX13_allReady_28 ?_
        refine J_al4 hx rfl rfl dX13_allReady_29 ?_
        refine J_il4 hx rfl rfl dX13_allReady_30 ?_
        obtain ⟨r7, hr8, h⟩ := bnd h
        refine J_wrV hx (kX13_ready  hW hr8) ml_X13_243 lk_X13_ready (ci := 11) rfl (hW.obj (rfl : kd 371 = 19) (by decide) (by decide)) (rest := [.int l2]) rfl rfl (by decide) (by decide) (Nat.le_of_ble_eq_true rfl) (Nat.le_refl 0) (Nat.le_refl 0) dX13_allReady_31 fun G9 hW10 => ?_
        show J X 4 G9 sz 0 0 34 [some (.ref (B.1 + 371)), some (.int l1), some (.int l2), some (.int l3)] [.int r7.1, .int l2]
        obtain ⟨r11, hr12, h⟩ := bnd h
        refine J_rdS hx (kX13_greater  hW10 hr12) ml_X13_240 lk_X13_greater (rest := []) rfl rfl (by decide) (by decide) (Nat.le_of_ble_eq_true rfl) (Nat.le_refl 0) (Nat.le_refl 0) dX13_allReady_34 ?_
        refine J_goto hx 41 dX13_allReady_37 rfl ?_
        refine J_is4 hx rfl (by decide) (hc_of rfl) rfl dX13_allReady_41 ?_
        refine J_iinc hx (v' := (l3 + 1)) rfl rfl (by decide) (hc_of rfl) rfl dX13_allReady_42 ?_
        refine J_goto hx 4 dX13_allReady_45 rfl ?_
        exact ih _ _ _ _  hW10 h
def sX13_allReady (w : Wl) (l1 : Int32) : Option (Int32 × Wl) := sX13_allReady_4 FU w l1 (-1 : Int32) (0 : Int32)
theorem kX13_allReady {l : Launch} {Γ : Gl} {B : Bs} {w : Wl} {G : Gf} {sz : Nat} {l1 : Int32} {r : (Int32 × Wl)} (hW : Wd Γ B w G) (h : sX13_allReady w l1 = some r) : CtW l Γ yX13_allReady cX13_allReady 4 (some .int) 4 [.ref (B.1 + 371), .int l1] G sz B (some (.int (r.1))) r.2 := by
  refine Ct.of rfl (Nat.le_of_ble_eq_true rfl) fun X hx hr hl hΓ hnm => ?_
  subst hl hΓ
  show J X 4 G sz 0 0 0 [some (.ref (B.1 + 371)), some (.int l1), none, none] []
  unfold sX13_allReady at h
  refine J_iconst hx (-1 : Int32) dX13_allReady_0 rfl ?_
  refine J_is4 hx rfl (by decide) (hc_of rfl) rfl dX13_allReady_1 ?_
  refine J_iconst hx (0 : Int32) dX13_allReady_2 rfl ?_
  refine J_is4 hx rfl (by decide) (hc_of rfl) rfl dX13_allReady_3 ?_
  exact tX13_allReady_4 hx hr _ _ _ _ _  hW h
theorem dX13_allReadyAt_0 : decode cX13_allReadyAt 0 = .ok (.aload_n 0, 1) := by decide +kernel
theorem dX13_allReadyAt_1 : decode cX13_allReadyAt 1 = .ok (.aload_n 0, 1) := by decide +kernel
theorem dX13_allReadyAt_2 : decode cX13_allReadyAt 2 = .ok (.iload_n 1, 1) := by decide +kernel
theorem dX13_allReadyAt_3 : decode cX13_allReadyAt 3 = .ok (.invokevirtual 85, 3) := by decide +kernel
theorem dX13_allReadyAt_6 : decode cX13_allReadyAt 6 = .ok (.ifCond .eq 7, 3) := by decide +kernel
theorem dX13_allReadyAt_9 : decode cX13_allReadyAt 9 = .ok (.iconst 0, 1) := by decide +kernel
theorem dX13_allReadyAt_10 : decode cX13_allReadyAt 10 = .ok (.goto 4, 3) := by decide +kernel
theorem dX13_allReadyAt_13 : decode cX13_allReadyAt 13 = .ok (.iconst 1, 1) := by decide +kernel
theorem dX13_allReadyAt_14 : decode cX13_allReadyAt 14 = .ok (.putfield 25, 3) := by decide +kernel
theorem dX13_allReadyAt_17 : decode cX13_allReadyAt 17 = .ok (.aload_n 0, 1) := by decide +kernel
theorem dX13_allReadyAt_18 : decode cX13_allReadyAt 18 = .ok (.getfield 25, 3) := by decide +kernel
theorem dX13_allReadyAt_21 : decode cX13_allReadyAt 21 = .ok (.ifCond .eq 7, 3) := by decide +kernel
theorem dX13_allReadyAt_24 : decode cX13_allReadyAt 24 = .ok (.iconst 0, 1) := by decide +kernel
theorem dX13_allReadyAt_25 : decode cX13_allReadyAt 25 = .ok (.goto 8, 3) := by decide +kernel
theorem dX13_allReadyAt_28 : decode cX13_allReadyAt 28 = .ok (.aload_n 0, 1) := by decide +kernel
theorem dX13_allReadyAt_29 : decode cX13_allReadyAt 29 = .ok (.iload_n 1, 1) := by decide +kernel
theorem dX13_allReadyAt_30 : decode cX13_allReadyAt 30 = .ok (.invokevirtual 246, 3) := by decide +kernel
theorem dX13_allReadyAt_33 : decode cX13_allReadyAt 33 = .ok (.ireturn, 1) := by decide +kernel
def sX13_allReadyAt_14 (w : Wl) (l1 : Int32) (s1 : Int32) : Option (Int32 × Wl) := (if ((wst w 371 5 s1) 371 5) = 0 then (sX13_allReady (wst w 371 5 s1) l1).bind (fun r4 => some (r4.1, r4.2)) else some ((0 : Int32), (wst w 371 5 s1)))
theorem tX13_allReadyAt_14 {X : Cx} {B : Bs} {sz : Nat} {r : (Int32 × Wl)} (hx : Fx X cX13_allReadyAt 2 RX13 5 0 0) (hr : Rt X (some .int) 0 0 (WΨ (xΓ X) B (some (.int (r.1))) r.2 sz)) : ∀ (w : Wl) (l1 : Int32) (s1 : Int32) {G : Gf} (hW : Wd (xΓ X) B w G) (h : sX13_allReadyAt_14  w l1 s1 = some r), J X 2 G sz 0 0 14 [some (.ref (B.1 + 371)), some (.int l1)] [.int s1, .ref (B.1 + 371)] := by
  intro w l1 s1 G hW h
  unfold sX13_allReadyAt_14 at h
  refine p13_5 hx hW (rfl : kd 371 = 19) fl_X13_25 dX13_allReadyAt_14 fun G1 hW2 => ?_
  refine J_al4 hx rfl rfl dX13_allReadyAt_17 ?_
  refine g13_5 hx hW2 (rfl : kd 371 = 19) fl_X13_25 dX13_allReadyAt_18 ?_
  refine J_if_eq hx 28 dX13_allReadyAt_21 rfl (fun h3 => ?_) (fun h3 => ?_)
  · replace h := pos h h3
    refine J_al4 hx rfl rfl dX13_allReadyAt_28 ?_
    refine J_il4 hx rfl rfl dX13_allReadyAt_29 ?_
    obtain ⟨r4, hr5, h⟩ := bnd h
    refine J_wrV hx (kX13_allReady  hW2 hr5) ml_X13_246 lk_X13_allReady (ci := 11) rfl (hW2.obj (rfl : kd 371 = 19) (by decide) (by decide)) (rest := []) rfl rfl (by decide) (by decide) (Nat.le_of_ble_eq_true rfl) (Nat.le_refl 0) (Nat.le_refl 0) dX13_allReadyAt_30 fun G6 hW7 => ?_
    show J X 2 G6 sz 0 0 33 [some (.ref (B.1 + 371)), some (.int l1)] [.int r4.1]
    obtain rfl := Option.some.inj h
    exact J_iretW hx hr hW7 dX13_allReadyAt_33 (Nat.le_refl 0) (Nat.le_refl 0)
  · replace h := neg h h3
    refine J_iconst hx (0 : Int32) dX13_allReadyAt_24 rfl ?_
    refine J_goto hx 33 dX13_allReadyAt_25 rfl ?_
    obtain rfl := Option.some.inj h
    exact J_iretW hx hr hW2 dX13_allReadyAt_33 (Nat.le_refl 0) (Nat.le_refl 0)
def sX13_allReadyAt (w : Wl) (l1 : Int32) : Option (Int32 × Wl) := (sX13_isCrate w l1).bind (fun r1 => (if r1 = true then sX13_allReadyAt_14 w l1 (0 : Int32) else sX13_allReadyAt_14 w l1 (1 : Int32)))
theorem kX13_allReadyAt {l : Launch} {Γ : Gl} {B : Bs} {w : Wl} {G : Gf} {sz : Nat} {l1 : Int32} {r : (Int32 × Wl)} (hW : Wd Γ B w G) (h : sX13_allReadyAt w l1 = some r) : CtW l Γ yX13_allReadyAt cX13_allReadyAt 2 (some .int) 5 [.ref (B.1 + 371), .int l1] G sz B (some (.int (r.1))) r.2 := by
  refine Ct.of rfl (Nat.le_of_ble_eq_true rfl) fun X hx hr hl hΓ hnm => ?_
  subst hl hΓ
  show J X 2 G sz 0 0 0 [some (.ref (B.1 + 371)), some (.int l1)] []
  unfold sX13_allReadyAt at h
  refine J_al4 hx rfl rfl dX13_allReadyAt_0 ?_
  refine J_al4 hx rfl rfl dX13_allReadyAt_1 ?_
  refine J_il4 hx rfl rfl dX13_allReadyAt_2 ?_
  obtain ⟨r1, hr2, h⟩ := bnd h
  refine J_rdV hx (kX13_isCrate  hW hr2) ml_X13_85 lk_X13_isCrate (ci := 11) rfl (hW.obj (rfl : kd 371 = 19) (by decide) (by decide)) (rest := [.ref (B.1 + 371)]) rfl rfl (by decide) (by decide) (Nat.le_of_ble_eq_true rfl) (Nat.le_refl 0) (Nat.le_refl 0) dX13_allReadyAt_3 ?_
  refine J_bif_eq hx 13 dX13_allReadyAt_6 rfl (fun h3 => ?_) (fun h3 => ?_)
  · replace h := neg h (bft h3)
    refine J_iconst hx (1 : Int32) dX13_allReadyAt_13 rfl ?_
    exact tX13_allReadyAt_14 hx hr _ _ _  hW h
  · replace h := pos h h3
    refine J_iconst hx (0 : Int32) dX13_allReadyAt_9 rfl ?_
    refine J_goto hx 14 dX13_allReadyAt_10 rfl ?_
    exact tX13_allReadyAt_14 hx hr _ _ _  hW h
theorem dX13_readyBy_0 : decode cX13_readyBy 0 = .ok (.aload_n 0, 1) := by decide +kernel
theorem dX13_readyBy_1 : decode cX13_readyBy 1 = .ok (.iload_n 1, 1) := by decide +kernel
theorem dX13_readyBy_2 : decode cX13_readyBy 2 = .ok (.iconst 3, 1) := by decide +kernel
theorem dX13_readyBy_3 : decode cX13_readyBy 3 = .ok (.invokevirtual 36, 3) := by decide +kernel
theorem dX13_readyBy_6 : decode cX13_readyBy 6 = .ok (.istore_n 3, 1) := by decide +kernel
theorem dX13_readyBy_7 : decode cX13_readyBy 7 = .ok (.aload_n 0, 1) := by decide +kernel
theorem dX13_readyBy_8 : decode cX13_readyBy 8 = .ok (.iload_n 1, 1) := by decide +kernel
theorem dX13_readyBy_9 : decode cX13_readyBy 9 = .ok (.iconst 5, 1) := by decide +kernel
theorem dX13_readyBy_10 : decode cX13_readyBy 10 = .ok (.aload_n 0, 1) := by decide +kernel
theorem dX13_readyBy_11 : decode cX13_readyBy 11 = .ok (.getfield 7, 3) := by decide +kernel
theorem dX13_readyBy_14 : decode cX13_readyBy 14 = .ok (.iconst 0, 1) := by decide +kernel
theorem dX13_readyBy_15 : decode cX13_readyBy 15 = .ok (.iaload, 1) := by decide +kernel
theorem dX13_readyBy_16 : decode cX13_readyBy 16 = .ok (.aload_n 0, 1) := by decide +kernel
theorem dX13_readyBy_17 : decode cX13_readyBy 17 = .ok (.iload_n 3, 1) := by decide +kernel
theorem dX13_readyBy_18 : decode cX13_readyBy 18 = .ok (.iconst 5, 1) := by decide +kernel
theorem dX13_readyBy_19 : decode cX13_readyBy 19 = .ok (.iload_n 2, 1) := by decide +kernel
theorem dX13_readyBy_20 : decode cX13_readyBy 20 = .ok (.iadd, 1) := by decide +kernel
theorem dX13_readyBy_21 : decode cX13_readyBy 21 = .ok (.invokevirtual 68, 3) := by decide +kernel
theorem dX13_readyBy_24 : decode cX13_readyBy 24 = .ok (.iadd, 1) := by decide +kernel
theorem dX13_readyBy_25 : decode cX13_readyBy 25 = .ok (.invokevirtual 74, 3) := by decide +kernel
theorem dX13_readyBy_28 : decode cX13_readyBy 28 = .ok (.aload_n 0, 1) := by decide +kernel
theorem dX13_readyBy_29 : decode cX13_readyBy 29 = .ok (.iload_n 1, 1) := by decide +kernel
theorem dX13_readyBy_30 : decode cX13_readyBy 30 = .ok (.iconst 4, 1) := by decide +kernel
theorem dX13_readyBy_31 : decode cX13_readyBy 31 = .ok (.iload_n 2, 1) := by decide +kernel
theorem dX13_readyBy_32 : decode cX13_readyBy 32 = .ok (.invokevirtual 74, 3) := by decide +kernel
theorem dX13_readyBy_35 : decode cX13_readyBy 35 = .ok (.aload_n 0, 1) := by decide +kernel
theorem dX13_readyBy_36 : decode cX13_readyBy 36 = .ok (.iload_n 1, 1) := by decide +kernel
theorem dX13_readyBy_37 : decode cX13_readyBy 37 = .ok (.iconst 3, 1) := by decide +kernel
theorem dX13_readyBy_38 : decode cX13_readyBy 38 = .ok (.iconst (-1), 1) := by decide +kernel
theorem dX13_readyBy_39 : decode cX13_readyBy 39 = .ok (.invokevirtual 74, 3) := by decide +kernel
theorem dX13_readyBy_42 : decode cX13_readyBy 42 = .ok (.aload_n 0, 1) := by decide +kernel
theorem dX13_readyBy_43 : decode cX13_readyBy 43 = .ok (.iload_n 1, 1) := by decide +kernel
theorem dX13_readyBy_44 : decode cX13_readyBy 44 = .ok (.iconst 0, 1) := by decide +kernel
theorem dX13_readyBy_45 : decode cX13_readyBy 45 = .ok (.invokevirtual 103, 3) := by decide +kernel
theorem dX13_readyBy_48 : decode cX13_readyBy 48 = .ok (.ifCond .ne 12, 3) := by decide +kernel
theorem dX13_readyBy_51 : decode cX13_readyBy 51 = .ok (.aload_n 0, 1) := by decide +kernel
theorem dX13_readyBy_52 : decode cX13_readyBy 52 = .ok (.iload_n 1, 1) := by decide +kernel
theorem dX13_readyBy_53 : decode cX13_readyBy 53 = .ok (.iconst 5, 1) := by decide +kernel
theorem dX13_readyBy_54 : decode cX13_readyBy 54 = .ok (.invokevirtual 36, 3) := by decide +kernel
theorem dX13_readyBy_57 : decode cX13_readyBy 57 = .ok (.goto 8, 3) := by decide +kernel
theorem dX13_readyBy_60 : decode cX13_readyBy 60 = .ok (.aload_n 0, 1) := by decide +kernel
theorem dX13_readyBy_61 : decode cX13_readyBy 61 = .ok (.iload_n 1, 1) := by decide +kernel
theorem dX13_readyBy_62 : decode cX13_readyBy 62 = .ok (.invokevirtual 246, 3) := by decide +kernel
theorem dX13_readyBy_65 : decode cX13_readyBy 65 = .ok (.istore 4, 2) := by decide +kernel
theorem dX13_readyBy_67 : decode cX13_readyBy 67 = .ok (.aload_n 0, 1) := by decide +kernel
theorem dX13_readyBy_68 : decode cX13_readyBy 68 = .ok (.iload_n 1, 1) := by decide +kernel
theorem dX13_readyBy_69 : decode cX13_readyBy 69 = .ok (.iconst 5, 1) := by decide +kernel
theorem dX13_readyBy_70 : decode cX13_readyBy 70 = .ok (.iconst (-1), 1) := by decide +kernel
theorem dX13_readyBy_71 : decode cX13_readyBy 71 = .ok (.invokevirtual 74, 3) := by decide +kernel
theorem dX13_readyBy_74 : decode cX13_readyBy 74 = .ok (.aload_n 0, 1) := by decide +kernel
theorem dX13_readyBy_75 : decode cX13_readyBy 75 = .ok (.iload_n 1, 1) := by decide +kernel
theorem dX13_readyBy_76 : decode cX13_readyBy 76 = .ok (.iconst 4, 1) := by decide +kernel
theorem dX13_readyBy_77 : decode cX13_readyBy 77 = .ok (.iconst (-1), 1) := by decide +kernel
theorem dX13_readyBy_78 : decode cX13_readyBy 78 = .ok (.invokevirtual 74, 3) := by decide +kernel
theorem dX13_readyBy_81 : decode cX13_readyBy 81 = .ok (.aload_n 0, 1) := by decide +kernel
theorem dX13_readyBy_82 : decode cX13_readyBy 82 = .ok (.iload_n 1, 1) := by decide +kernel
theorem dX13_readyBy_83 : decode cX13_readyBy 83 = .ok (.iconst 3, 1) := by decide +kernel
theorem dX13_readyBy_84 : decode cX13_readyBy 84 = .ok (.iload_n 3, 1) := by decide +kernel
theorem dX13_readyBy_85 : decode cX13_readyBy 85 = .ok (.invokevirtual 74, 3) := by decide +kernel
theorem dX13_readyBy_88 : decode cX13_readyBy 88 = .ok (.iload 4, 2) := by decide +kernel
theorem dX13_readyBy_90 : decode cX13_readyBy 90 = .ok (.ireturn, 1) := by decide +kernel
def sX13_readyBy_65 (w : Wl) (l1 : Int32) (l3 : Int32) (s0 : Int32) : Option (Int32 × Wl) := (sX13_put w l1 (5 : Int32) (-1 : Int32)).bind (fun r1 => (sX13_put r1 l1 (4 : Int32) (-1 : Int32)).bind (fun r5 => (sX13_put r5 l1 (3 : Int32) l3).bind (fun r9 => some (s0, r9))))
theorem tX13_readyBy_65 {X : Cx} {B : Bs} {sz : Nat} {r : (Int32 × Wl)} (hx : Fx X cX13_readyBy 5 RX13 5 0 0) (hr : Rt X (some .int) 0 0 (WΨ (xΓ X) B (some (.int (r.1))) r.2 sz)) : ∀ (w : Wl) (l1 : Int32) (l3 : Int32) (s0 : Int32) {G : Gf} (hW : Wd (xΓ X) B w G) (h : sX13_readyBy_65  w l1 l3 s0 = some r), J X 5 G sz 0 0 65 [some (.ref (B.1 + 371)), some (.int l1), none, some (.int l3), none] [.int s0] := by
  intro w l1 l3 s0 G hW h
  unfold sX13_readyBy_65 at h
  refine J_is hx (by decide) (hc_of rfl) rfl dX13_readyBy_65 ?_
  refine J_al4 hx rfl rfl dX13_readyBy_67 ?_
  refine J_il4 hx rfl rfl dX13_readyBy_68 ?_
  refine J_iconst hx (5 : Int32) dX13_readyBy_69 rfl ?_
  refine J_iconst hx (-1 : Int32) dX13_readyBy_70 rfl ?_
  obtain ⟨r1, hr2, h⟩ := bnd h
  refine J_wrV hx (kX13_put  hW hr2) ml_X13_74 lk_X13_put (ci := 11) rfl (hW.obj (rfl : kd 371 = 19) (by decide) (by decide)) (rest := []) rfl rfl (by decide) (by decide) (Nat.le_of_ble_eq_true rfl) (Nat.le_refl 0) (Nat.le_refl 0) dX13_readyBy_71 fun G3 hW4 => ?_
  show J X 5 G3 sz 0 0 74 [some (.ref (B.1 + 371)), some (.int l1), none, some (.int l3), some (.int s0)] []
  refine J_al4 hx rfl rfl dX13_readyBy_74 ?_
  refine J_il4 hx rfl rfl dX13_readyBy_75 ?_
  refine J_iconst hx (4 : Int32) dX13_readyBy_76 rfl ?_
  refine J_iconst hx (-1 : Int32) dX13_readyBy_77 rfl ?_
  obtain ⟨r5, hr6, h⟩ := bnd h
  refine J_wrV hx (kX13_put  hW4 hr6) ml_X13_74 lk_X13_put (ci := 11) rfl (hW4.obj (rfl : kd 371 = 19) (by decide) (by decide)) (rest := []) rfl rfl (by decide) (by decide) (Nat.le_of_ble_eq_true rfl) (Nat.le_refl 0) (Nat.le_refl 0) dX13_readyBy_78 fun G7 hW8 => ?_
  show J X 5 G7 sz 0 0 81 [some (.ref (B.1 + 371)), some (.int l1), none, some (.int l3), some (.int s0)] []
  refine J_al4 hx rfl rfl dX13_readyBy_81 ?_
  refine J_il4 hx rfl rfl dX13_readyBy_82 ?_
  refine J_iconst hx (3 : Int32) dX13_readyBy_83 rfl ?_
  refine J_il4 hx rfl rfl dX13_readyBy_84 ?_
  obtain ⟨r9, hr10, h⟩ := bnd h
  refine J_wrV hx (kX13_put  hW8 hr10) ml_X13_74 lk_X13_put (ci := 11) rfl (hW8.obj (rfl : kd 371 = 19) (by decide) (by decide)) (rest := []) rfl rfl (by decide) (by decide) (Nat.le_of_ble_eq_true rfl) (Nat.le_refl 0) (Nat.le_refl 0) dX13_readyBy_85 fun G11 hW12 => ?_
  show J X 5 G11 sz 0 0 88 [some (.ref (B.1 + 371)), some (.int l1), none, some (.int l3), some (.int s0)] []
  refine J_il hx rfl dX13_readyBy_88 ?_
  obtain rfl := Option.some.inj h
  exact J_iretW hx hr hW12 dX13_readyBy_90 (Nat.le_refl 0) (Nat.le_refl 0)
def sX13_readyBy (w : Wl) (l1 : Int32) (l2 : Int32) : Option (Int32 × Wl) := (sX13_of w l1 (3 : Int32)).bind (fun r1 => (sX13_ofVenue w r1 ((5 : Int32) + l2)).bind (fun r3 => (sX13_put w l1 (5 : Int32) ((w 372 0) + r3)).bind (fun r5 => (sX13_put r5 l1 (4 : Int32) l2).bind (fun r9 => (sX13_put r9 l1 (3 : Int32) (-1 : Int32)).bind (fun r13 => (sX13_worksIn r13 l1 (0 : Int32)).bind (fun r17 => (if r17 = 0 then (sX13_of r13 l1 (5 : Int32)).bind (fun r24 => sX13_readyBy_65 r13 l1 r1 r24) else (sX13_allReady r13 l1).bind (fun r20 => sX13_readyBy_65 r20.2 l1 r1 r20.1))))))))
theorem kX13_readyBy {l : Launch} {Γ : Gl} {B : Bs} {w : Wl} {G : Gf} {sz : Nat} {l1 : Int32} {l2 : Int32} {r : (Int32 × Wl)} (hW : Wd Γ B w G) (h : sX13_readyBy w l1 l2 = some r) : CtW l Γ yX13_readyBy cX13_readyBy 5 (some .int) 5 [.ref (B.1 + 371), .int l1, .int l2] G sz B (some (.int (r.1))) r.2 := by
  refine Ct.of rfl (Nat.le_of_ble_eq_true rfl) fun X hx hr hl hΓ hnm => ?_
  subst hl hΓ
  show J X 5 G sz 0 0 0 [some (.ref (B.1 + 371)), some (.int l1), some (.int l2), none, none] []
  unfold sX13_readyBy at h
  refine J_al4 hx rfl rfl dX13_readyBy_0 ?_
  refine J_il4 hx rfl rfl dX13_readyBy_1 ?_
  refine J_iconst hx (3 : Int32) dX13_readyBy_2 rfl ?_
  obtain ⟨r1, hr2, h⟩ := bnd h
  refine J_rdV hx (kX13_of  hW hr2) ml_X13_36 lk_X13_of (ci := 11) rfl (hW.obj (rfl : kd 371 = 19) (by decide) (by decide)) (rest := []) rfl rfl (by decide) (by decide) (Nat.le_of_ble_eq_true rfl) (Nat.le_refl 0) (Nat.le_refl 0) dX13_readyBy_3 ?_
  refine J_is4 hx rfl (by decide) (hc_of rfl) rfl dX13_readyBy_6 ?_
  refine J_al4 hx rfl rfl dX13_readyBy_7 ?_
  refine J_il4 hx rfl rfl dX13_readyBy_8 ?_
  refine J_iconst hx (5 : Int32) dX13_readyBy_9 rfl ?_
  refine J_al4 hx rfl rfl dX13_readyBy_10 ?_
  refine g13_0 hx hW 372 (rfl : kd 371 = 19) fl_X13_7 rfl dX13_readyBy_11 ?_
  refine J_iconst hx (0 : Int32) dX13_readyBy_14 rfl ?_
  refine J_iaW hx hW (rfl : kd 372 = 641) (by decide +kernel : idx (0 : Int32) 541 = some 0) dX13_readyBy_15 ?_
  refine J_al4 hx rfl rfl dX13_readyBy_16 ?_
  refine J_il4 hx rfl rfl dX13_readyBy_17 ?_
  refine J_iconst hx (5 : Int32) dX13_readyBy_18 rfl ?_
  refine J_il4 hx rfl rfl dX13_readyBy_19 ?_
  refine J_iadd hx dX13_readyBy_20 ?_
  obtain ⟨r3, hr4, h⟩ := bnd h
  refine J_rdV hx (kX13_ofVenue  hW hr4) ml_X13_68 lk_X13_ofVenue (ci := 11) rfl (hW.obj (rfl : kd 371 = 19) (by decide) (by decide)) (rest := [.int (w 372 0), .int (5 : Int32), .int l1, .ref (B.1 + 371)]) rfl rfl (by decide) (by decide) (Nat.le_of_ble_eq_true rfl) (Nat.le_refl 0) (Nat.le_refl 0) dX13_readyBy_21 ?_
  refine J_iadd hx dX13_readyBy_24 ?_
  obtain ⟨r5, hr6, h⟩ := bnd h
  refine J_wrV hx (kX13_put  hW hr6) ml_X13_74 lk_X13_put (ci := 11) rfl (hW.obj (rfl : kd 371 = 19) (by decide) (by decide)) (rest := []) rfl rfl (by decide) (by decide) (Nat.le_of_ble_eq_true rfl) (Nat.le_refl 0) (Nat.le_refl 0) dX13_readyBy_25 fun G7 hW8 => ?_
  show J X 5 G7 sz 0 0 28 [some (.ref (B.1 + 371)), some (.int l1), some (.int l2), some (.int r1), none] []
  refine J_al4 hx rfl rfl dX13_readyBy_28 ?_
  refine J_il4 hx rfl rfl dX13_readyBy_29 ?_
  refine J_iconst hx (4 : Int32) dX13_readyBy_30 rfl ?_
  refine J_il4 hx rfl rfl dX13_readyBy_31 ?_
  obtain ⟨r9, hr10, h⟩ := bnd h
  refine J_wrV hx (kX13_put  hW8 hr10) ml_X13_74 lk_X13_put (ci := 11) rfl (hW8.obj (rfl : kd 371 = 19) (by decide) (by decide)) (rest := []) rfl rfl (by decide) (by decide) (Nat.le_of_ble_eq_true rfl) (Nat.le_refl 0) (Nat.le_refl 0) dX13_readyBy_32 fun G11 hW12 => ?_
  show J X 5 G11 sz 0 0 35 [some (.ref (B.1 + 371)), some (.int l1), some (.int l2), some (.int r1), none] []
  refine J_al4 hx rfl rfl dX13_readyBy_35 ?_
  refine J_il4 hx rfl rfl dX13_readyBy_36 ?_
  refine J_iconst hx (3 : Int32) dX13_readyBy_37 rfl ?_
  refine J_iconst hx (-1 : Int32) dX13_readyBy_38 rfl ?_
  obtain ⟨r13, hr14, h⟩ := bnd h
  refine J_wrV hx (kX13_put  hW12 hr14) ml_X13_74 lk_X13_put (ci := 11) rfl (hW12.obj (rfl : kd 371 = 19) (by decide) (by decide)) (rest := []) rfl rfl (by decide) (by decide) (Nat.le_of_ble_eq_true rfl) (Nat.le_refl 0) (Nat.le_refl 0) dX13_readyBy_39 fun G15 hW16 => ?_
  show J X 5 G15 sz 0 0 42 [some (.ref (B.1 + 371)), some (.int l1), some (.int l2), some (.int r1), none] []
  refine J_al4 hx rfl rfl dX13_readyBy_42 ?_
  refine J_il4 hx rfl rfl dX13_readyBy_43 ?_
  refine J_iconst hx (0 : Int32) dX13_readyBy_44 rfl ?_
  obtain ⟨r17, hr18, h⟩ := bnd h
  refine J_rdV hx (kX13_worksIn  hW16 hr18) ml_X13_103 lk_X13_worksIn (ci := 11) rfl (hW16.obj (rfl : kd 371 = 19) (by decide) (by decide)) (rest := []) rfl rfl (by decide) (by decide) (Nat.le_of_ble_eq_true rfl) (Nat.le_refl 0) (Nat.le_refl 0) dX13_readyBy_45 ?_
  refine J_if_ne hx 60 dX13_readyBy_48 rfl (fun h19 => ?_) (fun h19 => ?_)
  · replace h := neg h h19
    refine J_al4 hx rfl rfl dX13_readyBy_60 ?_
    refine J_il4 hx rfl rfl dX13_readyBy_61 ?_
    obtain ⟨r20, hr21, h⟩ := bnd h
    refine J_wrV hx (kX13_allReady  hW16 hr21) ml_X13_246 lk_X13_allReady (ci := 11) rfl (hW16.obj (rfl : kd 371 = 19) (by decide) (by decide)) (rest := []) rfl rfl (by decide) (by decide) (Nat.le_of_ble_eq_true rfl) (Nat.le_refl 0) (Nat.le_refl 0) dX13_readyBy_62 fun G22 hW23 => ?_
    show J X 5 G22 sz 0 0 65 [some (.ref (B.1 + 371)), some (.int l1), some (.int l2), some (.int r1), none] [.int r20.1]
    refine J_lw (ls' := [some (.ref (B.1 + 371)), some (.int l1), none, some (.int r1), none]) (lwS (lwS (lwN (lwS (lwN lwZ))))) ?_
    exact tX13_readyBy_65 hx hr _ _ _ _  hW23 h
  · replace h := pos h h19
    refine J_al4 hx rfl rfl dX13_readyBy_51 ?_
    refine J_il4 hx rfl rfl dX13_readyBy_52 ?_
    refine J_iconst hx (5 : Int32) dX13_readyBy_53 rfl ?_
    obtain ⟨r24, hr25, h⟩ := bnd h
    refine J_rdV hx (kX13_of  hW16 hr25) ml_X13_36 lk_X13_of (ci := 11) rfl (hW16.obj (rfl : kd 371 = 19) (by decide) (by decide)) (rest := []) rfl rfl (by decide) (by decide) (Nat.le_of_ble_eq_true rfl) (Nat.le_refl 0) (Nat.le_refl 0) dX13_readyBy_54 ?_
    refine J_goto hx 65 dX13_readyBy_57 rfl ?_
    refine J_lw (ls' := [some (.ref (B.1 + 371)), some (.int l1), none, some (.int r1), none]) (lwS (lwS (lwN (lwS (lwN lwZ))))) ?_
    exact tX13_readyBy_65 hx hr _ _ _ _  hW16 h
theorem dX13_bestVenue_0 : decode cX13_bestVenue 0 = .ok (.aload_n 0, 1) := by decide +kernel
theorem dX13_bestVenue_1 : decode cX13_bestVenue 1 = .ok (.aload_n 0, 1) := by decide +kernel
theorem dX13_bestVenue_2 : decode cX13_bestVenue 2 = .ok (.iload_n 1, 1) := by decide +kernel
theorem dX13_bestVenue_3 : decode cX13_bestVenue 3 = .ok (.invokevirtual 85, 3) := by decide +kernel
theorem dX13_bestVenue_6 : decode cX13_bestVenue 6 = .ok (.ifCond .eq 20, 3) := by decide +kernel
theorem dX13_bestVenue_9 : decode cX13_bestVenue 9 = .ok (.iload_n 2, 1) := by decide +kernel
theorem dX13_bestVenue_10 : decode cX13_bestVenue 10 = .ok (.iconst (-1), 1) := by decide +kernel
theorem dX13_bestVenue_11 : decode cX13_bestVenue 11 = .ok (.if_icmp .eq 11, 3) := by decide +kernel
theorem dX13_bestVenue_14 : decode cX13_bestVenue 14 = .ok (.aload_n 0, 1) := by decide +kernel
theorem dX13_bestVenue_15 : decode cX13_bestVenue 15 = .ok (.iload_n 2, 1) := by decide +kernel
theorem dX13_bestVenue_16 : decode cX13_bestVenue 16 = .ok (.invokevirtual 164, 3) := by decide +kernel
theorem dX13_bestVenue_19 : decode cX13_bestVenue 19 = .ok (.ifCond .eq 7, 3) := by decide +kernel
theorem dX13_bestVenue_22 : decode cX13_bestVenue 22 = .ok (.iconst 0, 1) := by decide +kernel
theorem dX13_bestVenue_23 : decode cX13_bestVenue 23 = .ok (.goto 4, 3) := by decide +kernel
theorem dX13_bestVenue_26 : decode cX13_bestVenue 26 = .ok (.iconst 1, 1) := by decide +kernel
theorem dX13_bestVenue_27 : decode cX13_bestVenue 27 = .ok (.putfield 25, 3) := by decide +kernel
theorem dX13_bestVenue_30 : decode cX13_bestVenue 30 = .ok (.aload_n 0, 1) := by decide +kernel
theorem dX13_bestVenue_31 : decode cX13_bestVenue 31 = .ok (.getfield 25, 3) := by decide +kernel
theorem dX13_bestVenue_34 : decode cX13_bestVenue 34 = .ok (.ifCond .eq 5, 3) := by decide +kernel
theorem dX13_bestVenue_37 : decode cX13_bestVenue 37 = .ok (.iconst 0, 1) := by decide +kernel
theorem dX13_bestVenue_38 : decode cX13_bestVenue 38 = .ok (.ireturn, 1) := by decide +kernel
theorem dX13_bestVenue_39 : decode cX13_bestVenue 39 = .ok (.iconst (-1), 1) := by decide +kernel
theorem dX13_bestVenue_40 : decode cX13_bestVenue 40 = .ok (.istore_n 3, 1) := by decide +kernel
theorem dX13_bestVenue_41 : decode cX13_bestVenue 41 = .ok (.iconst 0, 1) := by decide +kernel
theorem dX13_bestVenue_42 : decode cX13_bestVenue 42 = .ok (.istore 4, 2) := by decide +kernel
theorem dX13_bestVenue_44 : decode cX13_bestVenue 44 = .ok (.iconst 0, 1) := by decide +kernel
theorem dX13_bestVenue_45 : decode cX13_bestVenue 45 = .ok (.istore 5, 2) := by decide +kernel
theorem dX13_bestVenue_47 : decode cX13_bestVenue 47 = .ok (.iload 5, 2) := by decide +kernel
theorem dX13_bestVenue_49 : decode cX13_bestVenue 49 = .ok (.aload_n 0, 1) := by decide +kernel
theorem dX13_bestVenue_50 : decode cX13_bestVenue 50 = .ok (.getfield 7, 3) := by decide +kernel
theorem dX13_bestVenue_53 : decode cX13_bestVenue 53 = .ok (.iconst 1, 1) := by decide +kernel
theorem dX13_bestVenue_54 : decode cX13_bestVenue 54 = .ok (.iaload, 1) := by decide +kernel
theorem dX13_bestVenue_55 : decode cX13_bestVenue 55 = .ok (.if_icmp .ge 74, 3) := by decide +kernel
theorem dX13_bestVenue_58 : decode cX13_bestVenue 58 = .ok (.aload_n 0, 1) := by decide +kernel
theorem dX13_bestVenue_59 : decode cX13_bestVenue 59 = .ok (.iload_n 1, 1) := by decide +kernel
theorem dX13_bestVenue_60 : decode cX13_bestVenue 60 = .ok (.iload 5, 2) := by decide +kernel
theorem dX13_bestVenue_62 : decode cX13_bestVenue 62 = .ok (.iload_n 2, 1) := by decide +kernel
theorem dX13_bestVenue_63 : decode cX13_bestVenue 63 = .ok (.invokevirtual 170, 3) := by decide +kernel
theorem dX13_bestVenue_66 : decode cX13_bestVenue 66 = .ok (.ifCond .ne 57, 3) := by decide +kernel
theorem dX13_bestVenue_69 : decode cX13_bestVenue 69 = .ok (.aload_n 0, 1) := by decide +kernel
theorem dX13_bestVenue_70 : decode cX13_bestVenue 70 = .ok (.iload_n 1, 1) := by decide +kernel
theorem dX13_bestVenue_71 : decode cX13_bestVenue 71 = .ok (.iload 5, 2) := by decide +kernel
theorem dX13_bestVenue_73 : decode cX13_bestVenue 73 = .ok (.invokevirtual 249, 3) := by decide +kernel
theorem dX13_bestVenue_76 : decode cX13_bestVenue 76 = .ok (.istore 6, 2) := by decide +kernel
theorem dX13_bestVenue_78 : decode cX13_bestVenue 78 = .ok (.iload_n 3, 1) := by decide +kernel
theorem dX13_bestVenue_79 : decode cX13_bestVenue 79 = .ok (.iconst (-1), 1) := by decide +kernel
theorem dX13_bestVenue_80 : decode cX13_bestVenue 80 = .ok (.if_icmp .eq 10, 3) := by decide +kernel
theorem dX13_bestVenue_83 : decode cX13_bestVenue 83 = .ok (.iload 6, 2) := by decide +kernel
theorem dX13_bestVenue_85 : decode cX13_bestVenue 85 = .ok (.iload 4, 2) := by decide +kernel
theorem dX13_bestVenue_87 : decode cX13_bestVenue 87 = .ok (.if_icmp .ge 7, 3) := by decide +kernel
theorem dX13_bestVenue_90 : decode cX13_bestVenue 90 = .ok (.iconst 1, 1) := by decide +kernel
theorem dX13_bestVenue_91 : decode cX13_bestVenue 91 = .ok (.goto 4, 3) := by decide +kernel
theorem dX13_bestVenue_94 : decode cX13_bestVenue 94 = .ok (.iconst 0, 1) := by decide +kernel
theorem dX13_bestVenue_95 : decode cX13_bestVenue 95 = .ok (.istore 7, 2) := by decide +kernel
theorem dX13_bestVenue_97 : decode cX13_bestVenue 97 = .ok (.iload 7, 2) := by decide +kernel
theorem dX13_bestVenue_99 : decode cX13_bestVenue 99 = .ok (.ifCond .eq 8, 3) := by decide +kernel
theorem dX13_bestVenue_102 : decode cX13_bestVenue 102 = .ok (.iload 5, 2) := by decide +kernel
theorem dX13_bestVenue_104 : decode cX13_bestVenue 104 = .ok (.goto 4, 3) := by decide +kernel
theorem dX13_bestVenue_107 : decode cX13_bestVenue 107 = .ok (.iload_n 3, 1) := by decide +kernel
theorem dX13_bestVenue_108 : decode cX13_bestVenue 108 = .ok (.istore_n 3, 1) := by decide +kernel
theorem dX13_bestVenue_109 : decode cX13_bestVenue 109 = .ok (.iload 7, 2) := by decide +kernel
theorem dX13_bestVenue_111 : decode cX13_bestVenue 111 = .ok (.ifCond .eq 8, 3) := by decide +kernel
theorem dX13_bestVenue_114 : decode cX13_bestVenue 114 = .ok (.iload 6, 2) := by decide +kernel
theorem dX13_bestVenue_116 : decode cX13_bestVenue 116 = .ok (.goto 5, 3) := by decide +kernel
theorem dX13_bestVenue_119 : decode cX13_bestVenue 119 = .ok (.iload 4, 2) := by decide +kernel
theorem dX13_bestVenue_121 : decode cX13_bestVenue 121 = .ok (.istore 4, 2) := by decide +kernel
theorem dX13_bestVenue_123 : decode cX13_bestVenue 123 = .ok (.iinc 5 1, 3) := by decide +kernel
theorem dX13_bestVenue_126 : decode cX13_bestVenue 126 = .ok (.goto (-79), 3) := by decide +kernel
theorem dX13_bestVenue_129 : decode cX13_bestVenue 129 = .ok (.iload_n 3, 1) := by decide +kernel
theorem dX13_bestVenue_130 : decode cX13_bestVenue 130 = .ok (.ireturn, 1) := by decide +kernel
def sX13_bestVenue_108 (k47 : Wl → Int32 → Int32 → Int32 → Int32 → Int32 → Option (Int32 × Wl)) (w : Wl) (l1 : Int32) (l2 : Int32) (l4 : Int32) (l5 : Int32) (l6 : Int32) (l7 : Int32) (s0 : Int32) : Option (Int32 × Wl) := (if l7 = 0 then k47 w l1 l2 s0 l4 (l5 + 1) else k47 w l1 l2 s0 l6 (l5 + 1))
theorem tX13_bestVenue_108 {X : Cx} {B : Bs} {sz : Nat} {r : (Int32 × Wl)} (hx : Fx X cX13_bestVenue 8 RX13 6 0 0) (hr : Rt X (some .int) 0 0 (WΨ (xΓ X) B (some (.int (r.1))) r.2 sz)) (k47 : Wl → Int32 → Int32 → Int32 → Int32 → Int32 → Option (Int32 × Wl)) (hk47 : ∀ (w : Wl) (l1 : Int32) (l2 : Int32) (l3 : Int32) (l4 : Int32) (l5 : Int32) {G : Gf} (hW : Wd (xΓ X) B w G) (h : k47 w l1 l2 l3 l4 l5 = some r), J X 8 G sz 0 0 47 [some (.ref (B.1 + 371)), some (.int l1), some (.int l2), some (.int l3), some (.int l4), some (.int l5), none, none] []) : ∀ (w : Wl) (l1 : Int32) (l2 : Int32) (l4 : Int32) (l5 : Int32) (l6 : Int32) (l7 : Int32) (s0 : Int32) {G : Gf} (hW : Wd (xΓ X) B w G) (h : sX13_bestVenue_108 k47  w l1 l2 l4 l5 l6 l7 s0 = some r), J X 8 G sz 0 0 108 [some (.ref (B.1 + 371)), some (.int l1), some (.int l2), none, some (.int l4), some (.int l5), some (.int l6), some (.int l7)] [.int s0] := by
  intro w l1 l2 l4 l5 l6 l7 s0 G hW h
  unfold sX13_bestVenue_108 at h
  refine J_is4 hx rfl (by decide) (hc_of rfl) rfl dX13_bestVenue_108 ?_
  refine J_il hx rfl dX13_bestVenue_109 ?_
  refine J_if_eq hx 119 dX13_bestVenue_111 rfl (fun h1 => ?_) (fun h1 => ?_)
  · replace h := pos h h1
    refine J_il hx rfl dX13_bestVenue_119 ?_
    refine J_is hx (by decide) (hc_of rfl) rfl dX13_bestVenue_121 ?_
    refine J_iinc hx (v' := (l5 + 1)) rfl rfl (by decide) (hc_of rfl) rfl dX13_bestVenue_123 ?_
    refine J_goto hx 47 dX13_bestVenue_126 rfl ?_
    refine J_lw (ls' := [some (.ref (B.1 + 371)), some (.int l1), some (.int l2), some (.int s0), some (.int l4), some (.int (l5 + 1)), none, none]) (lwS (lwS (lwS (lwS (lwS (lwS (lwN (lwN lwZ)))))))) ?_
    exact hk47 _ _ _ _ _ _  hW h
  · replace h := neg h h1
    refine J_il hx rfl dX13_bestVenue_114 ?_
    refine J_goto hx 121 dX13_bestVenue_116 rfl ?_
    refine J_is hx (by decide) (hc_of rfl) rfl dX13_bestVenue_121 ?_
    refine J_iinc hx (v' := (l5 + 1)) rfl rfl (by decide) (hc_of rfl) rfl dX13_bestVenue_123 ?_
    refine J_goto hx 47 dX13_bestVenue_126 rfl ?_
    refine J_lw (ls' := [some (.ref (B.1 + 371)), some (.int l1), some (.int l2), some (.int s0), some (.int l6), some (.int (l5 + 1)), none, none]) (lwS (lwS (lwS (lwS (lwS (lwS (lwN (lwN lwZ)))))))) ?_
    exact hk47 _ _ _ _ _ _  hW h
def sX13_bestVenue_95 (k47 : Wl → Int32 → Int32 → Int32 → Int32 → Int32 → Option (Int32 × Wl)) (w : Wl) (l1 : Int32) (l2 : Int32) (l3 : Int32) (l4 : Int32) (l5 : Int32) (l6 : Int32) (s0 : Int32) : Option (Int32 × Wl) := (if s0 = 0 then sX13_bestVenue_108 k47 w l1 l2 l4 l5 l6 s0 l3 else sX13_bestVenue_108 k47 w l1 l2 l4 l5 l6 s0 l5)
theorem tX13_bestVenue_95 {X : Cx} {B : Bs} {sz : Nat} {r : (Int32 × Wl)} (hx : Fx X cX13_bestVenue 8 RX13 6 0 0) (hr : Rt X (some .int) 0 0 (WΨ (xΓ X) B (some (.int (r.1))) r.2 sz)) (k47 : Wl → Int32 → Int32 → Int32 → Int32 → Int32 → Option (Int32 × Wl)) (hk47 : ∀ (w : Wl) (l1 : Int32) (l2 : Int32) (l3 : Int32) (l4 : Int32) (l5 : Int32) {G : Gf} (hW : Wd (xΓ X) B w G) (h : k47 w l1 l2 l3 l4 l5 = some r), J X 8 G sz 0 0 47 [some (.ref (B.1 + 371)), some (.int l1), some (.int l2), some (.int l3), some (.int l4), some (.int l5), none, none] []) : ∀ (w : Wl) (l1 : Int32) (l2 : Int32) (l3 : Int32) (l4 : Int32) (l5 : Int32) (l6 : Int32) (s0 : Int32) {G : Gf} (hW : Wd (xΓ X) B w G) (h : sX13_bestVenue_95 k47  w l1 l2 l3 l4 l5 l6 s0 = some r), J X 8 G sz 0 0 95 [some (.ref (B.1 + 371)), some (.int l1), some (.int l2), some (.int l3), some (.int l4), some (.int l5), some (.int l6), none] [.int s0] := by
  intro w l1 l2 l3 l4 l5 l6 s0 G hW h
  unfold sX13_bestVenue_95 at h
  refine J_is hx (by decide) (hc_of rfl) rfl dX13_bestVenue_95 ?_
  refine J_il hx rfl dX13_bestVenue_97 ?_
  refine J_if_eq hx 107 dX13_bestVenue_99 rfl (fun h1 => ?_) (fun h1 => ?_)
  · replace h := pos h h1
    refine J_il4 hx rfl rfl dX13_bestVenue_107 ?_
    refine J_lw (ls' := [some (.ref (B.1 + 371)), some (.int l1), some (.int l2), none, some (.int l4), some (.int l5), some (.int l6), some (.int s0)]) (lwS (lwS (lwS (lwN (lwS (lwS (lwS (lwS lwZ)))))))) ?_
    exact tX13_bestVenue_108 hx hr _ hk47 _ _ _ _ _ _ _ _  hW h
  · replace h := neg h h1
    refine J_il hx rfl dX13_bestVenue_102 ?_
    refine J_goto hx 108 dX13_bestVenue_104 rfl ?_
    refine J_lw (ls' := [some (.ref (B.1 + 371)), some (.int l1), some (.int l2), none, some (.int l4), some (.int l5), some (.int l6), some (.int s0)]) (lwS (lwS (lwS (lwN (lwS (lwS (lwS (lwS lwZ)))))))) ?_
    exact tX13_bestVenue_108 hx hr _ hk47 _ _ _ _ _ _ _ _  hW h
def sX13_bestVenue_47 : Nat → Wl → Int32 → Int32 → Int32 → Int32 → Int32 → Option (Int32 × Wl)
  | 0, _, _, _, _, _, _ => none
  | n + 1, w, l1, l2, l3, l4, l5 => (if (w 372 1) ≤ l5 then some (l3, w) else (sX13_reason w l1 l5 l2).bind (fun r2 => (if r2 = 0 then (sX13_readyBy w l1 l5).bind (fun r5 => (if l3 = (-1 : Int32) then sX13_bestVenue_95 (fun w l1 l2 l3 l4 l5 => sX13_bestVenue_47 n w l1 l2 l3 l4 l5) r5.2 l1 l2 l3 l4 l5 r5.1 (1 : Int32) else (if l4 ≤ r5.1 then sX13_bestVenue_95 (fun w l1 l2 l3 l4 l5 => sX13_bestVenue_47 n w l1 l2 l3 l4 l5) r5.2 l1 l2 l3 l4 l5 r5.1 (0 : Int32) else sX13_bestVenue_95 (fun w l1 l2 l3 l4 l5 => sX13_bestVenue_47 n w l1 l2 l3 l4 l5) r5.2 l1 l2 l3 l4 l5 r5.1 (1 : Int32)))) else sX13_bestVenue_47 n w l1 l2 l3 l4 (l5 + 1))))
theorem tX13_bestVenue_47 {X : Cx} {B : Bs} {sz : Nat} {r : (Int32 × Wl)} (hx : Fx X cX13_bestVenue 8 RX13 6 0 0) (hr : Rt X (some .int) 0 0 (WΨ (xΓ X) B (some (.int (r.1))) r.2 sz)) : ∀ (n : Nat), ∀ (w : Wl) (l1 : Int32) (l2 : Int32) (l3 : Int32) (l4 : Int32) (l5 : Int32) {G : Gf} (hW : Wd (xΓ X) B w G) (h : sX13_bestVenue_47 n w l1 l2 l3 l4 l5 = some r), J X 8 G sz 0 0 47 [some (.ref (B.1 + 371)), some (.int l1), some (.int l2), some (.int l3), some (.int l4), some (.int l5), none, none] [] := by
  intro n
  induction n with
  | zero => intro w l1 l2 l3 l4 l5 G hW h; rw [sX13_bestVenue_47.eq_1] at h; cases h
  | succ n ih =>
    intro w l1 l2 l3 l4 l5 G hW h
    rw [sX13_bestVenue_47.eq_2] at h
    refine J_il hx rfl dX13_bestVenue_47 ?_
    refine J_al4 hx rfl rfl dX13_bestVenue_49 ?_
    refine g13_0 hx hW 372 (rfl : kd 371 = 19) fl_X13_7 rfl dX13_bestVenue_50 ?_
    refine J_iconst hx (1 : Int32) dX13_bestVenue_53 rfl ?_
    refine J_iaW hx hW (rfl : kd 372 = 641) (by decide +kernel : idx (1 : Int32) 541 = some 1) dX13_bestVenue_54 ?_
    refine J_icmp_ge hx 129 dX13_bestVenue_55 rfl (fun h1 => ?_) (fun h1 => ?_)
    · replace h := pos h h1
      refine J_il4 hx rfl rfl dX13_bestVenue_129 ?_
      obtain rfl := Option.some.inj h
      exact J_iretW hx hr hW dX13_bestVenue_130 (Nat.le_refl 0) (Nat.le_refl 0)
    · replace h := neg h h1
      refine J_al4 hx rfl rfl dX13_bestVenue_58 ?_
      refine J_il4 hx rfl rfl dX13_bestVenue_59 ?_
      refine J_il hx rfl dX13_bestVenue_60 ?_
      refine J_il4 hx rfl rfl dX13_bestVenue_62 ?_
      obtain ⟨r2, hr3, h⟩ := bnd h
      refine J_rdV hx (kX13_reason  hW hr3) ml_X13_170 lk_X13_reason (ci := 11) rfl (hW.obj (rfl : kd 371 = 19) (by decide) (by decide)) (rest := []) rfl rfl (by decide) (by decide) (Nat.le_of_ble_eq_true rfl) (Nat.le_refl 0) (Nat.le_refl 0) dX13_bestVenue_63 ?_
      refine J_if_ne hx 123 dX13_bestVenue_66 rfl (fun h4 => ?_) (fun h4 => ?_)
      · replace h := neg h h4
        refine J_iinc hx (v' := (l5 + 1)) rfl rfl (by decide) (hc_of rfl) rfl dX13_bestVenue_123 ?_
        refine J_goto hx 47 dX13_bestVenue_126 rfl ?_
        exact ih _ _ _ _ _ _  hW h
      · replace h := pos h h4
        refine J_al4 hx rfl rfl dX13_bestVenue_69 ?_
        refine J_il4 hx rfl rfl dX13_bestVenue_70 ?_
        refine J_il hx rfl dX13_bestVenue_71 ?_
        obtain ⟨r5, hr6, h⟩ := bnd h
        refine J_wrV hx (kX13_readyBy  hW hr6) ml_X13_249 lk_X13_readyBy (ci := 11) rfl (hW.obj (rfl : kd 371 = 19) (by decide) (by decide)) (rest := []) rfl rfl (by decide) (by decide) (Nat.le_of_ble_eq_true rfl) (Nat.le_refl 0) (Nat.le_refl 0) dX13_bestVenue_73 fun G7 hW8 => ?_
        show J X 8 G7 sz 0 0 76 [some (.ref (B.1 + 371)), some (.int l1), some (.int l2), some (.int l3), some (.int l4), some (.int l5), none, none] [.int r5.1]
        refine J_is hx (by decide) (hc_of rfl) rfl dX13_bestVenue_76 ?_
        refine J_il4 hx rfl rfl dX13_bestVenue_78 ?_
        refine J_iconst hx (-1 : Int32) dX13_bestVenue_79 rfl ?_
        refine J_icmp_eq hx 90 dX13_bestVenue_80 rfl (fun h9 => ?_) (fun h9 => ?_)
        · replace h := pos h h9
          refine J_iconst hx (1 : Int32) dX13_bestVenue_90 rfl ?_
          refine J_goto hx 95 dX13_bestVenue_91 rfl ?_
          exact tX13_bestVenue_95 hx hr _ ih _ _ _ _ _ _ _ _  hW8 h
        · replace h := neg h h9
          refine J_il hx rfl dX13_bestVenue_83 ?_
          refine J_il hx rfl dX13_bestVenue_85 ?_
          refine J_icmp_ge hx 94 dX13_bestVenue_87 rfl (fun h10 => ?_) (fun h10 => ?_)
          · replace h := pos h h10
            refine J_iconst hx (0 : Int32) dX13_bestVenue_94 rfl ?_
            exact tX13_bestVenue_95 hx hr _ ih _ _ _ _ _ _ _ _  hW8 h
          · replace h := neg h h10
            refine J_iconst hx (1 : Int32) dX13_bestVenue_90 rfl ?_
            refine J_goto hx 95 dX13_bestVenue_91 rfl ?_
            exact tX13_bestVenue_95 hx hr _ ih _ _ _ _ _ _ _ _  hW8 h
def sX13_bestVenue_27 (w : Wl) (l1 : Int32) (l2 : Int32) (s1 : Int32) : Option (Int32 × Wl) := (if ((wst w 371 5 s1) 371 5) = 0 then sX13_bestVenue_47 FU (wst w 371 5 s1) l1 l2 (-1 : Int32) (0 : Int32) (0 : Int32) else some ((0 : Int32), (wst w 371 5 s1)))
theorem tX13_bestVenue_27 {X : Cx} {B : Bs} {sz : Nat} {r : (Int32 × Wl)} (hx : Fx X cX13_bestVenue 8 RX13 6 0 0) (hr : Rt X (some .int) 0 0 (WΨ (xΓ X) B (some (.int (r.1))) r.2 sz)) : ∀ (w : Wl) (l1 : Int32) (l2 : Int32) (s1 : Int32) {G : Gf} (hW : Wd (xΓ X) B w G) (h : sX13_bestVenue_27  w l1 l2 s1 = some r), J X 8 G sz 0 0 27 [some (.ref (B.1 + 371)), some (.int l1), some (.int l2), none, none, none, none, none] [.int s1, .ref (B.1 + 371)] := by
  intro w l1 l2 s1 G hW h
  unfold sX13_bestVenue_27 at h
  refine p13_5 hx hW (rfl : kd 371 = 19) fl_X13_25 dX13_bestVenue_27 fun G1 hW2 => ?_
  refine J_al4 hx rfl rfl dX13_bestVenue_30 ?_
  refine g13_5 hx hW2 (rfl : kd 371 = 19) fl_X13_25 dX13_bestVenue_31 ?_
  refine J_if_eq hx 39 dX13_bestVenue_34 rfl (fun h3 => ?_) (fun h3 => ?_)
  · replace h := pos h h3
    refine J_iconst hx (-1 : Int32) dX13_bestVenue_39 rfl ?_
    refine J_is4 hx rfl (by decide) (hc_of rfl) rfl dX13_bestVenue_40 ?_
    refine J_iconst hx (0 : Int32) dX13_bestVenue_41 rfl ?_
    refine J_is hx (by decide) (hc_of rfl) rfl dX13_bestVenue_42 ?_
    refine J_iconst hx (0 : Int32) dX13_bestVenue_44 rfl ?_
    refine J_is hx (by decide) (hc_of rfl) rfl dX13_bestVenue_45 ?_
    exact tX13_bestVenue_47 hx hr _ _ _ _ _ _ _  hW2 h
  · replace h := neg h h3
    refine J_iconst hx (0 : Int32) dX13_bestVenue_37 rfl ?_
    obtain rfl := Option.some.inj h
    exact J_iretW hx hr hW2 dX13_bestVenue_38 (Nat.le_refl 0) (Nat.le_refl 0)
def sX13_bestVenue (w : Wl) (l1 : Int32) (l2 : Int32) : Option (Int32 × Wl) := (sX13_isCrate w l1).bind (fun r1 => (if r1 = true then (if l2 = (-1 : Int32) then sX13_bestVenue_27 w l1 l2 (0 : Int32) else (sX13_isCourier w l2).bind (fun r5 => (if r5 = true then sX13_bestVenue_27 w l1 l2 (0 : Int32) else sX13_bestVenue_27 w l1 l2 (1 : Int32)))) else sX13_bestVenue_27 w l1 l2 (1 : Int32)))
theorem kX13_bestVenue {l : Launch} {Γ : Gl} {B : Bs} {w : Wl} {G : Gf} {sz : Nat} {l1 : Int32} {l2 : Int32} {r : (Int32 × Wl)} (hW : Wd Γ B w G) (h : sX13_bestVenue w l1 l2 = some r) : CtW l Γ yX13_bestVenue cX13_bestVenue 8 (some .int) 6 [.ref (B.1 + 371), .int l1, .int l2] G sz B (some (.int (r.1))) r.2 := by
  refine Ct.of rfl (Nat.le_of_ble_eq_true rfl) fun X hx hr hl hΓ hnm => ?_
  subst hl hΓ
  show J X 8 G sz 0 0 0 [some (.ref (B.1 + 371)), some (.int l1), some (.int l2), none, none, none, none, none] []
  unfold sX13_bestVenue at h
  refine J_al4 hx rfl rfl dX13_bestVenue_0 ?_
  refine J_al4 hx rfl rfl dX13_bestVenue_1 ?_
  refine J_il4 hx rfl rfl dX13_bestVenue_2 ?_
  obtain ⟨r1, hr2, h⟩ := bnd h
  refine J_rdV hx (kX13_isCrate  hW hr2) ml_X13_85 lk_X13_isCrate (ci := 11) rfl (hW.obj (rfl : kd 371 = 19) (by decide) (by decide)) (rest := [.ref (B.1 + 371)]) rfl rfl (by decide) (by decide) (Nat.le_of_ble_eq_true rfl) (Nat.le_refl 0) (Nat.le_refl 0) dX13_bestVenue_3 ?_
  refine J_bif_eq hx 26 dX13_bestVenue_6 rfl (fun h3 => ?_) (fun h3 => ?_)
  · replace h := neg h (bft h3)
    refine J_iconst hx (1 : Int32) dX13_bestVenue_26 rfl ?_
    exact tX13_bestVenue_27 hx hr _ _ _ _  hW h
  · replace h := pos h h3
    refine J_il4 hx rfl rfl dX13_bestVenue_9 ?_
    refine J_iconst hx (-1 : Int32) dX13_bestVenue_10 rfl ?_
    refine J_icmp_eq hx 22 dX13_bestVenue_11 rfl (fun h4 => ?_) (fun h4 => ?_)
    · replace h := pos h h4
      refine J_iconst hx (0 : Int32) dX13_bestVenue_22 rfl ?_
      refine J_goto hx 27 dX13_bestVenue_23 rfl ?_
      exact tX13_bestVenue_27 hx hr _ _ _ _  hW h
    · replace h := neg h h4
      refine J_al4 hx rfl rfl dX13_bestVenue_14 ?_
      refine J_il4 hx rfl rfl dX13_bestVenue_15 ?_
      obtain ⟨r5, hr6, h⟩ := bnd h
      refine J_rdV hx (kX13_isCourier  hW hr6) ml_X13_164 lk_X13_isCourier (ci := 11) rfl (hW.obj (rfl : kd 371 = 19) (by decide) (by decide)) (rest := [.ref (B.1 + 371)]) rfl rfl (by decide) (by decide) (Nat.le_of_ble_eq_true rfl) (Nat.le_refl 0) (Nat.le_refl 0) dX13_bestVenue_16 ?_
      refine J_bif_eq hx 26 dX13_bestVenue_19 rfl (fun h7 => ?_) (fun h7 => ?_)
      · replace h := neg h (bft h7)
        refine J_iconst hx (1 : Int32) dX13_bestVenue_26 rfl ?_
        exact tX13_bestVenue_27 hx hr _ _ _ _  hW h
      · replace h := pos h h7
        refine J_iconst hx (0 : Int32) dX13_bestVenue_22 rfl ?_
        refine J_goto hx 27 dX13_bestVenue_23 rfl ?_
        exact tX13_bestVenue_27 hx hr _ _ _ _  hW h
theorem dX13_type_0 : decode cX13_type 0 = .ok (.aload_n 0, 1) := by decide +kernel
theorem dX13_type_1 : decode cX13_type 1 = .ok (.iload_n 1, 1) := by decide +kernel
theorem dX13_type_2 : decode cX13_type 2 = .ok (.iconst 0, 1) := by decide +kernel
theorem dX13_type_3 : decode cX13_type 3 = .ok (.bipush 127, 2) := by decide +kernel
theorem dX13_type_5 : decode cX13_type 5 = .ok (.invokestatic 32, 3) := by decide +kernel
theorem dX13_type_8 : decode cX13_type 8 = .ok (.ifCond .ne 7, 3) := by decide +kernel
theorem dX13_type_11 : decode cX13_type 11 = .ok (.iconst 1, 1) := by decide +kernel
theorem dX13_type_12 : decode cX13_type 12 = .ok (.goto 18, 3) := by decide +kernel
theorem dX13_type_15 : decode cX13_type 15 = .ok (.aload_n 0, 1) := by decide +kernel
theorem dX13_type_16 : decode cX13_type 16 = .ok (.getfield 252, 3) := by decide +kernel
theorem dX13_type_19 : decode cX13_type 19 = .ok (.sipush 150, 3) := by decide +kernel
theorem dX13_type_22 : decode cX13_type 22 = .ok (.if_icmp .ne 7, 3) := by decide +kernel
theorem dX13_type_25 : decode cX13_type 25 = .ok (.iconst 2, 1) := by decide +kernel
theorem dX13_type_26 : decode cX13_type 26 = .ok (.goto 4, 3) := by decide +kernel
theorem dX13_type_29 : decode cX13_type 29 = .ok (.iconst 0, 1) := by decide +kernel
theorem dX13_type_30 : decode cX13_type 30 = .ok (.putfield 25, 3) := by decide +kernel
theorem dX13_type_33 : decode cX13_type 33 = .ok (.aload_n 0, 1) := by decide +kernel
theorem dX13_type_34 : decode cX13_type 34 = .ok (.getfield 25, 3) := by decide +kernel
theorem dX13_type_37 : decode cX13_type 37 = .ok (.ifCond .eq 5, 3) := by decide +kernel
theorem dX13_type_40 : decode cX13_type 40 = .ok (.iconst 0, 1) := by decide +kernel
theorem dX13_type_41 : decode cX13_type 41 = .ok (.ireturn, 1) := by decide +kernel
theorem dX13_type_42 : decode cX13_type 42 = .ok (.aload_n 0, 1) := by decide +kernel
theorem dX13_type_43 : decode cX13_type 43 = .ok (.getfield 16, 3) := by decide +kernel
theorem dX13_type_46 : decode cX13_type 46 = .ok (.aload_n 0, 1) := by decide +kernel
theorem dX13_type_47 : decode cX13_type 47 = .ok (.getfield 252, 3) := by decide +kernel
theorem dX13_type_50 : decode cX13_type 50 = .ok (.iload_n 1, 1) := by decide +kernel
theorem dX13_type_51 : decode cX13_type 51 = .ok (.iastore, 1) := by decide +kernel
theorem dX13_type_52 : decode cX13_type 52 = .ok (.aload_n 0, 1) := by decide +kernel
theorem dX13_type_53 : decode cX13_type 53 = .ok (.dup, 1) := by decide +kernel
theorem dX13_type_54 : decode cX13_type 54 = .ok (.getfield 252, 3) := by decide +kernel
theorem dX13_type_57 : decode cX13_type 57 = .ok (.iconst 1, 1) := by decide +kernel
theorem dX13_type_58 : decode cX13_type 58 = .ok (.iadd, 1) := by decide +kernel
theorem dX13_type_59 : decode cX13_type 59 = .ok (.putfield 252, 3) := by decide +kernel
theorem dX13_type_62 : decode cX13_type 62 = .ok (.aload_n 0, 1) := by decide +kernel
theorem dX13_type_63 : decode cX13_type 63 = .ok (.getfield 252, 3) := by decide +kernel
theorem dX13_type_66 : decode cX13_type 66 = .ok (.ireturn, 1) := by decide +kernel
def sX13_type_30 (w : Wl) (l1 : Int32) (s1 : Int32) : Option (Int32 × Wl) := (if ((wst w 371 5 s1) 371 5) = 0 then (idx ((wst w 371 5 s1) 371 4) 150).bind (fun c4 => some (((wst (wst (wst w 371 5 s1) 374 c4 l1) 371 4 (((wst (wst w 371 5 s1) 374 c4 l1) 371 4) + (1 : Int32))) 371 4), (wst (wst (wst w 371 5 s1) 374 c4 l1) 371 4 (((wst (wst w 371 5 s1) 374 c4 l1) 371 4) + (1 : Int32))))) else some ((0 : Int32), (wst w 371 5 s1)))
theorem tX13_type_30 {X : Cx} {B : Bs} {sz : Nat} {r : (Int32 × Wl)} (hx : Fx X cX13_type 2 RX13 1 0 0) (hr : Rt X (some .int) 0 0 (WΨ (xΓ X) B (some (.int (r.1))) r.2 sz)) : ∀ (w : Wl) (l1 : Int32) (s1 : Int32) {G : Gf} (hW : Wd (xΓ X) B w G) (h : sX13_type_30  w l1 s1 = some r), J X 2 G sz 0 0 30 [some (.ref (B.1 + 371)), some (.int l1)] [.int s1, .ref (B.1 + 371)] := by
  intro w l1 s1 G hW h
  unfold sX13_type_30 at h
  refine p13_5 hx hW (rfl : kd 371 = 19) fl_X13_25 dX13_type_30 fun G1 hW2 => ?_
  refine J_al4 hx rfl rfl dX13_type_33 ?_
  refine g13_5 hx hW2 (rfl : kd 371 = 19) fl_X13_25 dX13_type_34 ?_
  refine J_if_eq hx 42 dX13_type_37 rfl (fun h3 => ?_) (fun h3 => ?_)
  · replace h := pos h h3
    refine J_al4 hx rfl rfl dX13_type_42 ?_
    refine g13_3 hx hW2 374 (rfl : kd 371 = 19) fl_X13_16 rfl dX13_type_43 ?_
    refine J_al4 hx rfl rfl dX13_type_46 ?_
    refine g13_4 hx hW2 (rfl : kd 371 = 19) fl_X13_252 dX13_type_47 ?_
    refine J_il4 hx rfl rfl dX13_type_50 ?_
    obtain ⟨c4, hc5, h⟩ := bnd h
    refine J_iaS hx hW2 (rfl : kd 374 = 250) hc5 dX13_type_51 fun G6 hW7 => ?_
    refine J_al4 hx rfl rfl dX13_type_52 ?_
    refine J_dup hx dX13_type_53 ?_
    refine g13_4 hx hW7 (rfl : kd 371 = 19) fl_X13_252 dX13_type_54 ?_
    refine J_iconst hx (1 : Int32) dX13_type_57 rfl ?_
    refine J_iadd hx dX13_type_58 ?_
    refine p13_4 hx hW7 (rfl : kd 371 = 19) fl_X13_252 dX13_type_59 fun G8 hW9 => ?_
    refine J_al4 hx rfl rfl dX13_type_62 ?_
    refine g13_4 hx hW9 (rfl : kd 371 = 19) fl_X13_252 dX13_type_63 ?_
    obtain rfl := Option.some.inj h
    exact J_iretW hx hr hW9 dX13_type_66 (Nat.le_refl 0) (Nat.le_refl 0)
  · replace h := neg h h3
    refine J_iconst hx (0 : Int32) dX13_type_40 rfl ?_
    obtain rfl := Option.some.inj h
    exact J_iretW hx hr hW2 dX13_type_41 (Nat.le_refl 0) (Nat.le_refl 0)
def sX13_type (w : Wl) (l1 : Int32) : Option (Int32 × Wl) := (sX13_in w l1 (0 : Int32) (127 : Int32)).bind (fun r1 => (if r1 = true then (if (w 371 4) = (150 : Int32) then sX13_type_30 w l1 (2 : Int32) else sX13_type_30 w l1 (0 : Int32)) else sX13_type_30 w l1 (1 : Int32)))
theorem kX13_type {l : Launch} {Γ : Gl} {B : Bs} {w : Wl} {G : Gf} {sz : Nat} {l1 : Int32} {r : (Int32 × Wl)} (hW : Wd Γ B w G) (h : sX13_type w l1 = some r) : CtW l Γ yX13_type cX13_type 2 (some .int) 1 [.ref (B.1 + 371), .int l1] G sz B (some (.int (r.1))) r.2 := by
  refine Ct.of rfl (Nat.le_of_ble_eq_true rfl) fun X hx hr hl hΓ hnm => ?_
  subst hl hΓ
  show J X 2 G sz 0 0 0 [some (.ref (B.1 + 371)), some (.int l1)] []
  unfold sX13_type at h
  refine J_al4 hx rfl rfl dX13_type_0 ?_
  refine J_il4 hx rfl rfl dX13_type_1 ?_
  refine J_iconst hx (0 : Int32) dX13_type_2 rfl ?_
  refine J_bipush hx (127 : Int32) dX13_type_3 rfl ?_
  obtain ⟨r1, hr2, h⟩ := bnd h
  refine J_rdS hx (kX13_in  hW hr2) ml_X13_32 lk_X13_in (rest := [.ref (B.1 + 371)]) rfl rfl (by decide) (by decide) (Nat.le_of_ble_eq_true rfl) (Nat.le_refl 0) (Nat.le_refl 0) dX13_type_5 ?_
  refine J_bif_ne hx 15 dX13_type_8 rfl (fun h3 => ?_) (fun h3 => ?_)
  · replace h := pos h h3
    refine J_al4 hx rfl rfl dX13_type_15 ?_
    refine g13_4 hx hW (rfl : kd 371 = 19) fl_X13_252 dX13_type_16 ?_
    refine J_sipush hx (150 : Int32) dX13_type_19 rfl ?_
    refine J_icmp_ne hx 29 dX13_type_22 rfl (fun h4 => ?_) (fun h4 => ?_)
    · replace h := neg h h4
      refine J_iconst hx (0 : Int32) dX13_type_29 rfl ?_
      exact tX13_type_30 hx hr _ _ _  hW h
    · replace h := pos h h4
      refine J_iconst hx (2 : Int32) dX13_type_25 rfl ?_
      refine J_goto hx 30 dX13_type_26 rfl ?_
      exact tX13_type_30 hx hr _ _ _  hW h
  · replace h := neg h (bft h3)
    refine J_iconst hx (1 : Int32) dX13_type_11 rfl ?_
    refine J_goto hx 30 dX13_type_12 rfl ?_
    exact tX13_type_30 hx hr _ _ _  hW h
theorem dX13_clearCommands_0 : decode cX13_clearCommands 0 = .ok (.aload_n 0, 1) := by decide +kernel
theorem dX13_clearCommands_1 : decode cX13_clearCommands 1 = .ok (.iconst 0, 1) := by decide +kernel
theorem dX13_clearCommands_2 : decode cX13_clearCommands 2 = .ok (.putfield 25, 3) := by decide +kernel
theorem dX13_clearCommands_5 : decode cX13_clearCommands 5 = .ok (.aload_n 0, 1) := by decide +kernel
theorem dX13_clearCommands_6 : decode cX13_clearCommands 6 = .ok (.getfield 252, 3) := by decide +kernel
theorem dX13_clearCommands_9 : decode cX13_clearCommands 9 = .ok (.istore_n 1, 1) := by decide +kernel
theorem dX13_clearCommands_10 : decode cX13_clearCommands 10 = .ok (.aload_n 0, 1) := by decide +kernel
theorem dX13_clearCommands_11 : decode cX13_clearCommands 11 = .ok (.iconst 0, 1) := by decide +kernel
theorem dX13_clearCommands_12 : decode cX13_clearCommands 12 = .ok (.putfield 252, 3) := by decide +kernel
theorem dX13_clearCommands_15 : decode cX13_clearCommands 15 = .ok (.iload_n 1, 1) := by decide +kernel
theorem dX13_clearCommands_16 : decode cX13_clearCommands 16 = .ok (.ireturn, 1) := by decide +kernel
def sX13_clearCommands (w : Wl) : Option (Int32 × Wl) := some (((wst w 371 5 (0 : Int32)) 371 4), (wst (wst w 371 5 (0 : Int32)) 371 4 (0 : Int32)))
theorem kX13_clearCommands {l : Launch} {Γ : Gl} {B : Bs} {w : Wl} {G : Gf} {sz : Nat} {r : (Int32 × Wl)} (hW : Wd Γ B w G) (h : sX13_clearCommands w  = some r) : CtW l Γ yX13_clearCommands cX13_clearCommands 2 (some .int) 0 [.ref (B.1 + 371)] G sz B (some (.int (r.1))) r.2 := by
  refine Ct.of rfl (Nat.le_of_ble_eq_true rfl) fun X hx hr hl hΓ hnm => ?_
  subst hl hΓ
  show J X 2 G sz 0 0 0 [some (.ref (B.1 + 371)), none] []
  unfold sX13_clearCommands at h
  refine J_al4 hx rfl rfl dX13_clearCommands_0 ?_
  refine J_iconst hx (0 : Int32) dX13_clearCommands_1 rfl ?_
  refine p13_5 hx hW (rfl : kd 371 = 19) fl_X13_25 dX13_clearCommands_2 fun G1 hW2 => ?_
  refine J_al4 hx rfl rfl dX13_clearCommands_5 ?_
  refine g13_4 hx hW2 (rfl : kd 371 = 19) fl_X13_252 dX13_clearCommands_6 ?_
  refine J_is4 hx rfl (by decide) (hc_of rfl) rfl dX13_clearCommands_9 ?_
  refine J_al4 hx rfl rfl dX13_clearCommands_10 ?_
  refine J_iconst hx (0 : Int32) dX13_clearCommands_11 rfl ?_
  refine p13_4 hx hW2 (rfl : kd 371 = 19) fl_X13_252 dX13_clearCommands_12 fun G3 hW4 => ?_
  refine J_il4 hx rfl rfl dX13_clearCommands_15 ?_
  obtain rfl := Option.some.inj h
  exact J_iretW hx hr hW4 dX13_clearCommands_16 (Nat.le_refl 0) (Nat.le_refl 0)
theorem dX13_here_0 : decode cX13_here 0 = .ok (.aload_n 0, 1) := by decide +kernel
theorem dX13_here_1 : decode cX13_here 1 = .ok (.getfield 255, 3) := by decide +kernel
theorem dX13_here_4 : decode cX13_here 4 = .ok (.aload_n 0, 1) := by decide +kernel
theorem dX13_here_5 : decode cX13_here 5 = .ok (.getfield 252, 3) := by decide +kernel
theorem dX13_here_8 : decode cX13_here 8 = .ok (.if_icmp .ge 15, 3) := by decide +kernel
theorem dX13_here_11 : decode cX13_here 11 = .ok (.aload_n 0, 1) := by decide +kernel
theorem dX13_here_12 : decode cX13_here 12 = .ok (.getfield 16, 3) := by decide +kernel
theorem dX13_here_15 : decode cX13_here 15 = .ok (.aload_n 0, 1) := by decide +kernel
theorem dX13_here_16 : decode cX13_here 16 = .ok (.getfield 255, 3) := by decide +kernel
theorem dX13_here_19 : decode cX13_here 19 = .ok (.iaload, 1) := by decide +kernel
theorem dX13_here_20 : decode cX13_here 20 = .ok (.goto 4, 3) := by decide +kernel
theorem dX13_here_23 : decode cX13_here 23 = .ok (.iconst (-1), 1) := by decide +kernel
theorem dX13_here_24 : decode cX13_here 24 = .ok (.ireturn, 1) := by decide +kernel
def sX13_here (w : Wl) : Option Int32 := (if (w 371 4) ≤ (w 371 7) then some (-1 : Int32) else (idx (w 371 7) 150).bind (fun c2 => some (w 374 c2)))
theorem kX13_here {l : Launch} {Γ : Gl} {B : Bs} {w : Wl} {G : Gf} {sz : Nat} {r : Int32} (hW : Wd Γ B w G) (h : sX13_here w  = some r) : CtR l Γ yX13_here cX13_here 1 (some .int) 0 [.ref (B.1 + 371)] G sz (.int (r)) := by
  refine Ct.of rfl (Nat.le_of_ble_eq_true rfl) fun X hx hr hl hΓ hnm => ?_
  subst hl hΓ
  show J X 1 G sz 0 0 0 [some (.ref (B.1 + 371))] []
  unfold sX13_here at h
  refine J_al4 hx rfl rfl dX13_here_0 ?_
  refine g13_7 hx hW (rfl : kd 371 = 19) fl_X13_255 dX13_here_1 ?_
  refine J_al4 hx rfl rfl dX13_here_4 ?_
  refine g13_4 hx hW (rfl : kd 371 = 19) fl_X13_252 dX13_here_5 ?_
  refine J_icmp_ge hx 23 dX13_here_8 rfl (fun h1 => ?_) (fun h1 => ?_)
  · replace h := pos h h1
    refine J_iconst hx (-1 : Int32) dX13_here_23 rfl ?_
    exact J_iretR hx hr dX13_here_24 (Nat.le_refl 0) (Nat.le_refl 0) (Option.some.inj h)
  · replace h := neg h h1
    refine J_al4 hx rfl rfl dX13_here_11 ?_
    refine g13_3 hx hW 374 (rfl : kd 371 = 19) fl_X13_16 rfl dX13_here_12 ?_
    refine J_al4 hx rfl rfl dX13_here_15 ?_
    refine g13_7 hx hW (rfl : kd 371 = 19) fl_X13_255 dX13_here_16 ?_
    obtain ⟨c2, hc3, h⟩ := bnd h
    refine J_iaW hx hW (rfl : kd 374 = 250) hc3 dX13_here_19 ?_
    refine J_goto hx 24 dX13_here_20 rfl ?_
    exact J_iretR hx hr dX13_here_24 (Nat.le_refl 0) (Nat.le_refl 0) (Option.some.inj h)
theorem dX13_skips_0 : decode cX13_skips 0 = .ok (.aload_n 0, 1) := by decide +kernel
theorem dX13_skips_1 : decode cX13_skips 1 = .ok (.getfield 255, 3) := by decide +kernel
theorem dX13_skips_4 : decode cX13_skips 4 = .ok (.istore_n 1, 1) := by decide +kernel
theorem dX13_skips_5 : decode cX13_skips 5 = .ok (.aload_n 0, 1) := by decide +kernel
theorem dX13_skips_6 : decode cX13_skips 6 = .ok (.invokevirtual 258, 3) := by decide +kernel
theorem dX13_skips_9 : decode cX13_skips 9 = .ok (.bipush 32, 2) := by decide +kernel
theorem dX13_skips_11 : decode cX13_skips 11 = .ok (.if_icmp .ne 16, 3) := by decide +kernel
theorem dX13_skips_14 : decode cX13_skips 14 = .ok (.aload_n 0, 1) := by decide +kernel
theorem dX13_skips_15 : decode cX13_skips 15 = .ok (.dup, 1) := by decide +kernel
theorem dX13_skips_16 : decode cX13_skips 16 = .ok (.getfield 255, 3) := by decide +kernel
theorem dX13_skips_19 : decode cX13_skips 19 = .ok (.iconst 1, 1) := by decide +kernel
theorem dX13_skips_20 : decode cX13_skips 20 = .ok (.iadd, 1) := by decide +kernel
theorem dX13_skips_21 : decode cX13_skips 21 = .ok (.putfield 255, 3) := by decide +kernel
theorem dX13_skips_24 : decode cX13_skips 24 = .ok (.goto (-19), 3) := by decide +kernel
theorem dX13_skips_27 : decode cX13_skips 27 = .ok (.aload_n 0, 1) := by decide +kernel
theorem dX13_skips_28 : decode cX13_skips 28 = .ok (.getfield 255, 3) := by decide +kernel
theorem dX13_skips_31 : decode cX13_skips 31 = .ok (.iload_n 1, 1) := by decide +kernel
theorem dX13_skips_32 : decode cX13_skips 32 = .ok (.if_icmp .le 7, 3) := by decide +kernel
theorem dX13_skips_35 : decode cX13_skips 35 = .ok (.iconst 1, 1) := by decide +kernel
theorem dX13_skips_36 : decode cX13_skips 36 = .ok (.goto 4, 3) := by decide +kernel
theorem dX13_skips_39 : decode cX13_skips 39 = .ok (.iconst 0, 1) := by decide +kernel
theorem dX13_skips_40 : decode cX13_skips 40 = .ok (.ireturn, 1) := by decide +kernel
def sX13_skips_5 : Nat → Wl → Int32 → Option (Bool × Wl)
  | 0, _, _ => none
  | n + 1, w, l1 => (sX13_here w ).bind (fun r1 => (if r1 = (32 : Int32) then sX13_skips_5 n (wst w 371 7 ((w 371 7) + (1 : Int32))) l1 else (if (w 371 7) ≤ l1 then some (false, w) else some (true, w))))
theorem tX13_skips_5 {X : Cx} {B : Bs} {sz : Nat} {r : (Bool × Wl)} (hx : Fx X cX13_skips 2 RX13 1 0 0) (hr : Rt X (some .boolean) 0 0 (WΨ (xΓ X) B (some (.int (bI r.1))) r.2 sz)) : ∀ (n : Nat), ∀ (w : Wl) (l1 : Int32) {G : Gf} (hW : Wd (xΓ X) B w G) (h : sX13_skips_5 n w l1 = some r), J X 2 G sz 0 0 5 [some (.ref (B.1 + 371)), some (.int l1)] [] := by
  intro n
  induction n with
  | zero => intro w l1 G hW h; rw [sX13_skips_5.eq_1] at h; cases h
  | succ n ih =>
    intro w l1 G hW h
    rw [sX13_skips_5.eq_2] at h
    refine J_al4 hx rfl rfl dX13_skips_5 ?_
    obtain ⟨r1, hr2, h⟩ := bnd h
    refine J_rdV hx (kX13_here  hW hr2) ml_X13_258 lk_X13_here (ci := 11) rfl (hW.obj (rfl : kd 371 = 19) (by decide) (by decide)) (rest := []) rfl rfl (by decide) (by decide) (Nat.le_of_ble_eq_true rfl) (Nat.le_refl 0) (Nat.le_refl 0) dX13_skips_6 ?_
    refine J_bipush hx (32 : Int32) dX13_skips_9 rfl ?_
    refine J_icmp_ne hx 27 dX13_skips_11 rfl (fun h3 => ?_) (fun h3 => ?_)
    · replace h := neg h h3
      refine J_al4 hx rfl rfl dX13_skips_27 ?_
      refine g13_7 hx hW (rfl : kd 371 = 19) fl_X13_255 dX13_skips_28 ?_
      refine J_il4 hx rfl rfl dX13_skips_31 ?_
      refine J_icmp_le hx 39 dX13_skips_32 rfl (fun h4 => ?_) (fun h4 => ?_)
      · replace h := pos h h4
        refine J_iconst hx (0 : Int32) dX13_skips_39 rfl ?_
        obtain rfl := Option.some.inj h
        exact J_zretW (b := false) hx hr hW dX13_skips_40 (Nat.le_refl 0) (Nat.le_refl 0)
      · replace h := neg h h4
        refine J_iconst hx (1 : Int32) dX13_skips_35 rfl ?_
        refine J_goto hx 40 dX13_skips_36 rfl ?_
        obtain rfl := Option.some.inj h
        exact J_zretW (b := true) hx hr hW dX13_skips_40 (Nat.le_refl 0) (Nat.le_refl 0)
    · replace h := pos h h3
      refine J_al4 hx rfl rfl dX13_skips_14 ?_
      refine J_dup hx dX13_skips_15 ?_
      refine g13_7 hx hW (rfl : kd 371 = 19) fl_X13_255 dX13_skips_16 ?_
      refine J_iconst hx (1 : Int32) dX13_skips_19 rfl ?_
      refine J_iadd hx dX13_skips_20 ?_
      refine p13_7 hx hW (rfl : kd 371 = 19) fl_X13_255 dX13_skips_21 fun G5 hW6 => ?_
      refine J_goto hx 5 dX13_skips_24 rfl ?_
      exact ih _ _  hW6 h
def sX13_skips (w : Wl) : Option (Bool × Wl) := sX13_skips_5 FU w (w 371 7)
theorem kX13_skips {l : Launch} {Γ : Gl} {B : Bs} {w : Wl} {G : Gf} {sz : Nat} {r : (Bool × Wl)} (hW : Wd Γ B w G) (h : sX13_skips w  = some r) : CtW l Γ yX13_skips cX13_skips 2 (some .boolean) 1 [.ref (B.1 + 371)] G sz B (some (.int (bI r.1))) r.2 := by
  refine Ct.of rfl (Nat.le_of_ble_eq_true rfl) fun X hx hr hl hΓ hnm => ?_
  subst hl hΓ
  show J X 2 G sz 0 0 0 [some (.ref (B.1 + 371)), none] []
  unfold sX13_skips at h
  refine J_al4 hx rfl rfl dX13_skips_0 ?_
  refine g13_7 hx hW (rfl : kd 371 = 19) fl_X13_255 dX13_skips_1 ?_
  refine J_is4 hx rfl (by decide) (hc_of rfl) rfl dX13_skips_4 ?_
  exact tX13_skips_5 hx hr _ _ _  hW h
theorem dX13_commandOf_0 : decode cX13_commandOf 0 = .ok (.lload_n 0, 1) := by decide +kernel
theorem dX13_commandOf_1 : decode cX13_commandOf 1 = .ok (.ldc2_w 261, 3) := by decide +kernel
theorem dX13_commandOf_4 : decode cX13_commandOf 4 = .ok (.lcmp, 1) := by decide +kernel
theorem dX13_commandOf_5 : decode cX13_commandOf 5 = .ok (.ifCond .ne 7, 3) := by decide +kernel
theorem dX13_commandOf_8 : decode cX13_commandOf 8 = .ok (.iconst 0, 1) := by decide +kernel
theorem dX13_commandOf_9 : decode cX13_commandOf 9 = .ok (.goto 103, 3) := by decide +kernel
theorem dX13_commandOf_12 : decode cX13_commandOf 12 = .ok (.lload_n 0, 1) := by decide +kernel
theorem dX13_commandOf_13 : decode cX13_commandOf 13 = .ok (.ldc2_w 263, 3) := by decide +kernel
theorem dX13_commandOf_16 : decode cX13_commandOf 16 = .ok (.lcmp, 1) := by decide +kernel
theorem dX13_commandOf_17 : decode cX13_commandOf 17 = .ok (.ifCond .ne 7, 3) := by decide +kernel
theorem dX13_commandOf_20 : decode cX13_commandOf 20 = .ok (.iconst 1, 1) := by decide +kernel
theorem dX13_commandOf_21 : decode cX13_commandOf 21 = .ok (.goto 91, 3) := by decide +kernel
theorem dX13_commandOf_24 : decode cX13_commandOf 24 = .ok (.lload_n 0, 1) := by decide +kernel
theorem dX13_commandOf_25 : decode cX13_commandOf 25 = .ok (.ldc2_w 265, 3) := by decide +kernel
theorem dX13_commandOf_28 : decode cX13_commandOf 28 = .ok (.lcmp, 1) := by decide +kernel
theorem dX13_commandOf_29 : decode cX13_commandOf 29 = .ok (.ifCond .ne 7, 3) := by decide +kernel
theorem dX13_commandOf_32 : decode cX13_commandOf 32 = .ok (.iconst 2, 1) := by decide +kernel
theorem dX13_commandOf_33 : decode cX13_commandOf 33 = .ok (.goto 79, 3) := by decide +kernel
theorem dX13_commandOf_36 : decode cX13_commandOf 36 = .ok (.lload_n 0, 1) := by decide +kernel
theorem dX13_commandOf_37 : decode cX13_commandOf 37 = .ok (.ldc2_w 267, 3) := by decide +kernel
theorem dX13_commandOf_40 : decode cX13_commandOf 40 = .ok (.lcmp, 1) := by decide +kernel
theorem dX13_commandOf_41 : decode cX13_commandOf 41 = .ok (.ifCond .ne 7, 3) := by decide +kernel
theorem dX13_commandOf_44 : decode cX13_commandOf 44 = .ok (.iconst 3, 1) := by decide +kernel
theorem dX13_commandOf_45 : decode cX13_commandOf 45 = .ok (.goto 67, 3) := by decide +kernel
theorem dX13_commandOf_48 : decode cX13_commandOf 48 = .ok (.lload_n 0, 1) := by decide +kernel
theorem dX13_commandOf_49 : decode cX13_commandOf 49 = .ok (.ldc2_w 269, 3) := by decide +kernel
theorem dX13_commandOf_52 : decode cX13_commandOf 52 = .ok (.lcmp, 1) := by decide +kernel
theorem dX13_commandOf_53 : decode cX13_commandOf 53 = .ok (.ifCond .ne 7, 3) := by decide +kernel
theorem dX13_commandOf_56 : decode cX13_commandOf 56 = .ok (.iconst 4, 1) := by decide +kernel
theorem dX13_commandOf_57 : decode cX13_commandOf 57 = .ok (.goto 55, 3) := by decide +kernel
theorem dX13_commandOf_60 : decode cX13_commandOf 60 = .ok (.lload_n 0, 1) := by decide +kernel
theorem dX13_commandOf_61 : decode cX13_commandOf 61 = .ok (.ldc2_w 271, 3) := by decide +kernel
theorem dX13_commandOf_64 : decode cX13_commandOf 64 = .ok (.lcmp, 1) := by decide +kernel
theorem dX13_commandOf_65 : decode cX13_commandOf 65 = .ok (.ifCond .ne 7, 3) := by decide +kernel
theorem dX13_commandOf_68 : decode cX13_commandOf 68 = .ok (.iconst 5, 1) := by decide +kernel
theorem dX13_commandOf_69 : decode cX13_commandOf 69 = .ok (.goto 43, 3) := by decide +kernel
theorem dX13_commandOf_72 : decode cX13_commandOf 72 = .ok (.lload_n 0, 1) := by decide +kernel
theorem dX13_commandOf_73 : decode cX13_commandOf 73 = .ok (.ldc2_w 273, 3) := by decide +kernel
theorem dX13_commandOf_76 : decode cX13_commandOf 76 = .ok (.lcmp, 1) := by decide +kernel
theorem dX13_commandOf_77 : decode cX13_commandOf 77 = .ok (.ifCond .ne 8, 3) := by decide +kernel
theorem dX13_commandOf_80 : decode cX13_commandOf 80 = .ok (.bipush 6, 2) := by decide +kernel
theorem dX13_commandOf_82 : decode cX13_commandOf 82 = .ok (.goto 30, 3) := by decide +kernel
theorem dX13_commandOf_85 : decode cX13_commandOf 85 = .ok (.lload_n 0, 1) := by decide +kernel
theorem dX13_commandOf_86 : decode cX13_commandOf 86 = .ok (.ldc2_w 275, 3) := by decide +kernel
theorem dX13_commandOf_89 : decode cX13_commandOf 89 = .ok (.lcmp, 1) := by decide +kernel
theorem dX13_commandOf_90 : decode cX13_commandOf 90 = .ok (.ifCond .ne 8, 3) := by decide +kernel
theorem dX13_commandOf_93 : decode cX13_commandOf 93 = .ok (.bipush 7, 2) := by decide +kernel
theorem dX13_commandOf_95 : decode cX13_commandOf 95 = .ok (.goto 17, 3) := by decide +kernel
theorem dX13_commandOf_98 : decode cX13_commandOf 98 = .ok (.lload_n 0, 1) := by decide +kernel
theorem dX13_commandOf_99 : decode cX13_commandOf 99 = .ok (.ldc2_w 277, 3) := by decide +kernel
theorem dX13_commandOf_102 : decode cX13_commandOf 102 = .ok (.lcmp, 1) := by decide +kernel
theorem dX13_commandOf_103 : decode cX13_commandOf 103 = .ok (.ifCond .ne 8, 3) := by decide +kernel
theorem dX13_commandOf_106 : decode cX13_commandOf 106 = .ok (.bipush 8, 2) := by decide +kernel
theorem dX13_commandOf_108 : decode cX13_commandOf 108 = .ok (.goto 4, 3) := by decide +kernel
theorem dX13_commandOf_111 : decode cX13_commandOf 111 = .ok (.iconst (-1), 1) := by decide +kernel
theorem dX13_commandOf_112 : decode cX13_commandOf 112 = .ok (.ireturn, 1) := by decide +kernel
def sX13_commandOf (w : Wl) (l0 : Int64) : Option Int32 := (if (lg_cmp l0 (307058 : Int64)) = 0 then some (0 : Int32) else (if (lg_cmp l0 (1841972 : Int64)) = 0 then some (1 : Int32) else (if (lg_cmp l0 (279740 : Int64)) = 0 then some (2 : Int32) else (if (lg_cmp l0 (11522 : Int64)) = 0 then some (3 : Int32) else (if (lg_cmp l0 (315749 : Int64)) = 0 then some (4 : Int32) else (if (lg_cmp l0 (309082970 : Int64)) = 0 then some (5 : Int32) else (if (lg_cmp l0 (378004 : Int64)) = 0 then some (6 : Int32) else (if (lg_cmp l0 (81912404 : Int64)) = 0 then some (7 : Int32) else (if (lg_cmp l0 (453701 : Int64)) = 0 then some (8 : Int32) else some (-1 : Int32))))))))))
theorem kX13_commandOf {l : Launch} {Γ : Gl} {B : Bs} {w : Wl} {G : Gf} {sz : Nat} {l0 : Int64} {r : Int32} (hW : Wd Γ B w G) (h : sX13_commandOf w l0 = some r) : CtR l Γ yX13_commandOf cX13_commandOf 2 (some .int) 0 [.long l0] G sz (.int (r)) := by
  refine Ct.of rfl (Nat.le_of_ble_eq_true rfl) fun X hx hr hl hΓ hnm => ?_
  subst hl hΓ
  show J X 2 G sz 0 0 0 [some (.long l0), none] []
  unfold sX13_commandOf at h
  refine J_ll4 hx rfl rfl dX13_commandOf_0 ?_
  refine J_ldc2 hx cn_X13_261 dX13_commandOf_1 ?_
  refine J_lcmp hx dX13_commandOf_4 ?_
  refine J_if_ne hx 12 dX13_commandOf_5 rfl (fun h1 => ?_) (fun h1 => ?_)
  · replace h := neg h h1
    refine J_ll4 hx rfl rfl dX13_commandOf_12 ?_
    refine J_ldc2 hx cn_X13_263 dX13_commandOf_13 ?_
    refine J_lcmp hx dX13_commandOf_16 ?_
    refine J_if_ne hx 24 dX13_commandOf_17 rfl (fun h2 => ?_) (fun h2 => ?_)
    · replace h := neg h h2
      refine J_ll4 hx rfl rfl dX13_commandOf_24 ?_
      refine J_ldc2 hx cn_X13_265 dX13_commandOf_25 ?_
      refine J_lcmp hx dX13_commandOf_28 ?_
      refine J_if_ne hx 36 dX13_commandOf_29 rfl (fun h3 => ?_) (fun h3 => ?_)
      · replace h := neg h h3
        refine J_ll4 hx rfl rfl dX13_commandOf_36 ?_
        refine J_ldc2 hx cn_X13_267 dX13_commandOf_37 ?_
        refine J_lcmp hx dX13_commandOf_40 ?_
        refine J_if_ne hx 48 dX13_commandOf_41 rfl (fun h4 => ?_) (fun h4 => ?_)
        · replace h := neg h h4
          refine J_ll4 hx rfl rfl dX13_commandOf_48 ?_
          refine J_ldc2 hx cn_X13_269 dX13_commandOf_49 ?_
          refine J_lcmp hx dX13_commandOf_52 ?_
          refine J_if_ne hx 60 dX13_commandOf_53 rfl (fun h5 => ?_) (fun h5 => ?_)
          · replace h := neg h h5
            refine J_ll4 hx rfl rfl dX13_commandOf_60 ?_
            refine J_ldc2 hx cn_X13_271 dX13_commandOf_61 ?_
            refine J_lcmp hx dX13_commandOf_64 ?_
            refine J_if_ne hx 72 dX13_commandOf_65 rfl (fun h6 => ?_) (fun h6 => ?_)
            · replace h := neg h h6
              refine J_ll4 hx rfl rfl dX13_commandOf_72 ?_
              refine J_ldc2 hx cn_X13_273 dX13_commandOf_73 ?_
              refine J_lcmp hx dX13_commandOf_76 ?_
              refine J_if_ne hx 85 dX13_commandOf_77 rfl (fun h7 => ?_) (fun h7 => ?_)
              · replace h := neg h h7
                refine J_ll4 hx rfl rfl dX13_commandOf_85 ?_
                refine J_ldc2 hx cn_X13_275 dX13_commandOf_86 ?_
                refine J_lcmp hx dX13_commandOf_89 ?_
                refine J_if_ne hx 98 dX13_commandOf_90 rfl (fun h8 => ?_) (fun h8 => ?_)
                · replace h := neg h h8
                  refine J_ll4 hx rfl rfl dX13_commandOf_98 ?_
                  refine J_ldc2 hx cn_X13_277 dX13_commandOf_99 ?_
                  refine J_lcmp hx dX13_commandOf_102 ?_
                  refine J_if_ne hx 111 dX13_commandOf_103 rfl (fun h9 => ?_) (fun h9 => ?_)
                  · replace h := neg h h9
                    refine J_iconst hx (-1 : Int32) dX13_commandOf_111 rfl ?_
                    exact J_iretR hx hr dX13_commandOf_112 (Nat.le_refl 0) (Nat.le_refl 0) (Option.some.inj h)
                  · replace h := pos h h9
                    refine J_bipush hx (8 : Int32) dX13_commandOf_106 rfl ?_
                    refine J_goto hx 112 dX13_commandOf_108 rfl ?_
                    exact J_iretR hx hr dX13_commandOf_112 (Nat.le_refl 0) (Nat.le_refl 0) (Option.some.inj h)
                · replace h := pos h h8
                  refine J_bipush hx (7 : Int32) dX13_commandOf_93 rfl ?_
                  refine J_goto hx 112 dX13_commandOf_95 rfl ?_
                  exact J_iretR hx hr dX13_commandOf_112 (Nat.le_refl 0) (Nat.le_refl 0) (Option.some.inj h)
              · replace h := pos h h7
                refine J_bipush hx (6 : Int32) dX13_commandOf_80 rfl ?_
                refine J_goto hx 112 dX13_commandOf_82 rfl ?_
                exact J_iretR hx hr dX13_commandOf_112 (Nat.le_refl 0) (Nat.le_refl 0) (Option.some.inj h)
            · replace h := pos h h6
              refine J_iconst hx (5 : Int32) dX13_commandOf_68 rfl ?_
              refine J_goto hx 112 dX13_commandOf_69 rfl ?_
              exact J_iretR hx hr dX13_commandOf_112 (Nat.le_refl 0) (Nat.le_refl 0) (Option.some.inj h)
          · replace h := pos h h5
            refine J_iconst hx (4 : Int32) dX13_commandOf_56 rfl ?_
            refine J_goto hx 112 dX13_commandOf_57 rfl ?_
            exact J_iretR hx hr dX13_commandOf_112 (Nat.le_refl 0) (Nat.le_refl 0) (Option.some.inj h)
        · replace h := pos h h4
          refine J_iconst hx (3 : Int32) dX13_commandOf_44 rfl ?_
          refine J_goto hx 112 dX13_commandOf_45 rfl ?_
          exact J_iretR hx hr dX13_commandOf_112 (Nat.le_refl 0) (Nat.le_refl 0) (Option.some.inj h)
      · replace h := pos h h3
        refine J_iconst hx (2 : Int32) dX13_commandOf_32 rfl ?_
        refine J_goto hx 112 dX13_commandOf_33 rfl ?_
        exact J_iretR hx hr dX13_commandOf_112 (Nat.le_refl 0) (Nat.le_refl 0) (Option.some.inj h)
    · replace h := pos h h2
      refine J_iconst hx (1 : Int32) dX13_commandOf_20 rfl ?_
      refine J_goto hx 112 dX13_commandOf_21 rfl ?_
      exact J_iretR hx hr dX13_commandOf_112 (Nat.le_refl 0) (Nat.le_refl 0) (Option.some.inj h)
  · replace h := pos h h1
    refine J_iconst hx (0 : Int32) dX13_commandOf_8 rfl ?_
    refine J_goto hx 112 dX13_commandOf_9 rfl ?_
    exact J_iretR hx hr dX13_commandOf_112 (Nat.le_refl 0) (Nat.le_refl 0) (Option.some.inj h)
theorem dX13_readWord_0 : decode cX13_readWord 0 = .ok (.aload_n 0, 1) := by decide +kernel
theorem dX13_readWord_1 : decode cX13_readWord 1 = .ok (.getfield 255, 3) := by decide +kernel
theorem dX13_readWord_4 : decode cX13_readWord 4 = .ok (.istore_n 1, 1) := by decide +kernel
theorem dX13_readWord_5 : decode cX13_readWord 5 = .ok (.lconst 0, 1) := by decide +kernel
theorem dX13_readWord_6 : decode cX13_readWord 6 = .ok (.lstore_n 2, 1) := by decide +kernel
theorem dX13_readWord_7 : decode cX13_readWord 7 = .ok (.aload_n 0, 1) := by decide +kernel
theorem dX13_readWord_8 : decode cX13_readWord 8 = .ok (.invokevirtual 258, 3) := by decide +kernel
theorem dX13_readWord_11 : decode cX13_readWord 11 = .ok (.bipush 97, 2) := by decide +kernel
theorem dX13_readWord_13 : decode cX13_readWord 13 = .ok (.bipush 122, 2) := by decide +kernel
theorem dX13_readWord_15 : decode cX13_readWord 15 = .ok (.invokestatic 32, 3) := by decide +kernel
theorem dX13_readWord_18 : decode cX13_readWord 18 = .ok (.ifCond .eq 49, 3) := by decide +kernel
theorem dX13_readWord_21 : decode cX13_readWord 21 = .ok (.aload_n 0, 1) := by decide +kernel
theorem dX13_readWord_22 : decode cX13_readWord 22 = .ok (.getfield 255, 3) := by decide +kernel
theorem dX13_readWord_25 : decode cX13_readWord 25 = .ok (.iload_n 1, 1) := by decide +kernel
theorem dX13_readWord_26 : decode cX13_readWord 26 = .ok (.isub, 1) := by decide +kernel
theorem dX13_readWord_27 : decode cX13_readWord 27 = .ok (.bipush 7, 2) := by decide +kernel
theorem dX13_readWord_29 : decode cX13_readWord 29 = .ok (.if_icmp .ge 21, 3) := by decide +kernel
theorem dX13_readWord_32 : decode cX13_readWord 32 = .ok (.lload_n 2, 1) := by decide +kernel
theorem dX13_readWord_33 : decode cX13_readWord 33 = .ok (.ldc2_w 279, 3) := by decide +kernel
theorem dX13_readWord_36 : decode cX13_readWord 36 = .ok (.lmul, 1) := by decide +kernel
theorem dX13_readWord_37 : decode cX13_readWord 37 = .ok (.aload_n 0, 1) := by decide +kernel
theorem dX13_readWord_38 : decode cX13_readWord 38 = .ok (.invokevirtual 258, 3) := by decide +kernel
theorem dX13_readWord_41 : decode cX13_readWord 41 = .ok (.i2l, 1) := by decide +kernel
theorem dX13_readWord_42 : decode cX13_readWord 42 = .ok (.ladd, 1) := by decide +kernel
theorem dX13_readWord_43 : decode cX13_readWord 43 = .ok (.ldc2_w 281, 3) := by decide +kernel
theorem dX13_readWord_46 : decode cX13_readWord 46 = .ok (.lsub, 1) := by decide +kernel
theorem dX13_readWord_47 : decode cX13_readWord 47 = .ok (.goto 6, 3) := by decide +kernel
theorem dX13_readWord_50 : decode cX13_readWord 50 = .ok (.ldc2_w 283, 3) := by decide +kernel
theorem dX13_readWord_53 : decode cX13_readWord 53 = .ok (.lstore_n 2, 1) := by decide +kernel
theorem dX13_readWord_54 : decode cX13_readWord 54 = .ok (.aload_n 0, 1) := by decide +kernel
theorem dX13_readWord_55 : decode cX13_readWord 55 = .ok (.dup, 1) := by decide +kernel
theorem dX13_readWord_56 : decode cX13_readWord 56 = .ok (.getfield 255, 3) := by decide +kernel
theorem dX13_readWord_59 : decode cX13_readWord 59 = .ok (.iconst 1, 1) := by decide +kernel
theorem dX13_readWord_60 : decode cX13_readWord 60 = .ok (.iadd, 1) := by decide +kernel
theorem dX13_readWord_61 : decode cX13_readWord 61 = .ok (.putfield 255, 3) := by decide +kernel
theorem dX13_readWord_64 : decode cX13_readWord 64 = .ok (.goto (-57), 3) := by decide +kernel
theorem dX13_readWord_67 : decode cX13_readWord 67 = .ok (.aload_n 0, 1) := by decide +kernel
theorem dX13_readWord_68 : decode cX13_readWord 68 = .ok (.aload_n 0, 1) := by decide +kernel
theorem dX13_readWord_69 : decode cX13_readWord 69 = .ok (.getfield 255, 3) := by decide +kernel
theorem dX13_readWord_72 : decode cX13_readWord 72 = .ok (.iload_n 1, 1) := by decide +kernel
theorem dX13_readWord_73 : decode cX13_readWord 73 = .ok (.isub, 1) := by decide +kernel
theorem dX13_readWord_74 : decode cX13_readWord 74 = .ok (.bipush 6, 2) := by decide +kernel
theorem dX13_readWord_76 : decode cX13_readWord 76 = .ok (.if_icmp .le 7, 3) := by decide +kernel
theorem dX13_readWord_79 : decode cX13_readWord 79 = .ok (.iconst (-1), 1) := by decide +kernel
theorem dX13_readWord_80 : decode cX13_readWord 80 = .ok (.goto 7, 3) := by decide +kernel
theorem dX13_readWord_83 : decode cX13_readWord 83 = .ok (.lload_n 2, 1) := by decide +kernel
theorem dX13_readWord_84 : decode cX13_readWord 84 = .ok (.invokestatic 285, 3) := by decide +kernel
theorem dX13_readWord_87 : decode cX13_readWord 87 = .ok (.putfield 289, 3) := by decide +kernel
theorem dX13_readWord_90 : decode cX13_readWord 90 = .ok (.aload_n 0, 1) := by decide +kernel
theorem dX13_readWord_91 : decode cX13_readWord 91 = .ok (.aload_n 0, 1) := by decide +kernel
theorem dX13_readWord_92 : decode cX13_readWord 92 = .ok (.getfield 289, 3) := by decide +kernel
theorem dX13_readWord_95 : decode cX13_readWord 95 = .ok (.iconst (-1), 1) := by decide +kernel
theorem dX13_readWord_96 : decode cX13_readWord 96 = .ok (.if_icmp .ne 7, 3) := by decide +kernel
theorem dX13_readWord_99 : decode cX13_readWord 99 = .ok (.iload_n 1, 1) := by decide +kernel
theorem dX13_readWord_100 : decode cX13_readWord 100 = .ok (.goto 7, 3) := by decide +kernel
theorem dX13_readWord_103 : decode cX13_readWord 103 = .ok (.aload_n 0, 1) := by decide +kernel
theorem dX13_readWord_104 : decode cX13_readWord 104 = .ok (.getfield 255, 3) := by decide +kernel
theorem dX13_readWord_107 : decode cX13_readWord 107 = .ok (.putfield 255, 3) := by decide +kernel
theorem dX13_readWord_110 : decode cX13_readWord 110 = .ok (.aload_n 0, 1) := by decide +kernel
theorem dX13_readWord_111 : decode cX13_readWord 111 = .ok (.getfield 289, 3) := by decide +kernel
theorem dX13_readWord_114 : decode cX13_readWord 114 = .ok (.iconst (-1), 1) := by decide +kernel
theorem dX13_readWord_115 : decode cX13_readWord 115 = .ok (.if_icmp .eq 7, 3) := by decide +kernel
theorem dX13_readWord_118 : decode cX13_readWord 118 = .ok (.iconst 1, 1) := by decide +kernel
theorem dX13_readWord_119 : decode cX13_readWord 119 = .ok (.goto 4, 3) := by decide +kernel
theorem dX13_readWord_122 : decode cX13_readWord 122 = .ok (.iconst 0, 1) := by decide +kernel
theorem dX13_readWord_123 : decode cX13_readWord 123 = .ok (.ireturn, 1) := by decide +kernel
def sX13_readWord_107 (w : Wl) (s1 : Int32) : Option (Bool × Wl) := (if ((wst w 371 7 s1) 371 8) = (-1 : Int32) then some (false, (wst w 371 7 s1)) else some (true, (wst w 371 7 s1)))
theorem tX13_readWord_107 {X : Cx} {B : Bs} {sz : Nat} {r : (Bool × Wl)} (hx : Fx X cX13_readWord 4 RX13 1 0 0) (hr : Rt X (some .boolean) 0 0 (WΨ (xΓ X) B (some (.int (bI r.1))) r.2 sz)) : ∀ (w : Wl) (s1 : Int32) {G : Gf} (hW : Wd (xΓ X) B w G) (h : sX13_readWord_107  w s1 = some r), J X 4 G sz 0 0 107 [some (.ref (B.1 + 371)), none, none, none] [.int s1, .ref (B.1 + 371)] := by
  intro w s1 G hW h
  unfold sX13_readWord_107 at h
  refine p13_7 hx hW (rfl : kd 371 = 19) fl_X13_255 dX13_readWord_107 fun G1 hW2 => ?_
  refine J_al4 hx rfl rfl dX13_readWord_110 ?_
  refine g13_8 hx hW2 (rfl : kd 371 = 19) fl_X13_289 dX13_readWord_111 ?_
  refine J_iconst hx (-1 : Int32) dX13_readWord_114 rfl ?_
  refine J_icmp_eq hx 122 dX13_readWord_115 rfl (fun h3 => ?_) (fun h3 => ?_)
  · replace h := pos h h3
    refine J_iconst hx (0 : Int32) dX13_readWord_122 rfl ?_
    obtain rfl := Option.some.inj h
    exact J_zretW (b := false) hx hr hW2 dX13_readWord_123 (Nat.le_refl 0) (Nat.le_refl 0)
  · replace h := neg h h3
    refine J_iconst hx (1 : Int32) dX13_readWord_118 rfl ?_
    refine J_goto hx 123 dX13_readWord_119 rfl ?_
    obtain rfl := Option.some.inj h
    exact J_zretW (b := true) hx hr hW2 dX13_readWord_123 (Nat.le_refl 0) (Nat.le_refl 0)
def sX13_readWord_87 (w : Wl) (l1 : Int32) (s1 : Int32) : Option (Bool × Wl) := (if ((wst w 371 8 s1) 371 8) = (-1 : Int32) then sX13_readWord_107 (wst w 371 8 s1) l1 else sX13_readWord_107 (wst w 371 8 s1) ((wst w 371 8 s1) 371 7))
theorem tX13_readWord_87 {X : Cx} {B : Bs} {sz : Nat} {r : (Bool × Wl)} (hx : Fx X cX13_readWord 4 RX13 1 0 0) (hr : Rt X (some .boolean) 0 0 (WΨ (xΓ X) B (some (.int (bI r.1))) r.2 sz)) : ∀ (w : Wl) (l1 : Int32) (s1 : Int32) {G : Gf} (hW : Wd (xΓ X) B w G) (h : sX13_readWord_87  w l1 s1 = some r), J X 4 G sz 0 0 87 [some (.ref (B.1 + 371)), some (.int l1), none, none] [.int s1, .ref (B.1 + 371)] := by
  intro w l1 s1 G hW h
  unfold sX13_readWord_87 at h
  refine p13_8 hx hW (rfl : kd 371 = 19) fl_X13_289 dX13_readWord_87 fun G1 hW2 => ?_
  refine J_al4 hx rfl rfl dX13_readWord_90 ?_
  refine J_al4 hx rfl rfl dX13_readWord_91 ?_
  refine g13_8 hx hW2 (rfl : kd 371 = 19) fl_X13_289 dX13_readWord_92 ?_
  refine J_iconst hx (-1 : Int32) dX13_readWord_95 rfl ?_
  refine J_icmp_ne hx 103 dX13_readWord_96 rfl (fun h3 => ?_) (fun h3 => ?_)
  · replace h := neg h h3
    refine J_al4 hx rfl rfl dX13_readWord_103 ?_
    refine g13_7 hx hW2 (rfl : kd 371 = 19) fl_X13_255 dX13_readWord_104 ?_
    refine J_lw (ls' := [some (.ref (B.1 + 371)), none, none, none]) (lwS (lwN (lwN (lwN lwZ)))) ?_
    exact tX13_readWord_107 hx hr _ _  hW2 h
  · replace h := pos h h3
    refine J_il4 hx rfl rfl dX13_readWord_99 ?_
    refine J_goto hx 107 dX13_readWord_100 rfl ?_
    refine J_lw (ls' := [some (.ref (B.1 + 371)), none, none, none]) (lwS (lwN (lwN (lwN lwZ)))) ?_
    exact tX13_readWord_107 hx hr _ _  hW2 h
def sX13_readWord_53 (k7 : Wl → Int32 → Int64 → Option (Bool × Wl)) (w : Wl) (l1 : Int32) (s0 : Int64) : Option (Bool × Wl) := k7 (wst w 371 7 ((w 371 7) + (1 : Int32))) l1 s0
theorem tX13_readWord_53 {X : Cx} {B : Bs} {sz : Nat} {r : (Bool × Wl)} (hx : Fx X cX13_readWord 4 RX13 1 0 0) (hr : Rt X (some .boolean) 0 0 (WΨ (xΓ X) B (some (.int (bI r.1))) r.2 sz)) (k7 : Wl → Int32 → Int64 → Option (Bool × Wl)) (hk7 : ∀ (w : Wl) (l1 : Int32) (l2 : Int64) {G : Gf} (hW : Wd (xΓ X) B w G) (h : k7 w l1 l2 = some r), J X 4 G sz 0 0 7 [some (.ref (B.1 + 371)), some (.int l1), some (.long l2), none] []) : ∀ (w : Wl) (l1 : Int32) (s0 : Int64) {G : Gf} (hW : Wd (xΓ X) B w G) (h : sX13_readWord_53 k7  w l1 s0 = some r), J X 4 G sz 0 0 53 [some (.ref (B.1 + 371)), some (.int l1), none, none] [.long s0] := by
  intro w l1 s0 G hW h
  unfold sX13_readWord_53 at h
  refine J_ls4 hx rfl (by decide) (hc_of rfl) rfl dX13_readWord_53 ?_
  refine J_al4 hx rfl rfl dX13_readWord_54 ?_
  refine J_dup hx dX13_readWord_55 ?_
  refine g13_7 hx hW (rfl : kd 371 = 19) fl_X13_255 dX13_readWord_56 ?_
  refine J_iconst hx (1 : Int32) dX13_readWord_59 rfl ?_
  refine J_iadd hx dX13_readWord_60 ?_
  refine p13_7 hx hW (rfl : kd 371 = 19) fl_X13_255 dX13_readWord_61 fun G1 hW2 => ?_
  refine J_goto hx 7 dX13_readWord_64 rfl ?_
  exact hk7 _ _ _  hW2 h
def sX13_readWord_7 : Nat → Wl → Int32 → Int64 → Option (Bool × Wl)
  | 0, _, _, _ => none
  | n + 1, w, l1, l2 => (sX13_here w ).bind (fun r1 => (sX13_in w r1 (97 : Int32) (122 : Int32)).bind (fun r3 => (if r3 = true then (if (7 : Int32) ≤ ((w 371 7) - l1) then sX13_readWord_53 (fun w l1 l2 => sX13_readWord_7 n w l1 l2) w l1 (-1 : Int64) else sX13_readWord_53 (fun w l1 l2 => sX13_readWord_7 n w l1 l2) w l1 (((l2 * (27 : Int64)) + r1.toInt64) - (96 : Int64))) else (if ((w 371 7) - l1) ≤ (6 : Int32) then (sX13_commandOf w l2).bind (fun r7 => sX13_readWord_87 w l1 r7) else sX13_readWord_87 w l1 (-1 : Int32)))))
theorem tX13_readWord_7 {X : Cx} {B : Bs} {sz : Nat} {r : (Bool × Wl)} (hx : Fx X cX13_readWord 4 RX13 1 0 0) (hr : Rt X (some .boolean) 0 0 (WΨ (xΓ X) B (some (.int (bI r.1))) r.2 sz)) : ∀ (n : Nat), ∀ (w : Wl) (l1 : Int32) (l2 : Int64) {G : Gf} (hW : Wd (xΓ X) B w G) (h : sX13_readWord_7 n w l1 l2 = some r), J X 4 G sz 0 0 7 [some (.ref (B.1 + 371)), some (.int l1), some (.long l2), none] [] := by
  intro n
  induction n with
  | zero => intro w l1 l2 G hW h; rw [sX13_readWord_7.eq_1] at h; cases h
  | succ n ih =>
    intro w l1 l2 G hW h
    rw [sX13_readWord_7.eq_2] at h
    refine J_al4 hx rfl rfl dX13_readWord_7 ?_
    obtain ⟨r1, hr2, h⟩ := bnd h
    refine J_rdV hx (kX13_here  hW hr2) ml_X13_258 lk_X13_here (ci := 11) rfl (hW.obj (rfl : kd 371 = 19) (by decide) (by decide)) (rest := []) rfl rfl (by decide) (by decide) (Nat.le_of_ble_eq_true rfl) (Nat.le_refl 0) (Nat.le_refl 0) dX13_readWord_8 ?_
    refine J_bipush hx (97 : Int32) dX13_readWord_11 rfl ?_
    refine J_bipush hx (122 : Int32) dX13_readWord_13 rfl ?_
    obtain ⟨r3, hr4, h⟩ := bnd h
    refine J_rdS hx (kX13_in  hW hr4) ml_X13_32 lk_X13_in (rest := []) rfl rfl (by decide) (by decide) (Nat.le_of_ble_eq_true rfl) (Nat.le_refl 0) (Nat.le_refl 0) dX13_readWord_15 ?_
    refine J_bif_eq hx 67 dX13_readWord_18 rfl (fun h5 => ?_) (fun h5 => ?_)
    · replace h := neg h (bft h5)
      refine J_al4 hx rfl rfl dX13_readWord_67 ?_
      refine J_al4 hx rfl rfl dX13_readWord_68 ?_
      refine g13_7 hx hW (rfl : kd 371 = 19) fl_X13_255 dX13_readWord_69 ?_
      refine J_il4 hx rfl rfl dX13_readWord_72 ?_
      refine J_isub hx dX13_readWord_73 ?_
      refine J_bipush hx (6 : Int32) dX13_readWord_74 rfl ?_
      refine J_icmp_le hx 83 dX13_readWord_76 rfl (fun h6 => ?_) (fun h6 => ?_)
      · replace h := pos h h6
        refine J_ll4 hx rfl rfl dX13_readWord_83 ?_
        obtain ⟨r7, hr8, h⟩ := bnd h
        refine J_rdS hx (kX13_commandOf  hW hr8) ml_X13_285 lk_X13_commandOf (rest := [.ref (B.1 + 371)]) rfl rfl (by decide) (by decide) (Nat.le_of_ble_eq_true rfl) (Nat.le_refl 0) (Nat.le_refl 0) dX13_readWord_84 ?_
        refine J_lw (ls' := [some (.ref (B.1 + 371)), some (.int l1), none, none]) (lwS (lwS (lwN (lwN lwZ)))) ?_
        exact tX13_readWord_87 hx hr _ _ _  hW h
      · replace h := neg h h6
        refine J_iconst hx (-1 : Int32) dX13_readWord_79 rfl ?_
        refine J_goto hx 87 dX13_readWord_80 rfl ?_
        refine J_lw (ls' := [some (.ref (B.1 + 371)), some (.int l1), none, none]) (lwS (lwS (lwN (lwN lwZ)))) ?_
        exact tX13_readWord_87 hx hr _ _ _  hW h
    · replace h := pos h h5
      refine J_al4 hx rfl rfl dX13_readWord_21 ?_
      refine g13_7 hx hW (rfl : kd 371 = 19) fl_X13_255 dX13_readWord_22 ?_
      refine J_il4 hx rfl rfl dX13_readWord_25 ?_
      refine J_isub hx dX13_readWord_26 ?_
      refine J_bipush hx (7 : Int32) dX13_readWord_27 rfl ?_
      refine J_icmp_ge hx 50 dX13_readWord_29 rfl (fun h9 => ?_) (fun h9 => ?_)
      · replace h := pos h h9
        refine J_ldc2 hx cn_X13_283 dX13_readWord_50 ?_
        refine J_lw (ls' := [some (.ref (B.1 + 371)), some (.int l1), none, none]) (lwS (lwS (lwN (lwN lwZ)))) ?_
        exact tX13_readWord_53 hx hr _ ih _ _ _  hW h
      · replace h := neg h h9
        refine J_ll4 hx rfl rfl dX13_readWord_32 ?_
        refine J_ldc2 hx cn_X13_279 dX13_readWord_33 ?_
        refine J_lmul hx dX13_readWord_36 ?_
        refine J_al4 hx rfl rfl dX13_readWord_37 ?_
        refine J_rdV hx (kX13_here  hW hr2) ml_X13_258 lk_X13_here (ci := 11) rfl (hW.obj (rfl : kd 371 = 19) (by decide) (by decide)) (rest := [.long (l2 * (27 : Int64))]) rfl rfl (by decide) (by decide) (Nat.le_of_ble_eq_true rfl) (Nat.le_refl 0) (Nat.le_refl 0) dX13_readWord_38 ?_
        refine J_i2l hx dX13_readWord_41 ?_
        refine J_ladd hx dX13_readWord_42 ?_
        refine J_ldc2 hx cn_X13_281 dX13_readWord_43 ?_
        refine J_lsub hx dX13_readWord_46 ?_
        refine J_goto hx 53 dX13_readWord_47 rfl ?_
        refine J_lw (ls' := [some (.ref (B.1 + 371)), some (.int l1), none, none]) (lwS (lwS (lwN (lwN lwZ)))) ?_
        exact tX13_readWord_53 hx hr _ ih _ _ _  hW h
def sX13_readWord (w : Wl) : Option (Bool × Wl) := sX13_readWord_7 FU w (w 371 7) (0 : Int64)
theorem kX13_readWord {l : Launch} {Γ : Gl} {B : Bs} {w : Wl} {G : Gf} {sz : Nat} {r : (Bool × Wl)} (hW : Wd Γ B w G) (h : sX13_readWord w  = some r) : CtW l Γ yX13_readWord cX13_readWord 4 (some .boolean) 1 [.ref (B.1 + 371)] G sz B (some (.int (bI r.1))) r.2 := by
  refine Ct.of rfl (Nat.le_of_ble_eq_true rfl) fun X hx hr hl hΓ hnm => ?_
  subst hl hΓ
  show J X 4 G sz 0 0 0 [some (.ref (B.1 + 371)), none, none, none] []
  unfold sX13_readWord at h
  refine J_al4 hx rfl rfl dX13_readWord_0 ?_
  refine g13_7 hx hW (rfl : kd 371 = 19) fl_X13_255 dX13_readWord_1 ?_
  refine J_is4 hx rfl (by decide) (hc_of rfl) rfl dX13_readWord_4 ?_
  refine J_lconst hx (0 : Int64) dX13_readWord_5 rfl ?_
  refine J_ls4 hx rfl (by decide) (hc_of rfl) rfl dX13_readWord_6 ?_
  exact tX13_readWord_7 hx hr _ _ _ _  hW h
theorem dX13_readNumber_0 : decode cX13_readNumber 0 = .ok (.aload_n 0, 1) := by decide +kernel
theorem dX13_readNumber_1 : decode cX13_readNumber 1 = .ok (.invokevirtual 292, 3) := by decide +kernel
theorem dX13_readNumber_4 : decode cX13_readNumber 4 = .ok (.ifCond .ne 5, 3) := by decide +kernel
theorem dX13_readNumber_7 : decode cX13_readNumber 7 = .ok (.iconst 0, 1) := by decide +kernel
theorem dX13_readNumber_8 : decode cX13_readNumber 8 = .ok (.ireturn, 1) := by decide +kernel
theorem dX13_readNumber_9 : decode cX13_readNumber 9 = .ok (.aload_n 0, 1) := by decide +kernel
theorem dX13_readNumber_10 : decode cX13_readNumber 10 = .ok (.getfield 255, 3) := by decide +kernel
theorem dX13_readNumber_13 : decode cX13_readNumber 13 = .ok (.istore_n 2, 1) := by decide +kernel
theorem dX13_readNumber_14 : decode cX13_readNumber 14 = .ok (.iconst 0, 1) := by decide +kernel
theorem dX13_readNumber_15 : decode cX13_readNumber 15 = .ok (.istore_n 3, 1) := by decide +kernel
theorem dX13_readNumber_16 : decode cX13_readNumber 16 = .ok (.aload_n 0, 1) := by decide +kernel
theorem dX13_readNumber_17 : decode cX13_readNumber 17 = .ok (.getfield 255, 3) := by decide +kernel
theorem dX13_readNumber_20 : decode cX13_readNumber 20 = .ok (.iload_n 2, 1) := by decide +kernel
theorem dX13_readNumber_21 : decode cX13_readNumber 21 = .ok (.iconst 4, 1) := by decide +kernel
theorem dX13_readNumber_22 : decode cX13_readNumber 22 = .ok (.iadd, 1) := by decide +kernel
theorem dX13_readNumber_23 : decode cX13_readNumber 23 = .ok (.if_icmp .ge 43, 3) := by decide +kernel
theorem dX13_readNumber_26 : decode cX13_readNumber 26 = .ok (.aload_n 0, 1) := by decide +kernel
theorem dX13_readNumber_27 : decode cX13_readNumber 27 = .ok (.invokevirtual 258, 3) := by decide +kernel
theorem dX13_readNumber_30 : decode cX13_readNumber 30 = .ok (.bipush 48, 2) := by decide +kernel
theorem dX13_readNumber_32 : decode cX13_readNumber 32 = .ok (.bipush 57, 2) := by decide +kernel
theorem dX13_readNumber_34 : decode cX13_readNumber 34 = .ok (.invokestatic 32, 3) := by decide +kernel
theorem dX13_readNumber_37 : decode cX13_readNumber 37 = .ok (.ifCond .eq 29, 3) := by decide +kernel
theorem dX13_readNumber_40 : decode cX13_readNumber 40 = .ok (.bipush 10, 2) := by decide +kernel
theorem dX13_readNumber_42 : decode cX13_readNumber 42 = .ok (.iload_n 3, 1) := by decide +kernel
theorem dX13_readNumber_43 : decode cX13_readNumber 43 = .ok (.imul, 1) := by decide +kernel
theorem dX13_readNumber_44 : decode cX13_readNumber 44 = .ok (.aload_n 0, 1) := by decide +kernel
theorem dX13_readNumber_45 : decode cX13_readNumber 45 = .ok (.invokevirtual 258, 3) := by decide +kernel
theorem dX13_readNumber_48 : decode cX13_readNumber 48 = .ok (.iadd, 1) := by decide +kernel
theorem dX13_readNumber_49 : decode cX13_readNumber 49 = .ok (.bipush 48, 2) := by decide +kernel
theorem dX13_readNumber_51 : decode cX13_readNumber 51 = .ok (.isub, 1) := by decide +kernel
theorem dX13_readNumber_52 : decode cX13_readNumber 52 = .ok (.istore_n 3, 1) := by decide +kernel
theorem dX13_readNumber_53 : decode cX13_readNumber 53 = .ok (.aload_n 0, 1) := by decide +kernel
theorem dX13_readNumber_54 : decode cX13_readNumber 54 = .ok (.dup, 1) := by decide +kernel
theorem dX13_readNumber_55 : decode cX13_readNumber 55 = .ok (.getfield 255, 3) := by decide +kernel
theorem dX13_readNumber_58 : decode cX13_readNumber 58 = .ok (.iconst 1, 1) := by decide +kernel
theorem dX13_readNumber_59 : decode cX13_readNumber 59 = .ok (.iadd, 1) := by decide +kernel
theorem dX13_readNumber_60 : decode cX13_readNumber 60 = .ok (.putfield 255, 3) := by decide +kernel
theorem dX13_readNumber_63 : decode cX13_readNumber 63 = .ok (.goto (-47), 3) := by decide +kernel
theorem dX13_readNumber_66 : decode cX13_readNumber 66 = .ok (.aload_n 0, 1) := by decide +kernel
theorem dX13_readNumber_67 : decode cX13_readNumber 67 = .ok (.getfield 22, 3) := by decide +kernel
theorem dX13_readNumber_70 : decode cX13_readNumber 70 = .ok (.iload_n 1, 1) := by decide +kernel
theorem dX13_readNumber_71 : decode cX13_readNumber 71 = .ok (.iload_n 3, 1) := by decide +kernel
theorem dX13_readNumber_72 : decode cX13_readNumber 72 = .ok (.iastore, 1) := by decide +kernel
theorem dX13_readNumber_73 : decode cX13_readNumber 73 = .ok (.aload_n 0, 1) := by decide +kernel
theorem dX13_readNumber_74 : decode cX13_readNumber 74 = .ok (.getfield 255, 3) := by decide +kernel
theorem dX13_readNumber_77 : decode cX13_readNumber 77 = .ok (.iload_n 2, 1) := by decide +kernel
theorem dX13_readNumber_78 : decode cX13_readNumber 78 = .ok (.if_icmp .le 7, 3) := by decide +kernel
theorem dX13_readNumber_81 : decode cX13_readNumber 81 = .ok (.iconst 1, 1) := by decide +kernel
theorem dX13_readNumber_82 : decode cX13_readNumber 82 = .ok (.goto 4, 3) := by decide +kernel
theorem dX13_readNumber_85 : decode cX13_readNumber 85 = .ok (.iconst 0, 1) := by decide +kernel
theorem dX13_readNumber_86 : decode cX13_readNumber 86 = .ok (.ireturn, 1) := by decide +kernel
def sX13_readNumber_66 (w : Wl) (l1 : Int32) (l2 : Int32) (l3 : Int32) : Option (Bool × Wl) := (idx l1 3).bind (fun c1 => (if ((wst w 376 c1 l3) 371 7) ≤ l2 then some (false, (wst w 376 c1 l3)) else some (true, (wst w 376 c1 l3))))
theorem tX13_readNumber_66 {X : Cx} {B : Bs} {sz : Nat} {r : (Bool × Wl)} (hx : Fx X cX13_readNumber 4 RX13 2 0 0) (hr : Rt X (some .boolean) 0 0 (WΨ (xΓ X) B (some (.int (bI r.1))) r.2 sz)) : ∀ (w : Wl) (l1 : Int32) (l2 : Int32) (l3 : Int32) {G : Gf} (hW : Wd (xΓ X) B w G) (h : sX13_readNumber_66  w l1 l2 l3 = some r), J X 4 G sz 0 0 66 [some (.ref (B.1 + 371)), some (.int l1), some (.int l2), some (.int l3)] [] := by
  intro w l1 l2 l3 G hW h
  unfold sX13_readNumber_66 at h
  refine J_al4 hx rfl rfl dX13_readNumber_66 ?_
  refine g13_9 hx hW 376 (rfl : kd 371 = 19) fl_X13_22 rfl dX13_readNumber_67 ?_
  refine J_il4 hx rfl rfl dX13_readNumber_70 ?_
  refine J_il4 hx rfl rfl dX13_readNumber_71 ?_
  obtain ⟨c1, hc2, h⟩ := bnd h
  refine J_iaS hx hW (rfl : kd 376 = 103) hc2 dX13_readNumber_72 fun G3 hW4 => ?_
  refine J_al4 hx rfl rfl dX13_readNumber_73 ?_
  refine g13_7 hx hW4 (rfl : kd 371 = 19) fl_X13_255 dX13_readNumber_74 ?_
  refine J_il4 hx rfl rfl dX13_readNumber_77 ?_
  refine J_icmp_le hx 85 dX13_readNumber_78 rfl (fun h5 => ?_) (fun h5 => ?_)
  · replace h := pos h h5
    refine J_iconst hx (0 : Int32) dX13_readNumber_85 rfl ?_
    obtain rfl := Option.some.inj h
    exact J_zretW (b := false) hx hr hW4 dX13_readNumber_86 (Nat.le_refl 0) (Nat.le_refl 0)
  · replace h := neg h h5
    refine J_iconst hx (1 : Int32) dX13_readNumber_81 rfl ?_
    refine J_goto hx 86 dX13_readNumber_82 rfl ?_
    obtain rfl := Option.some.inj h
    exact J_zretW (b := true) hx hr hW4 dX13_readNumber_86 (Nat.le_refl 0) (Nat.le_refl 0)
def sX13_readNumber_16 : Nat → Wl → Int32 → Int32 → Int32 → Option (Bool × Wl)
  | 0, _, _, _, _ => none
  | n + 1, w, l1, l2, l3 => (if (l2 + (4 : Int32)) ≤ (w 371 7) then sX13_readNumber_66 w l1 l2 l3 else (sX13_here w ).bind (fun r2 => (sX13_in w r2 (48 : Int32) (57 : Int32)).bind (fun r4 => (if r4 = true then sX13_readNumber_16 n (wst w 371 7 ((w 371 7) + (1 : Int32))) l1 l2 ((((10 : Int32) * l3) + r2) - (48 : Int32)) else sX13_readNumber_66 w l1 l2 l3))))
theorem tX13_readNumber_16 {X : Cx} {B : Bs} {sz : Nat} {r : (Bool × Wl)} (hx : Fx X cX13_readNumber 4 RX13 2 0 0) (hr : Rt X (some .boolean) 0 0 (WΨ (xΓ X) B (some (.int (bI r.1))) r.2 sz)) : ∀ (n : Nat), ∀ (w : Wl) (l1 : Int32) (l2 : Int32) (l3 : Int32) {G : Gf} (hW : Wd (xΓ X) B w G) (h : sX13_readNumber_16 n w l1 l2 l3 = some r), J X 4 G sz 0 0 16 [some (.ref (B.1 + 371)), some (.int l1), some (.int l2), some (.int l3)] [] := by
  intro n
  induction n with
  | zero => intro w l1 l2 l3 G hW h; rw [sX13_readNumber_16.eq_1] at h; cases h
  | succ n ih =>
    intro w l1 l2 l3 G hW h
    rw [sX13_readNumber_16.eq_2] at h
    refine J_al4 hx rfl rfl dX13_readNumber_16 ?_
    refine g13_7 hx hW (rfl : kd 371 = 19) fl_X13_255 dX13_readNumber_17 ?_
    refine J_il4 hx rfl rfl dX13_readNumber_20 ?_
    refine J_iconst hx (4 : Int32) dX13_readNumber_21 rfl ?_
    refine J_iadd hx dX13_readNumber_22 ?_
    refine J_icmp_ge hx 66 dX13_readNumber_23 rfl (fun h1 => ?_) (fun h1 => ?_)
    · replace h := pos h h1
      exact tX13_readNumber_66 hx hr _ _ _ _  hW h
    · replace h := neg h h1
      refine J_al4 hx rfl rfl dX13_readNumber_26 ?_
      obtain ⟨r2, hr3, h⟩ := bnd h
      refine J_rdV hx (kX13_here  hW hr3) ml_X13_258 lk_X13_here (ci := 11) rfl (hW.obj (rfl : kd 371 = 19) (by decide) (by decide)) (rest := []) rfl rfl (by decide) (by decide) (Nat.le_of_ble_eq_true rfl) (Nat.le_refl 0) (Nat.le_refl 0) dX13_readNumber_27 ?_
      refine J_bipush hx (48 : Int32) dX13_readNumber_30 rfl ?_
      refine J_bipush hx (57 : Int32) dX13_readNumber_32 rfl ?_
      obtain ⟨r4, hr5, h⟩ := bnd h
      refine J_rdS hx (kX13_in  hW hr5) ml_X13_32 lk_X13_in (rest := []) rfl rfl (by decide) (by decide) (Nat.le_of_ble_eq_true rfl) (Nat.le_refl 0) (Nat.le_refl 0) dX13_readNumber_34 ?_
      refine J_bif_eq hx 66 dX13_readNumber_37 rfl (fun h6 => ?_) (fun h6 => ?_)
      · replace h := neg h (bft h6)
        exact tX13_readNumber_66 hx hr _ _ _ _  hW h
      · replace h := pos h h6
        refine J_bipush hx (10 : Int32) dX13_readNumber_40 rfl ?_
        refine J_il4 hx rfl rfl dX13_readNumber_42 ?_
        refine J_imul hx dX13_readNumber_43 ?_
        refine J_al4 hx rfl rfl dX13_readNumber_44 ?_
        refine J_rdV hx (kX13_here  hW hr3) ml_X13_258 lk_X13_here (ci := 11) rfl (hW.obj (rfl : kd 371 = 19) (by decide) (by decide)) (rest := [.int ((10 : Int32) * l3)]) rfl rfl (by decide) (by decide) (Nat.le_of_ble_eq_true rfl) (Nat.le_refl 0) (Nat.le_refl 0) dX13_readNumber_45 ?_
        refine J_iadd hx dX13_readNumber_48 ?_
        refine J_bipush hx (48 : Int32) dX13_readNumber_49 rfl ?_
        refine J_isub hx dX13_readNumber_51 ?_
        refine J_is4 hx rfl (by decide) (hc_of rfl) rfl dX13_readNumber_52 ?_
        refine J_al4 hx rfl rfl dX13_readNumber_53 ?_
        refine J_dup hx dX13_readNumber_54 ?_
        refine g13_7 hx hW (rfl : kd 371 = 19) fl_X13_255 dX13_readNumber_55 ?_
        refine J_iconst hx (1 : Int32) dX13_readNumber_58 rfl ?_
        refine J_iadd hx dX13_readNumber_59 ?_
        refine p13_7 hx hW (rfl : kd 371 = 19) fl_X13_255 dX13_readNumber_60 fun G7 hW8 => ?_
        refine J_goto hx 16 dX13_readNumber_63 rfl ?_
        exact ih _ _ _ _  hW8 h
def sX13_readNumber (w : Wl) (l1 : Int32) : Option (Bool × Wl) := (sX13_skips w ).bind (fun r1 => (if r1.1 = true then sX13_readNumber_16 FU r1.2 l1 (r1.2 371 7) (0 : Int32) else some (false, r1.2)))
theorem kX13_readNumber {l : Launch} {Γ : Gl} {B : Bs} {w : Wl} {G : Gf} {sz : Nat} {l1 : Int32} {r : (Bool × Wl)} (hW : Wd Γ B w G) (h : sX13_readNumber w l1 = some r) : CtW l Γ yX13_readNumber cX13_readNumber 4 (some .boolean) 2 [.ref (B.1 + 371), .int l1] G sz B (some (.int (bI r.1))) r.2 := by
  refine Ct.of rfl (Nat.le_of_ble_eq_true rfl) fun X hx hr hl hΓ hnm => ?_
  subst hl hΓ
  show J X 4 G sz 0 0 0 [some (.ref (B.1 + 371)), some (.int l1), none, none] []
  unfold sX13_readNumber at h
  refine J_al4 hx rfl rfl dX13_readNumber_0 ?_
  obtain ⟨r1, hr2, h⟩ := bnd h
  refine J_wrV hx (kX13_skips  hW hr2) ml_X13_292 lk_X13_skips (ci := 11) rfl (hW.obj (rfl : kd 371 = 19) (by decide) (by decide)) (rest := []) rfl rfl (by decide) (by decide) (Nat.le_of_ble_eq_true rfl) (Nat.le_refl 0) (Nat.le_refl 0) dX13_readNumber_1 fun G3 hW4 => ?_
  show J X 4 G3 sz 0 0 4 [some (.ref (B.1 + 371)), some (.int l1), none, none] [.int (bI r1.1)]
  refine J_bif_ne hx 9 dX13_readNumber_4 rfl (fun h5 => ?_) (fun h5 => ?_)
  · replace h := pos h h5
    refine J_al4 hx rfl rfl dX13_readNumber_9 ?_
    refine g13_7 hx hW4 (rfl : kd 371 = 19) fl_X13_255 dX13_readNumber_10 ?_
    refine J_is4 hx rfl (by decide) (hc_of rfl) rfl dX13_readNumber_13 ?_
    refine J_iconst hx (0 : Int32) dX13_readNumber_14 rfl ?_
    refine J_is4 hx rfl (by decide) (hc_of rfl) rfl dX13_readNumber_15 ?_
    exact tX13_readNumber_16 hx hr _ _ _ _ _  hW4 h
  · replace h := neg h (bft h5)
    refine J_iconst hx (0 : Int32) dX13_readNumber_7 rfl ?_
    obtain rfl := Option.some.inj h
    exact J_zretW (b := false) hx hr hW4 dX13_readNumber_8 (Nat.le_refl 0) (Nat.le_refl 0)
theorem dX13_manyFor_0 : decode cX13_manyFor 0 = .ok (.aload_n 0, 1) := by decide +kernel
theorem dX13_manyFor_1 : decode cX13_manyFor 1 = .ok (.getfield 289, 3) := by decide +kernel
theorem dX13_manyFor_4 : decode cX13_manyFor 4 = .ok (.tableswitch 56 0 8 #[52, 52, 56, 52, 56, 52, 56, 54, 52], 52) := by decide +kernel
theorem dX13_manyFor_56 : decode cX13_manyFor 56 = .ok (.iconst 1, 1) := by decide +kernel
theorem dX13_manyFor_57 : decode cX13_manyFor 57 = .ok (.ireturn, 1) := by decide +kernel
theorem dX13_manyFor_58 : decode cX13_manyFor 58 = .ok (.iconst 3, 1) := by decide +kernel
theorem dX13_manyFor_59 : decode cX13_manyFor 59 = .ok (.ireturn, 1) := by decide +kernel
theorem dX13_manyFor_60 : decode cX13_manyFor 60 = .ok (.iconst 2, 1) := by decide +kernel
theorem dX13_manyFor_61 : decode cX13_manyFor 61 = .ok (.ireturn, 1) := by decide +kernel
def sX13_manyFor (w : Wl) : Option Int32 := (if (w 371 8) = 0 then some (1 : Int32) else (if (w 371 8) = 1 then some (1 : Int32) else (if (w 371 8) = 2 then some (2 : Int32) else (if (w 371 8) = 3 then some (1 : Int32) else (if (w 371 8) = 4 then some (2 : Int32) else (if (w 371 8) = 5 then some (1 : Int32) else (if (w 371 8) = 6 then some (2 : Int32) else (if (w 371 8) = 7 then some (3 : Int32) else (if (w 371 8) = 8 then some (1 : Int32) else some (2 : Int32))))))))))
theorem kX13_manyFor {l : Launch} {Γ : Gl} {B : Bs} {w : Wl} {G : Gf} {sz : Nat} {r : Int32} (hW : Wd Γ B w G) (h : sX13_manyFor w  = some r) : CtR l Γ yX13_manyFor cX13_manyFor 1 (some .int) 0 [.ref (B.1 + 371)] G sz (.int (r)) := by
  refine Ct.of rfl (Nat.le_of_ble_eq_true rfl) fun X hx hr hl hΓ hnm => ?_
  subst hl hΓ
  show J X 1 G sz 0 0 0 [some (.ref (B.1 + 371))] []
  unfold sX13_manyFor at h
  refine J_al4 hx rfl rfl dX13_manyFor_0 ?_
  refine g13_8 hx hW (rfl : kd 371 = 19) fl_X13_289 dX13_manyFor_1 ?_
  by_cases h1 : (w 371 8) = 0
  · replace h := pos h h1
    refine J_swIn hx 56 dX13_manyFor_4 (by rw [h1]; decide) (by rw [h1]; decide) (by rw [h1]; rfl) rfl ?_
    refine J_iconst hx (1 : Int32) dX13_manyFor_56 rfl ?_
    exact J_iretR hx hr dX13_manyFor_57 (Nat.le_refl 0) (Nat.le_refl 0) (Option.some.inj h)
  replace h := neg h h1
  by_cases h2 : (w 371 8) = 1
  · replace h := pos h h2
    refine J_swIn hx 56 dX13_manyFor_4 (by rw [h2]; decide) (by rw [h2]; decide) (by rw [h2]; rfl) rfl ?_
    refine J_iconst hx (1 : Int32) dX13_manyFor_56 rfl ?_
    exact J_iretR hx hr dX13_manyFor_57 (Nat.le_refl 0) (Nat.le_refl 0) (Option.some.inj h)
  replace h := neg h h2
  by_cases h3 : (w 371 8) = 2
  · replace h := pos h h3
    refine J_swIn hx 60 dX13_manyFor_4 (by rw [h3]; decide) (by rw [h3]; decide) (by rw [h3]; rfl) rfl ?_
    refine J_iconst hx (2 : Int32) dX13_manyFor_60 rfl ?_
    exact J_iretR hx hr dX13_manyFor_61 (Nat.le_refl 0) (Nat.le_refl 0) (Option.some.inj h)
  replace h := neg h h3
  by_cases h4 : (w 371 8) = 3
  · replace h := pos h h4
    refine J_swIn hx 56 dX13_manyFor_4 (by rw [h4]; decide) (by rw [h4]; decide) (by rw [h4]; rfl) rfl ?_
    refine J_iconst hx (1 : Int32) dX13_manyFor_56 rfl ?_
    exact J_iretR hx hr dX13_manyFor_57 (Nat.le_refl 0) (Nat.le_refl 0) (Option.some.inj h)
  replace h := neg h h4
  by_cases h5 : (w 371 8) = 4
  · replace h := pos h h5
    refine J_swIn hx 60 dX13_manyFor_4 (by rw [h5]; decide) (by rw [h5]; decide) (by rw [h5]; rfl) rfl ?_
    refine J_iconst hx (2 : Int32) dX13_manyFor_60 rfl ?_
    exact J_iretR hx hr dX13_manyFor_61 (Nat.le_refl 0) (Nat.le_refl 0) (Option.some.inj h)
  replace h := neg h h5
  by_cases h6 : (w 371 8) = 5
  · replace h := pos h h6
    refine J_swIn hx 56 dX13_manyFor_4 (by rw [h6]; decide) (by rw [h6]; decide) (by rw [h6]; rfl) rfl ?_
    refine J_iconst hx (1 : Int32) dX13_manyFor_56 rfl ?_
    exact J_iretR hx hr dX13_manyFor_57 (Nat.le_refl 0) (Nat.le_refl 0) (Option.some.inj h)
  replace h := neg h h6
  by_cases h7 : (w 371 8) = 6
  · replace h := pos h h7
    refine J_swIn hx 60 dX13_manyFor_4 (by rw [h7]; decide) (by rw [h7]; decide) (by rw [h7]; rfl) rfl ?_
    refine J_iconst hx (2 : Int32) dX13_manyFor_60 rfl ?_
    exact J_iretR hx hr dX13_manyFor_61 (Nat.le_refl 0) (Nat.le_refl 0) (Option.some.inj h)
  replace h := neg h h7
  by_cases h8 : (w 371 8) = 7
  · replace h := pos h h8
    refine J_swIn hx 58 dX13_manyFor_4 (by rw [h8]; decide) (by rw [h8]; decide) (by rw [h8]; rfl) rfl ?_
    refine J_iconst hx (3 : Int32) dX13_manyFor_58 rfl ?_
    exact J_iretR hx hr dX13_manyFor_59 (Nat.le_refl 0) (Nat.le_refl 0) (Option.some.inj h)
  replace h := neg h h8
  by_cases h9 : (w 371 8) = 8
  · replace h := pos h h9
    refine J_swIn hx 56 dX13_manyFor_4 (by rw [h9]; decide) (by rw [h9]; decide) (by rw [h9]; rfl) rfl ?_
    refine J_iconst hx (1 : Int32) dX13_manyFor_56 rfl ?_
    exact J_iretR hx hr dX13_manyFor_57 (Nat.le_refl 0) (Nat.le_refl 0) (Option.some.inj h)
  replace h := neg h h9
  refine J_swOut hx 60 dX13_manyFor_4 (swD fun j jl jh e => by
      have hj : j = 0 ∨ j = 1 ∨ j = 2 ∨ j = 3 ∨ j = 4 ∨ j = 5 ∨ j = 6 ∨ j = 7 ∨ j = 8 := by omega
      rcases hj with rfl | rfl | rfl | rfl | rfl | rfl | rfl | rfl | rfl <;> first | exact h1 e | exact h2 e | exact h3 e | exact h4 e | exact h5 e | exact h6 e | exact h7 e | exact h8 e | exact h9 e) rfl ?_
  refine J_iconst hx (2 : Int32) dX13_manyFor_60 rfl ?_
  exact J_iretR hx hr dX13_manyFor_61 (Nat.le_refl 0) (Nat.le_refl 0) (Option.some.inj h)
theorem dX13_readCommand_0 : decode cX13_readCommand 0 = .ok (.aload_n 0, 1) := by decide +kernel
theorem dX13_readCommand_1 : decode cX13_readCommand 1 = .ok (.invokevirtual 296, 3) := by decide +kernel
theorem dX13_readCommand_4 : decode cX13_readCommand 4 = .ok (.ifCond .ne 5, 3) := by decide +kernel
theorem dX13_readCommand_7 : decode cX13_readCommand 7 = .ok (.iconst 0, 1) := by decide +kernel
theorem dX13_readCommand_8 : decode cX13_readCommand 8 = .ok (.ireturn, 1) := by decide +kernel
theorem dX13_readCommand_9 : decode cX13_readCommand 9 = .ok (.iconst 0, 1) := by decide +kernel
theorem dX13_readCommand_10 : decode cX13_readCommand 10 = .ok (.istore_n 1, 1) := by decide +kernel
theorem dX13_readCommand_11 : decode cX13_readCommand 11 = .ok (.iload_n 1, 1) := by decide +kernel
theorem dX13_readCommand_12 : decode cX13_readCommand 12 = .ok (.aload_n 0, 1) := by decide +kernel
theorem dX13_readCommand_13 : decode cX13_readCommand 13 = .ok (.invokevirtual 299, 3) := by decide +kernel
theorem dX13_readCommand_16 : decode cX13_readCommand 16 = .ok (.if_icmp .ge 19, 3) := by decide +kernel
theorem dX13_readCommand_19 : decode cX13_readCommand 19 = .ok (.aload_n 0, 1) := by decide +kernel
theorem dX13_readCommand_20 : decode cX13_readCommand 20 = .ok (.iload_n 1, 1) := by decide +kernel
theorem dX13_readCommand_21 : decode cX13_readCommand 21 = .ok (.invokevirtual 302, 3) := by decide +kernel
theorem dX13_readCommand_24 : decode cX13_readCommand 24 = .ok (.ifCond .ne 5, 3) := by decide +kernel
theorem dX13_readCommand_27 : decode cX13_readCommand 27 = .ok (.iconst 0, 1) := by decide +kernel
theorem dX13_readCommand_28 : decode cX13_readCommand 28 = .ok (.ireturn, 1) := by decide +kernel
theorem dX13_readCommand_29 : decode cX13_readCommand 29 = .ok (.iinc 1 1, 3) := by decide +kernel
theorem dX13_readCommand_32 : decode cX13_readCommand 32 = .ok (.goto (-21), 3) := by decide +kernel
theorem dX13_readCommand_35 : decode cX13_readCommand 35 = .ok (.aload_n 0, 1) := by decide +kernel
theorem dX13_readCommand_36 : decode cX13_readCommand 36 = .ok (.invokevirtual 292, 3) := by decide +kernel
theorem dX13_readCommand_39 : decode cX13_readCommand 39 = .ok (.istore_n 1, 1) := by decide +kernel
theorem dX13_readCommand_40 : decode cX13_readCommand 40 = .ok (.aload_n 0, 1) := by decide +kernel
theorem dX13_readCommand_41 : decode cX13_readCommand 41 = .ok (.invokevirtual 258, 3) := by decide +kernel
theorem dX13_readCommand_44 : decode cX13_readCommand 44 = .ok (.bipush 59, 2) := by decide +kernel
theorem dX13_readCommand_46 : decode cX13_readCommand 46 = .ok (.if_icmp .eq 5, 3) := by decide +kernel
theorem dX13_readCommand_49 : decode cX13_readCommand 49 = .ok (.iconst 0, 1) := by decide +kernel
theorem dX13_readCommand_50 : decode cX13_readCommand 50 = .ok (.ireturn, 1) := by decide +kernel
theorem dX13_readCommand_51 : decode cX13_readCommand 51 = .ok (.aload_n 0, 1) := by decide +kernel
theorem dX13_readCommand_52 : decode cX13_readCommand 52 = .ok (.dup, 1) := by decide +kernel
theorem dX13_readCommand_53 : decode cX13_readCommand 53 = .ok (.getfield 255, 3) := by decide +kernel
theorem dX13_readCommand_56 : decode cX13_readCommand 56 = .ok (.iconst 1, 1) := by decide +kernel
theorem dX13_readCommand_57 : decode cX13_readCommand 57 = .ok (.iadd, 1) := by decide +kernel
theorem dX13_readCommand_58 : decode cX13_readCommand 58 = .ok (.putfield 255, 3) := by decide +kernel
theorem dX13_readCommand_61 : decode cX13_readCommand 61 = .ok (.iconst 1, 1) := by decide +kernel
theorem dX13_readCommand_62 : decode cX13_readCommand 62 = .ok (.ireturn, 1) := by decide +kernel
def sX13_readCommand_11 : Nat → Wl → Int32 → Option (Bool × Wl)
  | 0, _, _ => none
  | n + 1, w, l1 => (sX13_manyFor w ).bind (fun r1 => (if r1 ≤ l1 then (sX13_skips w ).bind (fun r4 => (sX13_here r4.2 ).bind (fun r8 => (if r8 = (59 : Int32) then some (true, (wst r4.2 371 7 ((r4.2 371 7) + (1 : Int32)))) else some (false, r4.2)))) else (sX13_readNumber w l1).bind (fun r13 => (if r13.1 = true then sX13_readCommand_11 n r13.2 (l1 + 1) else some (false, r13.2)))))
theorem tX13_readCommand_11 {X : Cx} {B : Bs} {sz : Nat} {r : (Bool × Wl)} (hx : Fx X cX13_readCommand 2 RX13 3 0 0) (hr : Rt X (some .boolean) 0 0 (WΨ (xΓ X) B (some (.int (bI r.1))) r.2 sz)) : ∀ (n : Nat), ∀ (w : Wl) (l1 : Int32) {G : Gf} (hW : Wd (xΓ X) B w G) (h : sX13_readCommand_11 n w l1 = some r), J X 2 G sz 0 0 11 [some (.ref (B.1 + 371)), some (.int l1)] [] := by
  intro n
  induction n with
  | zero => intro w l1 G hW h; rw [sX13_readCommand_11.eq_1] at h; cases h
  | succ n ih =>
    intro w l1 G hW h
    rw [sX13_readCommand_11.eq_2] at h
    refine J_il4 hx rfl rfl dX13_readCommand_11 ?_
    refine J_al4 hx rfl rfl dX13_readCommand_12 ?_
    obtain ⟨r1, hr2, h⟩ := bnd h
    refine J_rdV hx (kX13_manyFor  hW hr2) ml_X13_299 lk_X13_manyFor (ci := 11) rfl (hW.obj (rfl : kd 371 = 19) (by decide) (by decide)) (rest := [.int l1]) rfl rfl (by decide) (by decide) (Nat.le_of_ble_eq_true rfl) (Nat.le_refl 0) (Nat.le_refl 0) dX13_readCommand_13 ?_
    refine J_icmp_ge hx 35 dX13_readCommand_16 rfl (fun h3 => ?_) (fun h3 => ?_)
    · replace h := pos h h3
      refine J_al4 hx rfl rfl dX13_readCommand_35 ?_
      obtain ⟨r4, hr5, h⟩ := bnd h
      refine J_wrV hx (kX13_skips  hW hr5) ml_X13_292 lk_X13_skips (ci := 11) rfl (hW.obj (rfl : kd 371 = 19) (by decide) (by decide)) (rest := []) rfl rfl (by decide) (by decide) (Nat.le_of_ble_eq_true rfl) (Nat.le_refl 0) (Nat.le_refl 0) dX13_readCommand_36 fun G6 hW7 => ?_
      show J X 2 G6 sz 0 0 39 [some (.ref (B.1 + 371)), some (.int l1)] [.int (bI r4.1)]
      refine J_is4 hx rfl (by decide) (hc_of rfl) rfl dX13_readCommand_39 ?_
      refine J_al4 hx rfl rfl dX13_readCommand_40 ?_
      obtain ⟨r8, hr9, h⟩ := bnd h
      refine J_rdV hx (kX13_here  hW7 hr9) ml_X13_258 lk_X13_here (ci := 11) rfl (hW7.obj (rfl : kd 371 = 19) (by decide) (by decide)) (rest := []) rfl rfl (by decide) (by decide) (Nat.le_of_ble_eq_true rfl) (Nat.le_refl 0) (Nat.le_refl 0) dX13_readCommand_41 ?_
      refine J_bipush hx (59 : Int32) dX13_readCommand_44 rfl ?_
      refine J_icmp_eq hx 51 dX13_readCommand_46 rfl (fun h10 => ?_) (fun h10 => ?_)
      · replace h := pos h h10
        refine J_al4 hx rfl rfl dX13_readCommand_51 ?_
        refine J_dup hx dX13_readCommand_52 ?_
        refine g13_7 hx hW7 (rfl : kd 371 = 19) fl_X13_255 dX13_readCommand_53 ?_
        refine J_iconst hx (1 : Int32) dX13_readCommand_56 rfl ?_
        refine J_iadd hx dX13_readCommand_57 ?_
        refine p13_7 hx hW7 (rfl : kd 371 = 19) fl_X13_255 dX13_readCommand_58 fun G11 hW12 => ?_
        refine J_iconst hx (1 : Int32) dX13_readCommand_61 rfl ?_
        obtain rfl := Option.some.inj h
        exact J_zretW (b := true) hx hr hW12 dX13_readCommand_62 (Nat.le_refl 0) (Nat.le_refl 0)
      · replace h := neg h h10
        refine J_iconst hx (0 : Int32) dX13_readCommand_49 rfl ?_
        obtain rfl := Option.some.inj h
        exact J_zretW (b := false) hx hr hW7 dX13_readCommand_50 (Nat.le_refl 0) (Nat.le_refl 0)
    · replace h := neg h h3
      refine J_al4 hx rfl rfl dX13_readCommand_19 ?_
      refine J_il4 hx rfl rfl dX13_readCommand_20 ?_
      obtain ⟨r13, hr14, h⟩ := bnd h
      refine J_wrV hx (kX13_readNumber  hW hr14) ml_X13_302 lk_X13_readNumber (ci := 11) rfl (hW.obj (rfl : kd 371 = 19) (by decide) (by decide)) (rest := []) rfl rfl (by decide) (by decide) (Nat.le_of_ble_eq_true rfl) (Nat.le_refl 0) (Nat.le_refl 0) dX13_readCommand_21 fun G15 hW16 => ?_
      show J X 2 G15 sz 0 0 24 [some (.ref (B.1 + 371)), some (.int l1)] [.int (bI r13.1)]
      refine J_bif_ne hx 29 dX13_readCommand_24 rfl (fun h17 => ?_) (fun h17 => ?_)
      · replace h := pos h h17
        refine J_iinc hx (v' := (l1 + 1)) rfl rfl (by decide) (hc_of rfl) rfl dX13_readCommand_29 ?_
        refine J_goto hx 11 dX13_readCommand_32 rfl ?_
        exact ih _ _  hW16 h
      · replace h := neg h (bft h17)
        refine J_iconst hx (0 : Int32) dX13_readCommand_27 rfl ?_
        obtain rfl := Option.some.inj h
        exact J_zretW (b := false) hx hr hW16 dX13_readCommand_28 (Nat.le_refl 0) (Nat.le_refl 0)
def sX13_readCommand (w : Wl) : Option (Bool × Wl) := (sX13_readWord w ).bind (fun r1 => (if r1.1 = true then sX13_readCommand_11 FU r1.2 (0 : Int32) else some (false, r1.2)))
theorem kX13_readCommand {l : Launch} {Γ : Gl} {B : Bs} {w : Wl} {G : Gf} {sz : Nat} {r : (Bool × Wl)} (hW : Wd Γ B w G) (h : sX13_readCommand w  = some r) : CtW l Γ yX13_readCommand cX13_readCommand 2 (some .boolean) 3 [.ref (B.1 + 371)] G sz B (some (.int (bI r.1))) r.2 := by
  refine Ct.of rfl (Nat.le_of_ble_eq_true rfl) fun X hx hr hl hΓ hnm => ?_
  subst hl hΓ
  show J X 2 G sz 0 0 0 [some (.ref (B.1 + 371)), none] []
  unfold sX13_readCommand at h
  refine J_al4 hx rfl rfl dX13_readCommand_0 ?_
  obtain ⟨r1, hr2, h⟩ := bnd h
  refine J_wrV hx (kX13_readWord  hW hr2) ml_X13_296 lk_X13_readWord (ci := 11) rfl (hW.obj (rfl : kd 371 = 19) (by decide) (by decide)) (rest := []) rfl rfl (by decide) (by decide) (Nat.le_of_ble_eq_true rfl) (Nat.le_refl 0) (Nat.le_refl 0) dX13_readCommand_1 fun G3 hW4 => ?_
  show J X 2 G3 sz 0 0 4 [some (.ref (B.1 + 371)), none] [.int (bI r1.1)]
  refine J_bif_ne hx 9 dX13_readCommand_4 rfl (fun h5 => ?_) (fun h5 => ?_)
  · replace h := pos h h5
    refine J_iconst hx (0 : Int32) dX13_readCommand_9 rfl ?_
    refine J_is4 hx rfl (by decide) (hc_of rfl) rfl dX13_readCommand_10 ?_
    exact tX13_readCommand_11 hx hr _ _ _  hW4 h
  · replace h := neg h (bft h5)
    refine J_iconst hx (0 : Int32) dX13_readCommand_7 rfl ?_
    obtain rfl := Option.some.inj h
    exact J_zretW (b := false) hx hr hW4 dX13_readCommand_8 (Nat.le_refl 0) (Nat.le_refl 0)
theorem dX13_isGood_0 : decode cX13_isGood 0 = .ok (.aload_n 0, 1) := by decide +kernel
theorem dX13_isGood_1 : decode cX13_isGood 1 = .ok (.iconst 0, 1) := by decide +kernel
theorem dX13_isGood_2 : decode cX13_isGood 2 = .ok (.putfield 255, 3) := by decide +kernel
theorem dX13_isGood_5 : decode cX13_isGood 5 = .ok (.iconst 1, 1) := by decide +kernel
theorem dX13_isGood_6 : decode cX13_isGood 6 = .ok (.istore_n 1, 1) := by decide +kernel
theorem dX13_isGood_7 : decode cX13_isGood 7 = .ok (.aload_n 0, 1) := by decide +kernel
theorem dX13_isGood_8 : decode cX13_isGood 8 = .ok (.invokevirtual 292, 3) := by decide +kernel
theorem dX13_isGood_11 : decode cX13_isGood 11 = .ok (.istore_n 2, 1) := by decide +kernel
theorem dX13_isGood_12 : decode cX13_isGood 12 = .ok (.iload_n 1, 1) := by decide +kernel
theorem dX13_isGood_13 : decode cX13_isGood 13 = .ok (.ifCond .eq 39, 3) := by decide +kernel
theorem dX13_isGood_16 : decode cX13_isGood 16 = .ok (.aload_n 0, 1) := by decide +kernel
theorem dX13_isGood_17 : decode cX13_isGood 17 = .ok (.getfield 255, 3) := by decide +kernel
theorem dX13_isGood_20 : decode cX13_isGood 20 = .ok (.aload_n 0, 1) := by decide +kernel
theorem dX13_isGood_21 : decode cX13_isGood 21 = .ok (.getfield 252, 3) := by decide +kernel
theorem dX13_isGood_24 : decode cX13_isGood 24 = .ok (.if_icmp .ge 28, 3) := by decide +kernel
theorem dX13_isGood_27 : decode cX13_isGood 27 = .ok (.aload_n 0, 1) := by decide +kernel
theorem dX13_isGood_28 : decode cX13_isGood 28 = .ok (.invokevirtual 305, 3) := by decide +kernel
theorem dX13_isGood_31 : decode cX13_isGood 31 = .ok (.istore_n 1, 1) := by decide +kernel
theorem dX13_isGood_32 : decode cX13_isGood 32 = .ok (.iload_n 1, 1) := by decide +kernel
theorem dX13_isGood_33 : decode cX13_isGood 33 = .ok (.ifCond .eq 14, 3) := by decide +kernel
theorem dX13_isGood_36 : decode cX13_isGood 36 = .ok (.aload_n 0, 1) := by decide +kernel
theorem dX13_isGood_37 : decode cX13_isGood 37 = .ok (.invokevirtual 292, 3) := by decide +kernel
theorem dX13_isGood_40 : decode cX13_isGood 40 = .ok (.ifCond .eq 7, 3) := by decide +kernel
theorem dX13_isGood_43 : decode cX13_isGood 43 = .ok (.iconst 1, 1) := by decide +kernel
theorem dX13_isGood_44 : decode cX13_isGood 44 = .ok (.goto 4, 3) := by decide +kernel
theorem dX13_isGood_47 : decode cX13_isGood 47 = .ok (.iconst 0, 1) := by decide +kernel
theorem dX13_isGood_48 : decode cX13_isGood 48 = .ok (.istore_n 2, 1) := by decide +kernel
theorem dX13_isGood_49 : decode cX13_isGood 49 = .ok (.goto (-37), 3) := by decide +kernel
theorem dX13_isGood_52 : decode cX13_isGood 52 = .ok (.iload_n 1, 1) := by decide +kernel
theorem dX13_isGood_53 : decode cX13_isGood 53 = .ok (.ireturn, 1) := by decide +kernel
def sX13_isGood_12 : Nat → Wl → Int32 → Option (Bool × Wl)
  | 0, _, _ => none
  | n + 1, w, l1 => (if l1 = 0 then (if l1 = 0 then some (false, w) else (if l1 = 1 then some (true, w) else none)) else (if (w 371 4) ≤ (w 371 7) then (if l1 = 0 then some (false, w) else (if l1 = 1 then some (true, w) else none)) else (sX13_readCommand w ).bind (fun r7 => (if r7.1 = true then (sX13_skips r7.2 ).bind (fun r12 => (if r12.1 = true then sX13_isGood_12 n r12.2 (bI r7.1) else sX13_isGood_12 n r12.2 (bI r7.1))) else sX13_isGood_12 n r7.2 (bI r7.1)))))
theorem tX13_isGood_12 {X : Cx} {B : Bs} {sz : Nat} {r : (Bool × Wl)} (hx : Fx X cX13_isGood 3 RX13 4 0 0) (hr : Rt X (some .boolean) 0 0 (WΨ (xΓ X) B (some (.int (bI r.1))) r.2 sz)) : ∀ (n : Nat), ∀ (w : Wl) (l1 : Int32) {G : Gf} (hW : Wd (xΓ X) B w G) (h : sX13_isGood_12 n w l1 = some r), J X 3 G sz 0 0 12 [some (.ref (B.1 + 371)), some (.int l1), none] [] := by
  intro n
  induction n with
  | zero => intro w l1 G hW h; rw [sX13_isGood_12.eq_1] at h; cases h
  | succ n ih =>
    intro w l1 G hW h
    rw [sX13_isGood_12.eq_2] at h
    refine J_il4 hx rfl rfl dX13_isGood_12 ?_
    refine J_if_eq hx 52 dX13_isGood_13 rfl (fun h1 => ?_) (fun h1 => ?_)
    · replace h := pos h h1
      refine J_il4 hx rfl rfl dX13_isGood_52 ?_
      by_cases h2 : l1 = 0
      · replace h := pos h h2
        refine J_val (w := bI false) h2 ?_
        obtain rfl := Option.some.inj h
        exact J_zretW (b := false) hx hr hW dX13_isGood_53 (Nat.le_refl 0) (Nat.le_refl 0)
      replace h := neg h h2
      obtain ⟨h3, h⟩ := grd h
      refine J_val (w := bI true) h3 ?_
      obtain rfl := Option.some.inj h
      exact J_zretW (b := true) hx hr hW dX13_isGood_53 (Nat.le_refl 0) (Nat.le_refl 0)
    · replace h := neg h h1
      refine J_al4 hx rfl rfl dX13_isGood_16 ?_
      refine g13_7 hx hW (rfl : kd 371 = 19) fl_X13_255 dX13_isGood_17 ?_
      refine J_al4 hx rfl rfl dX13_isGood_20 ?_
      refine g13_4 hx hW (rfl : kd 371 = 19) fl_X13_252 dX13_isGood_21 ?_
      refine J_icmp_ge hx 52 dX13_isGood_24 rfl (fun h4 => ?_) (fun h4 => ?_)
      · replace h := pos h h4
        refine J_il4 hx rfl rfl dX13_isGood_52 ?_
        by_cases h5 : l1 = 0
        · replace h := pos h h5
          refine J_val (w := bI false) h5 ?_
          obtain rfl := Option.some.inj h
          exact J_zretW (b := false) hx hr hW dX13_isGood_53 (Nat.le_refl 0) (Nat.le_refl 0)
        replace h := neg h h5
        obtain ⟨h6, h⟩ := grd h
        refine J_val (w := bI true) h6 ?_
        obtain rfl := Option.some.inj h
        exact J_zretW (b := true) hx hr hW dX13_isGood_53 (Nat.le_refl 0) (Nat.le_refl 0)
      · replace h := neg h h4
        refine J_al4 hx rfl rfl dX13_isGood_27 ?_
        obtain ⟨r7, hr8, h⟩ := bnd h
        refine J_wrV hx (kX13_readCommand  hW hr8) ml_X13_305 lk_X13_readCommand (ci := 11) rfl (hW.obj (rfl : kd 371 = 19) (by decide) (by decide)) (rest := []) rfl rfl (by decide) (by decide) (Nat.le_of_ble_eq_true rfl) (Nat.le_refl 0) (Nat.le_refl 0) dX13_isGood_28 fun G9 hW10 => ?_
        show J X 3 G9 sz 0 0 31 [some (.ref (B.1 + 371)), some (.int l1), none] [.int (bI r7.1)]
        refine J_is4 hx rfl (by decide) (hc_of rfl) rfl dX13_isGood_31 ?_
        refine J_il4 hx rfl rfl dX13_isGood_32 ?_
        refine J_bif_eq hx 47 dX13_isGood_33 rfl (fun h11 => ?_) (fun h11 => ?_)
        · replace h := neg h (bft h11)
          refine J_iconst hx (0 : Int32) dX13_isGood_47 rfl ?_
          refine J_is4 hx rfl (by decide) (hc_of rfl) rfl dX13_isGood_48 ?_
          refine J_goto hx 12 dX13_isGood_49 rfl ?_
          refine J_lw (ls' := [some (.ref (B.1 + 371)), some (.int (bI r7.1)), none]) (lwS (lwS (lwN lwZ))) ?_
          exact ih _ _  hW10 h
        · replace h := pos h h11
          refine J_al4 hx rfl rfl dX13_isGood_36 ?_
          obtain ⟨r12, hr13, h⟩ := bnd h
          refine J_wrV hx (kX13_skips  hW10 hr13) ml_X13_292 lk_X13_skips (ci := 11) rfl (hW10.obj (rfl : kd 371 = 19) (by decide) (by decide)) (rest := []) rfl rfl (by decide) (by decide) (Nat.le_of_ble_eq_true rfl) (Nat.le_refl 0) (Nat.le_refl 0) dX13_isGood_37 fun G14 hW15 => ?_
          show J X 3 G14 sz 0 0 40 [some (.ref (B.1 + 371)), some (.int (bI r7.1)), none] [.int (bI r12.1)]
          refine J_bif_eq hx 47 dX13_isGood_40 rfl (fun h16 => ?_) (fun h16 => ?_)
          · replace h := neg h (bft h16)
            refine J_iconst hx (0 : Int32) dX13_isGood_47 rfl ?_
            refine J_is4 hx rfl (by decide) (hc_of rfl) rfl dX13_isGood_48 ?_
            refine J_goto hx 12 dX13_isGood_49 rfl ?_
            refine J_lw (ls' := [some (.ref (B.1 + 371)), some (.int (bI r7.1)), none]) (lwS (lwS (lwN lwZ))) ?_
            exact ih _ _  hW15 h
          · replace h := pos h h16
            refine J_iconst hx (1 : Int32) dX13_isGood_43 rfl ?_
            refine J_goto hx 48 dX13_isGood_44 rfl ?_
            refine J_is4 hx rfl (by decide) (hc_of rfl) rfl dX13_isGood_48 ?_
            refine J_goto hx 12 dX13_isGood_49 rfl ?_
            refine J_lw (ls' := [some (.ref (B.1 + 371)), some (.int (bI r7.1)), none]) (lwS (lwS (lwN lwZ))) ?_
            exact ih _ _  hW15 h
def sX13_isGood (w : Wl) : Option (Bool × Wl) := (sX13_skips (wst w 371 7 (0 : Int32)) ).bind (fun r3 => sX13_isGood_12 FU r3.2 (1 : Int32))
theorem kX13_isGood {l : Launch} {Γ : Gl} {B : Bs} {w : Wl} {G : Gf} {sz : Nat} {r : (Bool × Wl)} (hW : Wd Γ B w G) (h : sX13_isGood w  = some r) : CtW l Γ yX13_isGood cX13_isGood 3 (some .boolean) 4 [.ref (B.1 + 371)] G sz B (some (.int (bI r.1))) r.2 := by
  refine Ct.of rfl (Nat.le_of_ble_eq_true rfl) fun X hx hr hl hΓ hnm => ?_
  subst hl hΓ
  show J X 3 G sz 0 0 0 [some (.ref (B.1 + 371)), none, none] []
  unfold sX13_isGood at h
  refine J_al4 hx rfl rfl dX13_isGood_0 ?_
  refine J_iconst hx (0 : Int32) dX13_isGood_1 rfl ?_
  refine p13_7 hx hW (rfl : kd 371 = 19) fl_X13_255 dX13_isGood_2 fun G1 hW2 => ?_
  refine J_iconst hx (1 : Int32) dX13_isGood_5 rfl ?_
  refine J_is4 hx rfl (by decide) (hc_of rfl) rfl dX13_isGood_6 ?_
  refine J_al4 hx rfl rfl dX13_isGood_7 ?_
  obtain ⟨r3, hr4, h⟩ := bnd h
  refine J_wrV hx (kX13_skips  hW2 hr4) ml_X13_292 lk_X13_skips (ci := 11) rfl (hW2.obj (rfl : kd 371 = 19) (by decide) (by decide)) (rest := []) rfl rfl (by decide) (by decide) (Nat.le_of_ble_eq_true rfl) (Nat.le_refl 0) (Nat.le_refl 0) dX13_isGood_8 fun G5 hW6 => ?_
  show J X 3 G5 sz 0 0 11 [some (.ref (B.1 + 371)), some (.int (1 : Int32)), none] [.int (bI r3.1)]
  refine J_is4 hx rfl (by decide) (hc_of rfl) rfl dX13_isGood_11 ?_
  refine J_lw (ls' := [some (.ref (B.1 + 371)), some (.int (1 : Int32)), none]) (lwS (lwS (lwN lwZ))) ?_
  exact tX13_isGood_12 hx hr _ _ _  hW6 h
theorem dX13_whyNot_0 : decode cX13_whyNot 0 = .ok (.aload_n 0, 1) := by decide +kernel
theorem dX13_whyNot_1 : decode cX13_whyNot 1 = .ok (.getfield 289, 3) := by decide +kernel
theorem dX13_whyNot_4 : decode cX13_whyNot 4 = .ok (.tableswitch 167 0 7 #[48, 59, 70, 87, 98, 115, 126, 144], 48) := by decide +kernel
theorem dX13_whyNot_52 : decode cX13_whyNot 52 = .ok (.aload_n 0, 1) := by decide +kernel
theorem dX13_whyNot_53 : decode cX13_whyNot 53 = .ok (.aload_n 0, 1) := by decide +kernel
theorem dX13_whyNot_54 : decode cX13_whyNot 54 = .ok (.getfield 22, 3) := by decide +kernel
theorem dX13_whyNot_57 : decode cX13_whyNot 57 = .ok (.iconst 0, 1) := by decide +kernel
theorem dX13_whyNot_58 : decode cX13_whyNot 58 = .ok (.iaload, 1) := by decide +kernel
theorem dX13_whyNot_59 : decode cX13_whyNot 59 = .ok (.invokevirtual 97, 3) := by decide +kernel
theorem dX13_whyNot_62 : decode cX13_whyNot 62 = .ok (.ireturn, 1) := by decide +kernel
theorem dX13_whyNot_63 : decode cX13_whyNot 63 = .ok (.aload_n 0, 1) := by decide +kernel
theorem dX13_whyNot_64 : decode cX13_whyNot 64 = .ok (.aload_n 0, 1) := by decide +kernel
theorem dX13_whyNot_65 : decode cX13_whyNot 65 = .ok (.getfield 22, 3) := by decide +kernel
theorem dX13_whyNot_68 : decode cX13_whyNot 68 = .ok (.iconst 0, 1) := by decide +kernel
theorem dX13_whyNot_69 : decode cX13_whyNot 69 = .ok (.iaload, 1) := by decide +kernel
theorem dX13_whyNot_70 : decode cX13_whyNot 70 = .ok (.invokevirtual 106, 3) := by decide +kernel
theorem dX13_whyNot_73 : decode cX13_whyNot 73 = .ok (.ireturn, 1) := by decide +kernel
theorem dX13_whyNot_74 : decode cX13_whyNot 74 = .ok (.aload_n 0, 1) := by decide +kernel
theorem dX13_whyNot_75 : decode cX13_whyNot 75 = .ok (.aload_n 0, 1) := by decide +kernel
theorem dX13_whyNot_76 : decode cX13_whyNot 76 = .ok (.getfield 22, 3) := by decide +kernel
theorem dX13_whyNot_79 : decode cX13_whyNot 79 = .ok (.iconst 0, 1) := by decide +kernel
theorem dX13_whyNot_80 : decode cX13_whyNot 80 = .ok (.iaload, 1) := by decide +kernel
theorem dX13_whyNot_81 : decode cX13_whyNot 81 = .ok (.aload_n 0, 1) := by decide +kernel
theorem dX13_whyNot_82 : decode cX13_whyNot 82 = .ok (.getfield 22, 3) := by decide +kernel
theorem dX13_whyNot_85 : decode cX13_whyNot 85 = .ok (.iconst 1, 1) := by decide +kernel
theorem dX13_whyNot_86 : decode cX13_whyNot 86 = .ok (.iaload, 1) := by decide +kernel
theorem dX13_whyNot_87 : decode cX13_whyNot 87 = .ok (.invokevirtual 118, 3) := by decide +kernel
theorem dX13_whyNot_90 : decode cX13_whyNot 90 = .ok (.ireturn, 1) := by decide +kernel
theorem dX13_whyNot_91 : decode cX13_whyNot 91 = .ok (.aload_n 0, 1) := by decide +kernel
theorem dX13_whyNot_92 : decode cX13_whyNot 92 = .ok (.aload_n 0, 1) := by decide +kernel
theorem dX13_whyNot_93 : decode cX13_whyNot 93 = .ok (.getfield 22, 3) := by decide +kernel
theorem dX13_whyNot_96 : decode cX13_whyNot 96 = .ok (.iconst 0, 1) := by decide +kernel
theorem dX13_whyNot_97 : decode cX13_whyNot 97 = .ok (.iaload, 1) := by decide +kernel
theorem dX13_whyNot_98 : decode cX13_whyNot 98 = .ok (.invokevirtual 124, 3) := by decide +kernel
theorem dX13_whyNot_101 : decode cX13_whyNot 101 = .ok (.ireturn, 1) := by decide +kernel
theorem dX13_whyNot_102 : decode cX13_whyNot 102 = .ok (.aload_n 0, 1) := by decide +kernel
theorem dX13_whyNot_103 : decode cX13_whyNot 103 = .ok (.aload_n 0, 1) := by decide +kernel
theorem dX13_whyNot_104 : decode cX13_whyNot 104 = .ok (.getfield 22, 3) := by decide +kernel
theorem dX13_whyNot_107 : decode cX13_whyNot 107 = .ok (.iconst 0, 1) := by decide +kernel
theorem dX13_whyNot_108 : decode cX13_whyNot 108 = .ok (.iaload, 1) := by decide +kernel
theorem dX13_whyNot_109 : decode cX13_whyNot 109 = .ok (.aload_n 0, 1) := by decide +kernel
theorem dX13_whyNot_110 : decode cX13_whyNot 110 = .ok (.getfield 22, 3) := by decide +kernel
theorem dX13_whyNot_113 : decode cX13_whyNot 113 = .ok (.iconst 1, 1) := by decide +kernel
theorem dX13_whyNot_114 : decode cX13_whyNot 114 = .ok (.iaload, 1) := by decide +kernel
theorem dX13_whyNot_115 : decode cX13_whyNot 115 = .ok (.invokevirtual 133, 3) := by decide +kernel
theorem dX13_whyNot_118 : decode cX13_whyNot 118 = .ok (.ireturn, 1) := by decide +kernel
theorem dX13_whyNot_119 : decode cX13_whyNot 119 = .ok (.aload_n 0, 1) := by decide +kernel
theorem dX13_whyNot_120 : decode cX13_whyNot 120 = .ok (.aload_n 0, 1) := by decide +kernel
theorem dX13_whyNot_121 : decode cX13_whyNot 121 = .ok (.getfield 22, 3) := by decide +kernel
theorem dX13_whyNot_124 : decode cX13_whyNot 124 = .ok (.iconst 0, 1) := by decide +kernel
theorem dX13_whyNot_125 : decode cX13_whyNot 125 = .ok (.iaload, 1) := by decide +kernel
theorem dX13_whyNot_126 : decode cX13_whyNot 126 = .ok (.invokevirtual 139, 3) := by decide +kernel
theorem dX13_whyNot_129 : decode cX13_whyNot 129 = .ok (.ireturn, 1) := by decide +kernel
theorem dX13_whyNot_130 : decode cX13_whyNot 130 = .ok (.aload_n 0, 1) := by decide +kernel
theorem dX13_whyNot_131 : decode cX13_whyNot 131 = .ok (.aload_n 0, 1) := by decide +kernel
theorem dX13_whyNot_132 : decode cX13_whyNot 132 = .ok (.getfield 22, 3) := by decide +kernel
theorem dX13_whyNot_135 : decode cX13_whyNot 135 = .ok (.iconst 0, 1) := by decide +kernel
theorem dX13_whyNot_136 : decode cX13_whyNot 136 = .ok (.iaload, 1) := by decide +kernel
theorem dX13_whyNot_137 : decode cX13_whyNot 137 = .ok (.aload_n 0, 1) := by decide +kernel
theorem dX13_whyNot_138 : decode cX13_whyNot 138 = .ok (.getfield 22, 3) := by decide +kernel
theorem dX13_whyNot_141 : decode cX13_whyNot 141 = .ok (.iconst 1, 1) := by decide +kernel
theorem dX13_whyNot_142 : decode cX13_whyNot 142 = .ok (.iaload, 1) := by decide +kernel
theorem dX13_whyNot_143 : decode cX13_whyNot 143 = .ok (.iconst (-1), 1) := by decide +kernel
theorem dX13_whyNot_144 : decode cX13_whyNot 144 = .ok (.invokevirtual 174, 3) := by decide +kernel
theorem dX13_whyNot_147 : decode cX13_whyNot 147 = .ok (.ireturn, 1) := by decide +kernel
theorem dX13_whyNot_148 : decode cX13_whyNot 148 = .ok (.aload_n 0, 1) := by decide +kernel
theorem dX13_whyNot_149 : decode cX13_whyNot 149 = .ok (.aload_n 0, 1) := by decide +kernel
theorem dX13_whyNot_150 : decode cX13_whyNot 150 = .ok (.getfield 22, 3) := by decide +kernel
theorem dX13_whyNot_153 : decode cX13_whyNot 153 = .ok (.iconst 0, 1) := by decide +kernel
theorem dX13_whyNot_154 : decode cX13_whyNot 154 = .ok (.iaload, 1) := by decide +kernel
theorem dX13_whyNot_155 : decode cX13_whyNot 155 = .ok (.aload_n 0, 1) := by decide +kernel
theorem dX13_whyNot_156 : decode cX13_whyNot 156 = .ok (.getfield 22, 3) := by decide +kernel
theorem dX13_whyNot_159 : decode cX13_whyNot 159 = .ok (.iconst 1, 1) := by decide +kernel
theorem dX13_whyNot_160 : decode cX13_whyNot 160 = .ok (.iaload, 1) := by decide +kernel
theorem dX13_whyNot_161 : decode cX13_whyNot 161 = .ok (.aload_n 0, 1) := by decide +kernel
theorem dX13_whyNot_162 : decode cX13_whyNot 162 = .ok (.getfield 22, 3) := by decide +kernel
theorem dX13_whyNot_165 : decode cX13_whyNot 165 = .ok (.iconst 2, 1) := by decide +kernel
theorem dX13_whyNot_166 : decode cX13_whyNot 166 = .ok (.iaload, 1) := by decide +kernel
theorem dX13_whyNot_167 : decode cX13_whyNot 167 = .ok (.invokevirtual 174, 3) := by decide +kernel
theorem dX13_whyNot_170 : decode cX13_whyNot 170 = .ok (.ireturn, 1) := by decide +kernel
theorem dX13_whyNot_171 : decode cX13_whyNot 171 = .ok (.aload_n 0, 1) := by decide +kernel
theorem dX13_whyNot_172 : decode cX13_whyNot 172 = .ok (.getfield 22, 3) := by decide +kernel
theorem dX13_whyNot_175 : decode cX13_whyNot 175 = .ok (.iconst 0, 1) := by decide +kernel
theorem dX13_whyNot_176 : decode cX13_whyNot 176 = .ok (.iaload, 1) := by decide +kernel
theorem dX13_whyNot_177 : decode cX13_whyNot 177 = .ok (.invokestatic 197, 3) := by decide +kernel
theorem dX13_whyNot_180 : decode cX13_whyNot 180 = .ok (.ireturn, 1) := by decide +kernel
def sX13_whyNot (w : Wl) : Option Int32 := (if (w 371 8) = 0 then (sX13_notOpen w (w 376 0)).bind (fun r2 => some r2) else (if (w 371 8) = 1 then (sX13_notClose w (w 376 0)).bind (fun r5 => some r5) else (if (w 371 8) = 2 then (sX13_notNest w (w 376 0) (w 376 1)).bind (fun r8 => some r8) else (if (w 371 8) = 3 then (sX13_notTakeOut w (w 376 0)).bind (fun r11 => some r11) else (if (w 371 8) = 4 then (sX13_notPack w (w 376 0) (w 376 1)).bind (fun r14 => some r14) else (if (w 371 8) = 5 then (sX13_notUnpack w (w 376 0)).bind (fun r17 => some r17) else (if (w 371 8) = 6 then (sX13_notSend w (w 376 0) (w 376 1) (-1 : Int32)).bind (fun r20 => some r20) else (if (w 371 8) = 7 then (sX13_notSend w (w 376 0) (w 376 1) (w 376 2)).bind (fun r23 => some r23) else (sX13_notAdvance w (w 376 0)).bind (fun r25 => some r25)))))))))
theorem kX13_whyNot {l : Launch} {Γ : Gl} {B : Bs} {w : Wl} {G : Gf} {sz : Nat} {r : Int32} (hW : Wd Γ B w G) (h : sX13_whyNot w  = some r) : CtR l Γ yX13_whyNot cX13_whyNot 1 (some .int) 7 [.ref (B.1 + 371)] G sz (.int (r)) := by
  refine Ct.of rfl (Nat.le_of_ble_eq_true rfl) fun X hx hr hl hΓ hnm => ?_
  subst hl hΓ
  show J X 1 G sz 0 0 0 [some (.ref (B.1 + 371))] []
  unfold sX13_whyNot at h
  refine J_al4 hx rfl rfl dX13_whyNot_0 ?_
  refine g13_8 hx hW (rfl : kd 371 = 19) fl_X13_289 dX13_whyNot_1 ?_
  by_cases h1 : (w 371 8) = 0
  · replace h := pos h h1
    refine J_swIn hx 52 dX13_whyNot_4 (by rw [h1]; decide) (by rw [h1]; decide) (by rw [h1]; rfl) rfl ?_
    refine J_al4 hx rfl rfl dX13_whyNot_52 ?_
    refine J_al4 hx rfl rfl dX13_whyNot_53 ?_
    refine g13_9 hx hW 376 (rfl : kd 371 = 19) fl_X13_22 rfl dX13_whyNot_54 ?_
    refine J_iconst hx (0 : Int32) dX13_whyNot_57 rfl ?_
    refine J_iaW hx hW (rfl : kd 376 = 103) (by decide +kernel : idx (0 : Int32) 3 = some 0) dX13_whyNot_58 ?_
    obtain ⟨r2, hr3, h⟩ := bnd h
    refine J_rdV hx (kX13_notOpen  hW hr3) ml_X13_97 lk_X13_notOpen (ci := 11) rfl (hW.obj (rfl : kd 371 = 19) (by decide) (by decide)) (rest := []) rfl rfl (by decide) (by decide) (Nat.le_of_ble_eq_true rfl) (Nat.le_refl 0) (Nat.le_refl 0) dX13_whyNot_59 ?_
    exact J_iretR hx hr dX13_whyNot_62 (Nat.le_refl 0) (Nat.le_refl 0) (Option.some.inj h)
  replace h := neg h h1
  by_cases h4 : (w 371 8) = 1
  · replace h := pos h h4
    refine J_swIn hx 63 dX13_whyNot_4 (by rw [h4]; decide) (by rw [h4]; decide) (by rw [h4]; rfl) rfl ?_
    refine J_al4 hx rfl rfl dX13_whyNot_63 ?_
    refine J_al4 hx rfl rfl dX13_whyNot_64 ?_
    refine g13_9 hx hW 376 (rfl : kd 371 = 19) fl_X13_22 rfl dX13_whyNot_65 ?_
    refine J_iconst hx (0 : Int32) dX13_whyNot_68 rfl ?_
    refine J_iaW hx hW (rfl : kd 376 = 103) (by decide +kernel : idx (0 : Int32) 3 = some 0) dX13_whyNot_69 ?_
    obtain ⟨r5, hr6, h⟩ := bnd h
    refine J_rdV hx (kX13_notClose  hW hr6) ml_X13_106 lk_X13_notClose (ci := 11) rfl (hW.obj (rfl : kd 371 = 19) (by decide) (by decide)) (rest := []) rfl rfl (by decide) (by decide) (Nat.le_of_ble_eq_true rfl) (Nat.le_refl 0) (Nat.le_refl 0) dX13_whyNot_70 ?_
    exact J_iretR hx hr dX13_whyNot_73 (Nat.le_refl 0) (Nat.le_refl 0) (Option.some.inj h)
  replace h := neg h h4
  by_cases h7 : (w 371 8) = 2
  · replace h := pos h h7
    refine J_swIn hx 74 dX13_whyNot_4 (by rw [h7]; decide) (by rw [h7]; decide) (by rw [h7]; rfl) rfl ?_
    refine J_al4 hx rfl rfl dX13_whyNot_74 ?_
    refine J_al4 hx rfl rfl dX13_whyNot_75 ?_
    refine g13_9 hx hW 376 (rfl : kd 371 = 19) fl_X13_22 rfl dX13_whyNot_76 ?_
    refine J_iconst hx (0 : Int32) dX13_whyNot_79 rfl ?_
    refine J_iaW hx hW (rfl : kd 376 = 103) (by decide +kernel : idx (0 : Int32) 3 = some 0) dX13_whyNot_80 ?_
    refine J_al4 hx rfl rfl dX13_whyNot_81 ?_
    refine g13_9 hx hW 376 (rfl : kd 371 = 19) fl_X13_22 rfl dX13_whyNot_82 ?_
    refine J_iconst hx (1 : Int32) dX13_whyNot_85 rfl ?_
    refine J_iaW hx hW (rfl : kd 376 = 103) (by decide +kernel : idx (1 : Int32) 3 = some 1) dX13_whyNot_86 ?_
    obtain ⟨r8, hr9, h⟩ := bnd h
    refine J_rdV hx (kX13_notNest  hW hr9) ml_X13_118 lk_X13_notNest (ci := 11) rfl (hW.obj (rfl : kd 371 = 19) (by decide) (by decide)) (rest := []) rfl rfl (by decide) (by decide) (Nat.le_of_ble_eq_true rfl) (Nat.le_refl 0) (Nat.le_refl 0) dX13_whyNot_87 ?_
    exact J_iretR hx hr dX13_whyNot_90 (Nat.le_refl 0) (Nat.le_refl 0) (Option.some.inj h)
  replace h := neg h h7
  by_cases h10 : (w 371 8) = 3
  · replace h := pos h h10
    refine J_swIn hx 91 dX13_whyNot_4 (by rw [h10]; decide) (by rw [h10]; decide) (by rw [h10]; rfl) rfl ?_
    refine J_al4 hx rfl rfl dX13_whyNot_91 ?_
    refine J_al4 hx rfl rfl dX13_whyNot_92 ?_
    refine g13_9 hx hW 376 (rfl : kd 371 = 19) fl_X13_22 rfl dX13_whyNot_93 ?_
    refine J_iconst hx (0 : Int32) dX13_whyNot_96 rfl ?_
    refine J_iaW hx hW (rfl : kd 376 = 103) (by decide +kernel : idx (0 : Int32) 3 = some 0) dX13_whyNot_97 ?_
    obtain ⟨r11, hr12, h⟩ := bnd h
    refine J_rdV hx (kX13_notTakeOut  hW hr12) ml_X13_124 lk_X13_notTakeOut (ci := 11) rfl (hW.obj (rfl : kd 371 = 19) (by decide) (by decide)) (rest := []) rfl rfl (by decide) (by decide) (Nat.le_of_ble_eq_true rfl) (Nat.le_refl 0) (Nat.le_refl 0) dX13_whyNot_98 ?_
    exact J_iretR hx hr dX13_whyNot_101 (Nat.le_refl 0) (Nat.le_refl 0) (Option.some.inj h)
  replace h := neg h h10
  by_cases h13 : (w 371 8) = 4
  · replace h := pos h h13
    refine J_swIn hx 102 dX13_whyNot_4 (by rw [h13]; decide) (by rw [h13]; decide) (by rw [h13]; rfl) rfl ?_
    refine J_al4 hx rfl rfl dX13_whyNot_102 ?_
    refine J_al4 hx rfl rfl dX13_whyNot_103 ?_
    refine g13_9 hx hW 376 (rfl : kd 371 = 19) fl_X13_22 rfl dX13_whyNot_104 ?_
    refine J_iconst hx (0 : Int32) dX13_whyNot_107 rfl ?_
    refine J_iaW hx hW (rfl : kd 376 = 103) (by decide +kernel : idx (0 : Int32) 3 = some 0) dX13_whyNot_108 ?_
    refine J_al4 hx rfl rfl dX13_whyNot_109 ?_
    refine g13_9 hx hW 376 (rfl : kd 371 = 19) fl_X13_22 rfl dX13_whyNot_110 ?_
    refine J_iconst hx (1 : Int32) dX13_whyNot_113 rfl ?_
    refine J_iaW hx hW (rfl : kd 376 = 103) (by decide +kernel : idx (1 : Int32) 3 = some 1) dX13_whyNot_114 ?_
    obtain ⟨r14, hr15, h⟩ := bnd h
    refine J_rdV hx (kX13_notPack  hW hr15) ml_X13_133 lk_X13_notPack (ci := 11) rfl (hW.obj (rfl : kd 371 = 19) (by decide) (by decide)) (rest := []) rfl rfl (by decide) (by decide) (Nat.le_of_ble_eq_true rfl) (Nat.le_refl 0) (Nat.le_refl 0) dX13_whyNot_115 ?_
    exact J_iretR hx hr dX13_whyNot_118 (Nat.le_refl 0) (Nat.le_refl 0) (Option.some.inj h)
  replace h := neg h h13
  by_cases h16 : (w 371 8) = 5
  · replace h := pos h h16
    refine J_swIn hx 119 dX13_whyNot_4 (by rw [h16]; decide) (by rw [h16]; decide) (by rw [h16]; rfl) rfl ?_
    refine J_al4 hx rfl rfl dX13_whyNot_119 ?_
    refine J_al4 hx rfl rfl dX13_whyNot_120 ?_
    refine g13_9 hx hW 376 (rfl : kd 371 = 19) fl_X13_22 rfl dX13_whyNot_121 ?_
    refine J_iconst hx (0 : Int32) dX13_whyNot_124 rfl ?_
    refine J_iaW hx hW (rfl : kd 376 = 103) (by decide +kernel : idx (0 : Int32) 3 = some 0) dX13_whyNot_125 ?_
    obtain ⟨r17, hr18, h⟩ := bnd h
    refine J_rdV hx (kX13_notUnpack  hW hr18) ml_X13_139 lk_X13_notUnpack (ci := 11) rfl (hW.obj (rfl : kd 371 = 19) (by decide) (by decide)) (rest := []) rfl rfl (by decide) (by decide) (Nat.le_of_ble_eq_true rfl) (Nat.le_refl 0) (Nat.le_refl 0) dX13_whyNot_126 ?_
    exact J_iretR hx hr dX13_whyNot_129 (Nat.le_refl 0) (Nat.le_refl 0) (Option.some.inj h)
  replace h := neg h h16
  by_cases h19 : (w 371 8) = 6
  · replace h := pos h h19
    refine J_swIn hx 130 dX13_whyNot_4 (by rw [h19]; decide) (by rw [h19]; decide) (by rw [h19]; rfl) rfl ?_
    refine J_al4 hx rfl rfl dX13_whyNot_130 ?_
    refine J_al4 hx rfl rfl dX13_whyNot_131 ?_
    refine g13_9 hx hW 376 (rfl : kd 371 = 19) fl_X13_22 rfl dX13_whyNot_132 ?_
    refine J_iconst hx (0 : Int32) dX13_whyNot_135 rfl ?_
    refine J_iaW hx hW (rfl : kd 376 = 103) (by decide +kernel : idx (0 : Int32) 3 = some 0) dX13_whyNot_136 ?_
    refine J_al4 hx rfl rfl dX13_whyNot_137 ?_
    refine g13_9 hx hW 376 (rfl : kd 371 = 19) fl_X13_22 rfl dX13_whyNot_138 ?_
    refine J_iconst hx (1 : Int32) dX13_whyNot_141 rfl ?_
    refine J_iaW hx hW (rfl : kd 376 = 103) (by decide +kernel : idx (1 : Int32) 3 = some 1) dX13_whyNot_142 ?_
    refine J_iconst hx (-1 : Int32) dX13_whyNot_143 rfl ?_
    obtain ⟨r20, hr21, h⟩ := bnd h
    refine J_rdV hx (kX13_notSend  hW hr21) ml_X13_174 lk_X13_notSend (ci := 11) rfl (hW.obj (rfl : kd 371 = 19) (by decide) (by decide)) (rest := []) rfl rfl (by decide) (by decide) (Nat.le_of_ble_eq_true rfl) (Nat.le_refl 0) (Nat.le_refl 0) dX13_whyNot_144 ?_
    exact J_iretR hx hr dX13_whyNot_147 (Nat.le_refl 0) (Nat.le_refl 0) (Option.some.inj h)
  replace h := neg h h19
  by_cases h22 : (w 371 8) = 7
  · replace h := pos h h22
    refine J_swIn hx 148 dX13_whyNot_4 (by rw [h22]; decide) (by rw [h22]; decide) (by rw [h22]; rfl) rfl ?_
    refine J_al4 hx rfl rfl dX13_whyNot_148 ?_
    refine J_al4 hx rfl rfl dX13_whyNot_149 ?_
    refine g13_9 hx hW 376 (rfl : kd 371 = 19) fl_X13_22 rfl dX13_whyNot_150 ?_
    refine J_iconst hx (0 : Int32) dX13_whyNot_153 rfl ?_
    refine J_iaW hx hW (rfl : kd 376 = 103) (by decide +kernel : idx (0 : Int32) 3 = some 0) dX13_whyNot_154 ?_
    refine J_al4 hx rfl rfl dX13_whyNot_155 ?_
    refine g13_9 hx hW 376 (rfl : kd 371 = 19) fl_X13_22 rfl dX13_whyNot_156 ?_
    refine J_iconst hx (1 : Int32) dX13_whyNot_159 rfl ?_
    refine J_iaW hx hW (rfl : kd 376 = 103) (by decide +kernel : idx (1 : Int32) 3 = some 1) dX13_whyNot_160 ?_
    refine J_al4 hx rfl rfl dX13_whyNot_161 ?_
    refine g13_9 hx hW 376 (rfl : kd 371 = 19) fl_X13_22 rfl dX13_whyNot_162 ?_
    refine J_iconst hx (2 : Int32) dX13_whyNot_165 rfl ?_
    refine J_iaW hx hW (rfl : kd 376 = 103) (by decide +kernel : idx (2 : Int32) 3 = some 2) dX13_whyNot_166 ?_
    obtain ⟨r23, hr24, h⟩ := bnd h
    refine J_rdV hx (kX13_notSend  hW hr24) ml_X13_174 lk_X13_notSend (ci := 11) rfl (hW.obj (rfl : kd 371 = 19) (by decide) (by decide)) (rest := []) rfl rfl (by decide) (by decide) (Nat.le_of_ble_eq_true rfl) (Nat.le_refl 0) (Nat.le_refl 0) dX13_whyNot_167 ?_
    exact J_iretR hx hr dX13_whyNot_170 (Nat.le_refl 0) (Nat.le_refl 0) (Option.some.inj h)
  replace h := neg h h22
  refine J_swOut hx 171 dX13_whyNot_4 (swD fun j jl jh e => by
      have hj : j = 0 ∨ j = 1 ∨ j = 2 ∨ j = 3 ∨ j = 4 ∨ j = 5 ∨ j = 6 ∨ j = 7 := by omega
      rcases hj with rfl | rfl | rfl | rfl | rfl | rfl | rfl | rfl <;> first | exact h1 e | exact h4 e | exact h7 e | exact h10 e | exact h13 e | exact h16 e | exact h19 e | exact h22 e) rfl ?_
  refine J_al4 hx rfl rfl dX13_whyNot_171 ?_
  refine g13_9 hx hW 376 (rfl : kd 371 = 19) fl_X13_22 rfl dX13_whyNot_172 ?_
  refine J_iconst hx (0 : Int32) dX13_whyNot_175 rfl ?_
  refine J_iaW hx hW (rfl : kd 376 = 103) (by decide +kernel : idx (0 : Int32) 3 = some 0) dX13_whyNot_176 ?_
  obtain ⟨r25, hr26, h⟩ := bnd h
  refine J_rdS hx (kX13_notAdvance  hW hr26) ml_X13_197 lk_X13_notAdvance (rest := []) rfl rfl (by decide) (by decide) (Nat.le_of_ble_eq_true rfl) (Nat.le_refl 0) (Nat.le_refl 0) dX13_whyNot_177 ?_
  exact J_iretR hx hr dX13_whyNot_180 (Nat.le_refl 0) (Nat.le_refl 0) (Option.some.inj h)
theorem dX13_carryOut_0 : decode cX13_carryOut 0 = .ok (.aload_n 0, 1) := by decide +kernel
theorem dX13_carryOut_1 : decode cX13_carryOut 1 = .ok (.getfield 289, 3) := by decide +kernel
theorem dX13_carryOut_4 : decode cX13_carryOut 4 = .ok (.tableswitch 167 0 7 #[48, 59, 70, 87, 98, 115, 126, 144], 48) := by decide +kernel
theorem dX13_carryOut_52 : decode cX13_carryOut 52 = .ok (.aload_n 0, 1) := by decide +kernel
theorem dX13_carryOut_53 : decode cX13_carryOut 53 = .ok (.aload_n 0, 1) := by decide +kernel
theorem dX13_carryOut_54 : decode cX13_carryOut 54 = .ok (.getfield 22, 3) := by decide +kernel
theorem dX13_carryOut_57 : decode cX13_carryOut 57 = .ok (.iconst 0, 1) := by decide +kernel
theorem dX13_carryOut_58 : decode cX13_carryOut 58 = .ok (.iaload, 1) := by decide +kernel
theorem dX13_carryOut_59 : decode cX13_carryOut 59 = .ok (.invokevirtual 100, 3) := by decide +kernel
theorem dX13_carryOut_62 : decode cX13_carryOut 62 = .ok (.ireturn, 1) := by decide +kernel
theorem dX13_carryOut_63 : decode cX13_carryOut 63 = .ok (.aload_n 0, 1) := by decide +kernel
theorem dX13_carryOut_64 : decode cX13_carryOut 64 = .ok (.aload_n 0, 1) := by decide +kernel
theorem dX13_carryOut_65 : decode cX13_carryOut 65 = .ok (.getfield 22, 3) := by decide +kernel
theorem dX13_carryOut_68 : decode cX13_carryOut 68 = .ok (.iconst 0, 1) := by decide +kernel
theorem dX13_carryOut_69 : decode cX13_carryOut 69 = .ok (.iaload, 1) := by decide +kernel
theorem dX13_carryOut_70 : decode cX13_carryOut 70 = .ok (.invokevirtual 109, 3) := by decide +kernel
theorem dX13_carryOut_73 : decode cX13_carryOut 73 = .ok (.ireturn, 1) := by decide +kernel
theorem dX13_carryOut_74 : decode cX13_carryOut 74 = .ok (.aload_n 0, 1) := by decide +kernel
theorem dX13_carryOut_75 : decode cX13_carryOut 75 = .ok (.aload_n 0, 1) := by decide +kernel
theorem dX13_carryOut_76 : decode cX13_carryOut 76 = .ok (.getfield 22, 3) := by decide +kernel
theorem dX13_carryOut_79 : decode cX13_carryOut 79 = .ok (.iconst 0, 1) := by decide +kernel
theorem dX13_carryOut_80 : decode cX13_carryOut 80 = .ok (.iaload, 1) := by decide +kernel
theorem dX13_carryOut_81 : decode cX13_carryOut 81 = .ok (.aload_n 0, 1) := by decide +kernel
theorem dX13_carryOut_82 : decode cX13_carryOut 82 = .ok (.getfield 22, 3) := by decide +kernel
theorem dX13_carryOut_85 : decode cX13_carryOut 85 = .ok (.iconst 1, 1) := by decide +kernel
theorem dX13_carryOut_86 : decode cX13_carryOut 86 = .ok (.iaload, 1) := by decide +kernel
theorem dX13_carryOut_87 : decode cX13_carryOut 87 = .ok (.invokevirtual 121, 3) := by decide +kernel
theorem dX13_carryOut_90 : decode cX13_carryOut 90 = .ok (.ireturn, 1) := by decide +kernel
theorem dX13_carryOut_91 : decode cX13_carryOut 91 = .ok (.aload_n 0, 1) := by decide +kernel
theorem dX13_carryOut_92 : decode cX13_carryOut 92 = .ok (.aload_n 0, 1) := by decide +kernel
theorem dX13_carryOut_93 : decode cX13_carryOut 93 = .ok (.getfield 22, 3) := by decide +kernel
theorem dX13_carryOut_96 : decode cX13_carryOut 96 = .ok (.iconst 0, 1) := by decide +kernel
theorem dX13_carryOut_97 : decode cX13_carryOut 97 = .ok (.iaload, 1) := by decide +kernel
theorem dX13_carryOut_98 : decode cX13_carryOut 98 = .ok (.invokevirtual 127, 3) := by decide +kernel
theorem dX13_carryOut_101 : decode cX13_carryOut 101 = .ok (.ireturn, 1) := by decide +kernel
theorem dX13_carryOut_102 : decode cX13_carryOut 102 = .ok (.aload_n 0, 1) := by decide +kernel
theorem dX13_carryOut_103 : decode cX13_carryOut 103 = .ok (.aload_n 0, 1) := by decide +kernel
theorem dX13_carryOut_104 : decode cX13_carryOut 104 = .ok (.getfield 22, 3) := by decide +kernel
theorem dX13_carryOut_107 : decode cX13_carryOut 107 = .ok (.iconst 0, 1) := by decide +kernel
theorem dX13_carryOut_108 : decode cX13_carryOut 108 = .ok (.iaload, 1) := by decide +kernel
theorem dX13_carryOut_109 : decode cX13_carryOut 109 = .ok (.aload_n 0, 1) := by decide +kernel
theorem dX13_carryOut_110 : decode cX13_carryOut 110 = .ok (.getfield 22, 3) := by decide +kernel
theorem dX13_carryOut_113 : decode cX13_carryOut 113 = .ok (.iconst 1, 1) := by decide +kernel
theorem dX13_carryOut_114 : decode cX13_carryOut 114 = .ok (.iaload, 1) := by decide +kernel
theorem dX13_carryOut_115 : decode cX13_carryOut 115 = .ok (.invokevirtual 136, 3) := by decide +kernel
theorem dX13_carryOut_118 : decode cX13_carryOut 118 = .ok (.ireturn, 1) := by decide +kernel
theorem dX13_carryOut_119 : decode cX13_carryOut 119 = .ok (.aload_n 0, 1) := by decide +kernel
theorem dX13_carryOut_120 : decode cX13_carryOut 120 = .ok (.aload_n 0, 1) := by decide +kernel
theorem dX13_carryOut_121 : decode cX13_carryOut 121 = .ok (.getfield 22, 3) := by decide +kernel
theorem dX13_carryOut_124 : decode cX13_carryOut 124 = .ok (.iconst 0, 1) := by decide +kernel
theorem dX13_carryOut_125 : decode cX13_carryOut 125 = .ok (.iaload, 1) := by decide +kernel
theorem dX13_carryOut_126 : decode cX13_carryOut 126 = .ok (.invokevirtual 142, 3) := by decide +kernel
theorem dX13_carryOut_129 : decode cX13_carryOut 129 = .ok (.ireturn, 1) := by decide +kernel
theorem dX13_carryOut_130 : decode cX13_carryOut 130 = .ok (.aload_n 0, 1) := by decide +kernel
theorem dX13_carryOut_131 : decode cX13_carryOut 131 = .ok (.aload_n 0, 1) := by decide +kernel
theorem dX13_carryOut_132 : decode cX13_carryOut 132 = .ok (.getfield 22, 3) := by decide +kernel
theorem dX13_carryOut_135 : decode cX13_carryOut 135 = .ok (.iconst 0, 1) := by decide +kernel
theorem dX13_carryOut_136 : decode cX13_carryOut 136 = .ok (.iaload, 1) := by decide +kernel
theorem dX13_carryOut_137 : decode cX13_carryOut 137 = .ok (.aload_n 0, 1) := by decide +kernel
theorem dX13_carryOut_138 : decode cX13_carryOut 138 = .ok (.getfield 22, 3) := by decide +kernel
theorem dX13_carryOut_141 : decode cX13_carryOut 141 = .ok (.iconst 1, 1) := by decide +kernel
theorem dX13_carryOut_142 : decode cX13_carryOut 142 = .ok (.iaload, 1) := by decide +kernel
theorem dX13_carryOut_143 : decode cX13_carryOut 143 = .ok (.iconst (-1), 1) := by decide +kernel
theorem dX13_carryOut_144 : decode cX13_carryOut 144 = .ok (.invokevirtual 177, 3) := by decide +kernel
theorem dX13_carryOut_147 : decode cX13_carryOut 147 = .ok (.ireturn, 1) := by decide +kernel
theorem dX13_carryOut_148 : decode cX13_carryOut 148 = .ok (.aload_n 0, 1) := by decide +kernel
theorem dX13_carryOut_149 : decode cX13_carryOut 149 = .ok (.aload_n 0, 1) := by decide +kernel
theorem dX13_carryOut_150 : decode cX13_carryOut 150 = .ok (.getfield 22, 3) := by decide +kernel
theorem dX13_carryOut_153 : decode cX13_carryOut 153 = .ok (.iconst 0, 1) := by decide +kernel
theorem dX13_carryOut_154 : decode cX13_carryOut 154 = .ok (.iaload, 1) := by decide +kernel
theorem dX13_carryOut_155 : decode cX13_carryOut 155 = .ok (.aload_n 0, 1) := by decide +kernel
theorem dX13_carryOut_156 : decode cX13_carryOut 156 = .ok (.getfield 22, 3) := by decide +kernel
theorem dX13_carryOut_159 : decode cX13_carryOut 159 = .ok (.iconst 1, 1) := by decide +kernel
theorem dX13_carryOut_160 : decode cX13_carryOut 160 = .ok (.iaload, 1) := by decide +kernel
theorem dX13_carryOut_161 : decode cX13_carryOut 161 = .ok (.aload_n 0, 1) := by decide +kernel
theorem dX13_carryOut_162 : decode cX13_carryOut 162 = .ok (.getfield 22, 3) := by decide +kernel
theorem dX13_carryOut_165 : decode cX13_carryOut 165 = .ok (.iconst 2, 1) := by decide +kernel
theorem dX13_carryOut_166 : decode cX13_carryOut 166 = .ok (.iaload, 1) := by decide +kernel
theorem dX13_carryOut_167 : decode cX13_carryOut 167 = .ok (.invokevirtual 177, 3) := by decide +kernel
theorem dX13_carryOut_170 : decode cX13_carryOut 170 = .ok (.ireturn, 1) := by decide +kernel
theorem dX13_carryOut_171 : decode cX13_carryOut 171 = .ok (.aload_n 0, 1) := by decide +kernel
theorem dX13_carryOut_172 : decode cX13_carryOut 172 = .ok (.aload_n 0, 1) := by decide +kernel
theorem dX13_carryOut_173 : decode cX13_carryOut 173 = .ok (.getfield 22, 3) := by decide +kernel
theorem dX13_carryOut_176 : decode cX13_carryOut 176 = .ok (.iconst 0, 1) := by decide +kernel
theorem dX13_carryOut_177 : decode cX13_carryOut 177 = .ok (.iaload, 1) := by decide +kernel
theorem dX13_carryOut_178 : decode cX13_carryOut 178 = .ok (.invokevirtual 200, 3) := by decide +kernel
theorem dX13_carryOut_181 : decode cX13_carryOut 181 = .ok (.ireturn, 1) := by decide +kernel
def sX13_carryOut (w : Wl) : Option (Int32 × Wl) := (if (w 371 8) = 0 then (sX13_opens w (w 376 0)).bind (fun r2 => some (r2.1, r2.2)) else (if (w 371 8) = 1 then (sX13_closes w (w 376 0)).bind (fun r7 => some (r7.1, r7.2)) else (if (w 371 8) = 2 then (sX13_nests w (w 376 0) (w 376 1)).bind (fun r12 => some (r12.1, r12.2)) else (if (w 371 8) = 3 then (sX13_takesOut w (w 376 0)).bind (fun r17 => some (r17.1, r17.2)) else (if (w 371 8) = 4 then (sX13_packs w (w 376 0) (w 376 1)).bind (fun r22 => some (r22.1, r22.2)) else (if (w 371 8) = 5 then (sX13_unpacks w (w 376 0)).bind (fun r27 => some (r27.1, r27.2)) else (if (w 371 8) = 6 then (sX13_sends w (w 376 0) (w 376 1) (-1 : Int32)).bind (fun r32 => some (r32.1, r32.2)) else (if (w 371 8) = 7 then (sX13_sends w (w 376 0) (w 376 1) (w 376 2)).bind (fun r37 => some (r37.1, r37.2)) else (sX13_advances w (w 376 0)).bind (fun r41 => some (r41.1, r41.2))))))))))
theorem kX13_carryOut {l : Launch} {Γ : Gl} {B : Bs} {w : Wl} {G : Gf} {sz : Nat} {r : (Int32 × Wl)} (hW : Wd Γ B w G) (h : sX13_carryOut w  = some r) : CtW l Γ yX13_carryOut cX13_carryOut 1 (some .int) 7 [.ref (B.1 + 371)] G sz B (some (.int (r.1))) r.2 := by
  refine Ct.of rfl (Nat.le_of_ble_eq_true rfl) fun X hx hr hl hΓ hnm => ?_
  subst hl hΓ
  show J X 1 G sz 0 0 0 [some (.ref (B.1 + 371))] []
  unfold sX13_carryOut at h
  refine J_al4 hx rfl rfl dX13_carryOut_0 ?_
  refine g13_8 hx hW (rfl : kd 371 = 19) fl_X13_289 dX13_carryOut_1 ?_
  by_cases h1 : (w 371 8) = 0
  · replace h := pos h h1
    refine J_swIn hx 52 dX13_carryOut_4 (by rw [h1]; decide) (by rw [h1]; decide) (by rw [h1]; rfl) rfl ?_
    refine J_al4 hx rfl rfl dX13_carryOut_52 ?_
    refine J_al4 hx rfl rfl dX13_carryOut_53 ?_
    refine g13_9 hx hW 376 (rfl : kd 371 = 19) fl_X13_22 rfl dX13_carryOut_54 ?_
    refine J_iconst hx (0 : Int32) dX13_carryOut_57 rfl ?_
    refine J_iaW hx hW (rfl : kd 376 = 103) (by decide +kernel : idx (0 : Int32) 3 = some 0) dX13_carryOut_58 ?_
    obtain ⟨r2, hr3, h⟩ := bnd h
    refine J_wrV hx (kX13_opens  hW hr3) ml_X13_100 lk_X13_opens (ci := 11) rfl (hW.obj (rfl : kd 371 = 19) (by decide) (by decide)) (rest := []) rfl rfl (by decide) (by decide) (Nat.le_of_ble_eq_true rfl) (Nat.le_refl 0) (Nat.le_refl 0) dX13_carryOut_59 fun G4 hW5 => ?_
    show J X 1 G4 sz 0 0 62 [some (.ref (B.1 + 371))] [.int r2.1]
    obtain rfl := Option.some.inj h
    exact J_iretW hx hr hW5 dX13_carryOut_62 (Nat.le_refl 0) (Nat.le_refl 0)
  replace h := neg h h1
  by_cases h6 : (w 371 8) = 1
  · replace h := pos h h6
    refine J_swIn hx 63 dX13_carryOut_4 (by rw [h6]; decide) (by rw [h6]; decide) (by rw [h6]; rfl) rfl ?_
    refine J_al4 hx rfl rfl dX13_carryOut_63 ?_
    refine J_al4 hx rfl rfl dX13_carryOut_64 ?_
    refine g13_9 hx hW 376 (rfl : kd 371 = 19) fl_X13_22 rfl dX13_carryOut_65 ?_
    refine J_iconst hx (0 : Int32) dX13_carryOut_68 rfl ?_
    refine J_iaW hx hW (rfl : kd 376 = 103) (by decide +kernel : idx (0 : Int32) 3 = some 0) dX13_carryOut_69 ?_
    obtain ⟨r7, hr8, h⟩ := bnd h
    refine J_wrV hx (kX13_closes  hW hr8) ml_X13_109 lk_X13_closes (ci := 11) rfl (hW.obj (rfl : kd 371 = 19) (by decide) (by decide)) (rest := []) rfl rfl (by decide) (by decide) (Nat.le_of_ble_eq_true rfl) (Nat.le_refl 0) (Nat.le_refl 0) dX13_carryOut_70 fun G9 hW10 => ?_
    show J X 1 G9 sz 0 0 73 [some (.ref (B.1 + 371))] [.int r7.1]
    obtain rfl := Option.some.inj h
    exact J_iretW hx hr hW10 dX13_carryOut_73 (Nat.le_refl 0) (Nat.le_refl 0)
  replace h := neg h h6
  by_cases h11 : (w 371 8) = 2
  · replace h := pos h h11
    refine J_swIn hx 74 dX13_carryOut_4 (by rw [h11]; decide) (by rw [h11]; decide) (by rw [h11]; rfl) rfl ?_
    refine J_al4 hx rfl rfl dX13_carryOut_74 ?_
    refine J_al4 hx rfl rfl dX13_carryOut_75 ?_
    refine g13_9 hx hW 376 (rfl : kd 371 = 19) fl_X13_22 rfl dX13_carryOut_76 ?_
    refine J_iconst hx (0 : Int32) dX13_carryOut_79 rfl ?_
    refine J_iaW hx hW (rfl : kd 376 = 103) (by decide +kernel : idx (0 : Int32) 3 = some 0) dX13_carryOut_80 ?_
    refine J_al4 hx rfl rfl dX13_carryOut_81 ?_
    refine g13_9 hx hW 376 (rfl : kd 371 = 19) fl_X13_22 rfl dX13_carryOut_82 ?_
    refine J_iconst hx (1 : Int32) dX13_carryOut_85 rfl ?_
    refine J_iaW hx hW (rfl : kd 376 = 103) (by decide +kernel : idx (1 : Int32) 3 = some 1) dX13_carryOut_86 ?_
    obtain ⟨r12, hr13, h⟩ := bnd h
    refine J_wrV hx (kX13_nests  hW hr13) ml_X13_121 lk_X13_nests (ci := 11) rfl (hW.obj (rfl : kd 371 = 19) (by decide) (by decide)) (rest := []) rfl rfl (by decide) (by decide) (Nat.le_of_ble_eq_true rfl) (Nat.le_refl 0) (Nat.le_refl 0) dX13_carryOut_87 fun G14 hW15 => ?_
    show J X 1 G14 sz 0 0 90 [some (.ref (B.1 + 371))] [.int r12.1]
    obtain rfl := Option.some.inj h
    exact J_iretW hx hr hW15 dX13_carryOut_90 (Nat.le_refl 0) (Nat.le_refl 0)
  replace h := neg h h11
  by_cases h16 : (w 371 8) = 3
  · replace h := pos h h16
    refine J_swIn hx 91 dX13_carryOut_4 (by rw [h16]; decide) (by rw [h16]; decide) (by rw [h16]; rfl) rfl ?_
    refine J_al4 hx rfl rfl dX13_carryOut_91 ?_
    refine J_al4 hx rfl rfl dX13_carryOut_92 ?_
    refine g13_9 hx hW 376 (rfl : kd 371 = 19) fl_X13_22 rfl dX13_carryOut_93 ?_
    refine J_iconst hx (0 : Int32) dX13_carryOut_96 rfl ?_
    refine J_iaW hx hW (rfl : kd 376 = 103) (by decide +kernel : idx (0 : Int32) 3 = some 0) dX13_carryOut_97 ?_
    obtain ⟨r17, hr18, h⟩ := bnd h
    refine J_wrV hx (kX13_takesOut  hW hr18) ml_X13_127 lk_X13_takesOut (ci := 11) rfl (hW.obj (rfl : kd 371 = 19) (by decide) (by decide)) (rest := []) rfl rfl (by decide) (by decide) (Nat.le_of_ble_eq_true rfl) (Nat.le_refl 0) (Nat.le_refl 0) dX13_carryOut_98 fun G19 hW20 => ?_
    show J X 1 G19 sz 0 0 101 [some (.ref (B.1 + 371))] [.int r17.1]
    obtain rfl := Option.some.inj h
    exact J_iretW hx hr hW20 dX13_carryOut_101 (Nat.le_refl 0) (Nat.le_refl 0)
  replace h := neg h h16
  by_cases h21 : (w 371 8) = 4
  · replace h := pos h h21
    refine J_swIn hx 102 dX13_carryOut_4 (by rw [h21]; decide) (by rw [h21]; decide) (by rw [h21]; rfl) rfl ?_
    refine J_al4 hx rfl rfl dX13_carryOut_102 ?_
    refine J_al4 hx rfl rfl dX13_carryOut_103 ?_
    refine g13_9 hx hW 376 (rfl : kd 371 = 19) fl_X13_22 rfl dX13_carryOut_104 ?_
    refine J_iconst hx (0 : Int32) dX13_carryOut_107 rfl ?_
    refine J_iaW hx hW (rfl : kd 376 = 103) (by decide +kernel : idx (0 : Int32) 3 = some 0) dX13_carryOut_108 ?_
    refine J_al4 hx rfl rfl dX13_carryOut_109 ?_
    refine g13_9 hx hW 376 (rfl : kd 371 = 19) fl_X13_22 rfl dX13_carryOut_110 ?_
    refine J_iconst hx (1 : Int32) dX13_carryOut_113 rfl ?_
    refine J_iaW hx hW (rfl : kd 376 = 103) (by decide +kernel : idx (1 : Int32) 3 = some 1) dX13_carryOut_114 ?_
    obtain ⟨r22, hr23, h⟩ := bnd h
    refine J_wrV hx (kX13_packs  hW hr23) ml_X13_136 lk_X13_packs (ci := 11) rfl (hW.obj (rfl : kd 371 = 19) (by decide) (by decide)) (rest := []) rfl rfl (by decide) (by decide) (Nat.le_of_ble_eq_true rfl) (Nat.le_refl 0) (Nat.le_refl 0) dX13_carryOut_115 fun G24 hW25 => ?_
    show J X 1 G24 sz 0 0 118 [some (.ref (B.1 + 371))] [.int r22.1]
    obtain rfl := Option.some.inj h
    exact J_iretW hx hr hW25 dX13_carryOut_118 (Nat.le_refl 0) (Nat.le_refl 0)
  replace h := neg h h21
  by_cases h26 : (w 371 8) = 5
  · replace h := pos h h26
    refine J_swIn hx 119 dX13_carryOut_4 (by rw [h26]; decide) (by rw [h26]; decide) (by rw [h26]; rfl) rfl ?_
    refine J_al4 hx rfl rfl dX13_carryOut_119 ?_
    refine J_al4 hx rfl rfl dX13_carryOut_120 ?_
    refine g13_9 hx hW 376 (rfl : kd 371 = 19) fl_X13_22 rfl dX13_carryOut_121 ?_
    refine J_iconst hx (0 : Int32) dX13_carryOut_124 rfl ?_
    refine J_iaW hx hW (rfl : kd 376 = 103) (by decide +kernel : idx (0 : Int32) 3 = some 0) dX13_carryOut_125 ?_
    obtain ⟨r27, hr28, h⟩ := bnd h
    refine J_wrV hx (kX13_unpacks  hW hr28) ml_X13_142 lk_X13_unpacks (ci := 11) rfl (hW.obj (rfl : kd 371 = 19) (by decide) (by decide)) (rest := []) rfl rfl (by decide) (by decide) (Nat.le_of_ble_eq_true rfl) (Nat.le_refl 0) (Nat.le_refl 0) dX13_carryOut_126 fun G29 hW30 => ?_
    show J X 1 G29 sz 0 0 129 [some (.ref (B.1 + 371))] [.int r27.1]
    obtain rfl := Option.some.inj h
    exact J_iretW hx hr hW30 dX13_carryOut_129 (Nat.le_refl 0) (Nat.le_refl 0)
  replace h := neg h h26
  by_cases h31 : (w 371 8) = 6
  · replace h := pos h h31
    refine J_swIn hx 130 dX13_carryOut_4 (by rw [h31]; decide) (by rw [h31]; decide) (by rw [h31]; rfl) rfl ?_
    refine J_al4 hx rfl rfl dX13_carryOut_130 ?_
    refine J_al4 hx rfl rfl dX13_carryOut_131 ?_
    refine g13_9 hx hW 376 (rfl : kd 371 = 19) fl_X13_22 rfl dX13_carryOut_132 ?_
    refine J_iconst hx (0 : Int32) dX13_carryOut_135 rfl ?_
    refine J_iaW hx hW (rfl : kd 376 = 103) (by decide +kernel : idx (0 : Int32) 3 = some 0) dX13_carryOut_136 ?_
    refine J_al4 hx rfl rfl dX13_carryOut_137 ?_
    refine g13_9 hx hW 376 (rfl : kd 371 = 19) fl_X13_22 rfl dX13_carryOut_138 ?_
    refine J_iconst hx (1 : Int32) dX13_carryOut_141 rfl ?_
    refine J_iaW hx hW (rfl : kd 376 = 103) (by decide +kernel : idx (1 : Int32) 3 = some 1) dX13_carryOut_142 ?_
    refine J_iconst hx (-1 : Int32) dX13_carryOut_143 rfl ?_
    obtain ⟨r32, hr33, h⟩ := bnd h
    refine J_wrV hx (kX13_sends  hW hr33) ml_X13_177 lk_X13_sends (ci := 11) rfl (hW.obj (rfl : kd 371 = 19) (by decide) (by decide)) (rest := []) rfl rfl (by decide) (by decide) (Nat.le_of_ble_eq_true rfl) (Nat.le_refl 0) (Nat.le_refl 0) dX13_carryOut_144 fun G34 hW35 => ?_
    show J X 1 G34 sz 0 0 147 [some (.ref (B.1 + 371))] [.int r32.1]
    obtain rfl := Option.some.inj h
    exact J_iretW hx hr hW35 dX13_carryOut_147 (Nat.le_refl 0) (Nat.le_refl 0)
  replace h := neg h h31
  by_cases h36 : (w 371 8) = 7
  · replace h := pos h h36
    refine J_swIn hx 148 dX13_carryOut_4 (by rw [h36]; decide) (by rw [h36]; decide) (by rw [h36]; rfl) rfl ?_
    refine J_al4 hx rfl rfl dX13_carryOut_148 ?_
    refine J_al4 hx rfl rfl dX13_carryOut_149 ?_
    refine g13_9 hx hW 376 (rfl : kd 371 = 19) fl_X13_22 rfl dX13_carryOut_150 ?_
    refine J_iconst hx (0 : Int32) dX13_carryOut_153 rfl ?_
    refine J_iaW hx hW (rfl : kd 376 = 103) (by decide +kernel : idx (0 : Int32) 3 = some 0) dX13_carryOut_154 ?_
    refine J_al4 hx rfl rfl dX13_carryOut_155 ?_
    refine g13_9 hx hW 376 (rfl : kd 371 = 19) fl_X13_22 rfl dX13_carryOut_156 ?_
    refine J_iconst hx (1 : Int32) dX13_carryOut_159 rfl ?_
    refine J_iaW hx hW (rfl : kd 376 = 103) (by decide +kernel : idx (1 : Int32) 3 = some 1) dX13_carryOut_160 ?_
    refine J_al4 hx rfl rfl dX13_carryOut_161 ?_
    refine g13_9 hx hW 376 (rfl : kd 371 = 19) fl_X13_22 rfl dX13_carryOut_162 ?_
    refine J_iconst hx (2 : Int32) dX13_carryOut_165 rfl ?_
    refine J_iaW hx hW (rfl : kd 376 = 103) (by decide +kernel : idx (2 : Int32) 3 = some 2) dX13_carryOut_166 ?_
    obtain ⟨r37, hr38, h⟩ := bnd h
    refine J_wrV hx (kX13_sends  hW hr38) ml_X13_177 lk_X13_sends (ci := 11) rfl (hW.obj (rfl : kd 371 = 19) (by decide) (by decide)) (rest := []) rfl rfl (by decide) (by decide) (Nat.le_of_ble_eq_true rfl) (Nat.le_refl 0) (Nat.le_refl 0) dX13_carryOut_167 fun G39 hW40 => ?_
    show J X 1 G39 sz 0 0 170 [some (.ref (B.1 + 371))] [.int r37.1]
    obtain rfl := Option.some.inj h
    exact J_iretW hx hr hW40 dX13_carryOut_170 (Nat.le_refl 0) (Nat.le_refl 0)
  replace h := neg h h36
  refine J_swOut hx 171 dX13_carryOut_4 (swD fun j jl jh e => by
      have hj : j = 0 ∨ j = 1 ∨ j = 2 ∨ j = 3 ∨ j = 4 ∨ j = 5 ∨ j = 6 ∨ j = 7 := by omega
      rcases hj with rfl | rfl | rfl | rfl | rfl | rfl | rfl | rfl <;> first | exact h1 e | exact h6 e | exact h11 e | exact h16 e | exact h21 e | exact h26 e | exact h31 e | exact h36 e) rfl ?_
  refine J_al4 hx rfl rfl dX13_carryOut_171 ?_
  refine J_al4 hx rfl rfl dX13_carryOut_172 ?_
  refine g13_9 hx hW 376 (rfl : kd 371 = 19) fl_X13_22 rfl dX13_carryOut_173 ?_
  refine J_iconst hx (0 : Int32) dX13_carryOut_176 rfl ?_
  refine J_iaW hx hW (rfl : kd 376 = 103) (by decide +kernel : idx (0 : Int32) 3 = some 0) dX13_carryOut_177 ?_
  obtain ⟨r41, hr42, h⟩ := bnd h
  refine J_wrV hx (kX13_advances  hW hr42) ml_X13_200 lk_X13_advances (ci := 11) rfl (hW.obj (rfl : kd 371 = 19) (by decide) (by decide)) (rest := []) rfl rfl (by decide) (by decide) (Nat.le_of_ble_eq_true rfl) (Nat.le_refl 0) (Nat.le_refl 0) dX13_carryOut_178 fun G43 hW44 => ?_
  show J X 1 G43 sz 0 0 181 [some (.ref (B.1 + 371))] [.int r41.1]
  obtain rfl := Option.some.inj h
  exact J_iretW hx hr hW44 dX13_carryOut_181 (Nat.le_refl 0) (Nat.le_refl 0)
theorem dX13_runCommands_0 : decode cX13_runCommands 0 = .ok (.aload_n 0, 1) := by decide +kernel
theorem dX13_runCommands_1 : decode cX13_runCommands 1 = .ok (.iconst 0, 1) := by decide +kernel
theorem dX13_runCommands_2 : decode cX13_runCommands 2 = .ok (.putfield 25, 3) := by decide +kernel
theorem dX13_runCommands_5 : decode cX13_runCommands 5 = .ok (.aload_n 0, 1) := by decide +kernel
theorem dX13_runCommands_6 : decode cX13_runCommands 6 = .ok (.invokevirtual 308, 3) := by decide +kernel
theorem dX13_runCommands_9 : decode cX13_runCommands 9 = .ok (.ifCond .ne 11, 3) := by decide +kernel
theorem dX13_runCommands_12 : decode cX13_runCommands 12 = .ok (.bipush (-10), 2) := by decide +kernel
theorem dX13_runCommands_14 : decode cX13_runCommands 14 = .ok (.aload_n 0, 1) := by decide +kernel
theorem dX13_runCommands_15 : decode cX13_runCommands 15 = .ok (.getfield 255, 3) := by decide +kernel
theorem dX13_runCommands_18 : decode cX13_runCommands 18 = .ok (.isub, 1) := by decide +kernel
theorem dX13_runCommands_19 : decode cX13_runCommands 19 = .ok (.ireturn, 1) := by decide +kernel
theorem dX13_runCommands_20 : decode cX13_runCommands 20 = .ok (.aload_n 0, 1) := by decide +kernel
theorem dX13_runCommands_21 : decode cX13_runCommands 21 = .ok (.invokevirtual 62, 3) := by decide +kernel
theorem dX13_runCommands_24 : decode cX13_runCommands 24 = .ok (.aload_n 0, 1) := by decide +kernel
theorem dX13_runCommands_25 : decode cX13_runCommands 25 = .ok (.iconst 0, 1) := by decide +kernel
theorem dX13_runCommands_26 : decode cX13_runCommands 26 = .ok (.putfield 255, 3) := by decide +kernel
theorem dX13_runCommands_29 : decode cX13_runCommands 29 = .ok (.iconst 0, 1) := by decide +kernel
theorem dX13_runCommands_30 : decode cX13_runCommands 30 = .ok (.istore_n 1, 1) := by decide +kernel
theorem dX13_runCommands_31 : decode cX13_runCommands 31 = .ok (.iconst 1, 1) := by decide +kernel
theorem dX13_runCommands_32 : decode cX13_runCommands 32 = .ok (.istore_n 2, 1) := by decide +kernel
theorem dX13_runCommands_33 : decode cX13_runCommands 33 = .ok (.aload_n 0, 1) := by decide +kernel
theorem dX13_runCommands_34 : decode cX13_runCommands 34 = .ok (.invokevirtual 292, 3) := by decide +kernel
theorem dX13_runCommands_37 : decode cX13_runCommands 37 = .ok (.istore_n 3, 1) := by decide +kernel
theorem dX13_runCommands_38 : decode cX13_runCommands 38 = .ok (.iload_n 2, 1) := by decide +kernel
theorem dX13_runCommands_39 : decode cX13_runCommands 39 = .ok (.ifCond .eq 55, 3) := by decide +kernel
theorem dX13_runCommands_42 : decode cX13_runCommands 42 = .ok (.aload_n 0, 1) := by decide +kernel
theorem dX13_runCommands_43 : decode cX13_runCommands 43 = .ok (.getfield 255, 3) := by decide +kernel
theorem dX13_runCommands_46 : decode cX13_runCommands 46 = .ok (.aload_n 0, 1) := by decide +kernel
theorem dX13_runCommands_47 : decode cX13_runCommands 47 = .ok (.getfield 252, 3) := by decide +kernel
theorem dX13_runCommands_50 : decode cX13_runCommands 50 = .ok (.if_icmp .ge 44, 3) := by decide +kernel
theorem dX13_runCommands_53 : decode cX13_runCommands 53 = .ok (.aload_n 0, 1) := by decide +kernel
theorem dX13_runCommands_54 : decode cX13_runCommands 54 = .ok (.invokevirtual 305, 3) := by decide +kernel
theorem dX13_runCommands_57 : decode cX13_runCommands 57 = .ok (.ifCond .eq 37, 3) := by decide +kernel
theorem dX13_runCommands_60 : decode cX13_runCommands 60 = .ok (.aload_n 0, 1) := by decide +kernel
theorem dX13_runCommands_61 : decode cX13_runCommands 61 = .ok (.invokevirtual 311, 3) := by decide +kernel
theorem dX13_runCommands_64 : decode cX13_runCommands 64 = .ok (.ifCond .ne 7, 3) := by decide +kernel
theorem dX13_runCommands_67 : decode cX13_runCommands 67 = .ok (.iconst 1, 1) := by decide +kernel
theorem dX13_runCommands_68 : decode cX13_runCommands 68 = .ok (.goto 4, 3) := by decide +kernel
theorem dX13_runCommands_71 : decode cX13_runCommands 71 = .ok (.iconst 0, 1) := by decide +kernel
theorem dX13_runCommands_72 : decode cX13_runCommands 72 = .ok (.istore_n 2, 1) := by decide +kernel
theorem dX13_runCommands_73 : decode cX13_runCommands 73 = .ok (.iload_n 2, 1) := by decide +kernel
theorem dX13_runCommands_74 : decode cX13_runCommands 74 = .ok (.ifCond .eq 12, 3) := by decide +kernel
theorem dX13_runCommands_77 : decode cX13_runCommands 77 = .ok (.aload_n 0, 1) := by decide +kernel
theorem dX13_runCommands_78 : decode cX13_runCommands 78 = .ok (.invokevirtual 314, 3) := by decide +kernel
theorem dX13_runCommands_81 : decode cX13_runCommands 81 = .ok (.istore 4, 2) := by decide +kernel
theorem dX13_runCommands_83 : decode cX13_runCommands 83 = .ok (.iinc 1 1, 3) := by decide +kernel
theorem dX13_runCommands_86 : decode cX13_runCommands 86 = .ok (.aload_n 0, 1) := by decide +kernel
theorem dX13_runCommands_87 : decode cX13_runCommands 87 = .ok (.invokevirtual 292, 3) := by decide +kernel
theorem dX13_runCommands_90 : decode cX13_runCommands 90 = .ok (.istore_n 3, 1) := by decide +kernel
theorem dX13_runCommands_91 : decode cX13_runCommands 91 = .ok (.goto (-53), 3) := by decide +kernel
theorem dX13_runCommands_94 : decode cX13_runCommands 94 = .ok (.iload_n 1, 1) := by decide +kernel
theorem dX13_runCommands_95 : decode cX13_runCommands 95 = .ok (.ireturn, 1) := by decide +kernel
def sX13_runCommands_72 (k38 : Wl → Int32 → Int32 → Option (Int32 × Wl)) (w : Wl) (l1 : Int32) (s0 : Int32) : Option (Int32 × Wl) := (if s0 = 0 then (sX13_skips w ).bind (fun r2 => k38 r2.2 l1 s0) else (sX13_carryOut w ).bind (fun r6 => (sX13_skips r6.2 ).bind (fun r10 => k38 r10.2 (l1 + 1) s0)))
theorem tX13_runCommands_72 {X : Cx} {B : Bs} {sz : Nat} {r : (Int32 × Wl)} (hx : Fx X cX13_runCommands 5 RX13 8 0 0) (hr : Rt X (some .int) 0 0 (WΨ (xΓ X) B (some (.int (r.1))) r.2 sz)) (k38 : Wl → Int32 → Int32 → Option (Int32 × Wl)) (hk38 : ∀ (w : Wl) (l1 : Int32) (l2 : Int32) {G : Gf} (hW : Wd (xΓ X) B w G) (h : k38 w l1 l2 = some r), J X 5 G sz 0 0 38 [some (.ref (B.1 + 371)), some (.int l1), some (.int l2), none, none] []) : ∀ (w : Wl) (l1 : Int32) (s0 : Int32) {G : Gf} (hW : Wd (xΓ X) B w G) (h : sX13_runCommands_72 k38  w l1 s0 = some r), J X 5 G sz 0 0 72 [some (.ref (B.1 + 371)), some (.int l1), none, none, none] [.int s0] := by
  intro w l1 s0 G hW h
  unfold sX13_runCommands_72 at h
  refine J_is4 hx rfl (by decide) (hc_of rfl) rfl dX13_runCommands_72 ?_
  refine J_il4 hx rfl rfl dX13_runCommands_73 ?_
  refine J_if_eq hx 86 dX13_runCommands_74 rfl (fun h1 => ?_) (fun h1 => ?_)
  · replace h := pos h h1
    refine J_al4 hx rfl rfl dX13_runCommands_86 ?_
    obtain ⟨r2, hr3, h⟩ := bnd h
    refine J_wrV hx (kX13_skips  hW hr3) ml_X13_292 lk_X13_skips (ci := 11) rfl (hW.obj (rfl : kd 371 = 19) (by decide) (by decide)) (rest := []) rfl rfl (by decide) (by decide) (Nat.le_of_ble_eq_true rfl) (Nat.le_refl 0) (Nat.le_refl 0) dX13_runCommands_87 fun G4 hW5 => ?_
    show J X 5 G4 sz 0 0 90 [some (.ref (B.1 + 371)), some (.int l1), some (.int s0), none, none] [.int (bI r2.1)]
    refine J_is4 hx rfl (by decide) (hc_of rfl) rfl dX13_runCommands_90 ?_
    refine J_goto hx 38 dX13_runCommands_91 rfl ?_
    refine J_lw (ls' := [some (.ref (B.1 + 371)), some (.int l1), some (.int s0), none, none]) (lwS (lwS (lwS (lwN (lwN lwZ))))) ?_
    exact hk38 _ _ _  hW5 h
  · replace h := neg h h1
    refine J_al4 hx rfl rfl dX13_runCommands_77 ?_
    obtain ⟨r6, hr7, h⟩ := bnd h
    refine J_wrV hx (kX13_carryOut  hW hr7) ml_X13_314 lk_X13_carryOut (ci := 11) rfl (hW.obj (rfl : kd 371 = 19) (by decide) (by decide)) (rest := []) rfl rfl (by decide) (by decide) (Nat.le_of_ble_eq_true rfl) (Nat.le_refl 0) (Nat.le_refl 0) dX13_runCommands_78 fun G8 hW9 => ?_
    show J X 5 G8 sz 0 0 81 [some (.ref (B.1 + 371)), some (.int l1), some (.int s0), none, none] [.int r6.1]
    refine J_is hx (by decide) (hc_of rfl) rfl dX13_runCommands_81 ?_
    refine J_iinc hx (v' := (l1 + 1)) rfl rfl (by decide) (hc_of rfl) rfl dX13_runCommands_83 ?_
    refine J_al4 hx rfl rfl dX13_runCommands_86 ?_
    obtain ⟨r10, hr11, h⟩ := bnd h
    refine J_wrV hx (kX13_skips  hW9 hr11) ml_X13_292 lk_X13_skips (ci := 11) rfl (hW9.obj (rfl : kd 371 = 19) (by decide) (by decide)) (rest := []) rfl rfl (by decide) (by decide) (Nat.le_of_ble_eq_true rfl) (Nat.le_refl 0) (Nat.le_refl 0) dX13_runCommands_87 fun G12 hW13 => ?_
    show J X 5 G12 sz 0 0 90 [some (.ref (B.1 + 371)), some (.int (l1 + 1)), some (.int s0), none, some (.int r6.1)] [.int (bI r10.1)]
    refine J_is4 hx rfl (by decide) (hc_of rfl) rfl dX13_runCommands_90 ?_
    refine J_goto hx 38 dX13_runCommands_91 rfl ?_
    refine J_lw (ls' := [some (.ref (B.1 + 371)), some (.int (l1 + 1)), some (.int s0), none, none]) (lwS (lwS (lwS (lwN (lwN lwZ))))) ?_
    exact hk38 _ _ _  hW13 h
def sX13_runCommands_38 : Nat → Wl → Int32 → Int32 → Option (Int32 × Wl)
  | 0, _, _, _ => none
  | n + 1, w, l1, l2 => (if l2 = 0 then some (l1, w) else (if (w 371 4) ≤ (w 371 7) then some (l1, w) else (sX13_readCommand w ).bind (fun r3 => (if r3.1 = true then (sX13_whyNot r3.2 ).bind (fun r8 => (if r8 = 0 then sX13_runCommands_72 (fun w l1 l2 => sX13_runCommands_38 n w l1 l2) r3.2 l1 (1 : Int32) else sX13_runCommands_72 (fun w l1 l2 => sX13_runCommands_38 n w l1 l2) r3.2 l1 (0 : Int32))) else some (l1, r3.2)))))
theorem tX13_runCommands_38 {X : Cx} {B : Bs} {sz : Nat} {r : (Int32 × Wl)} (hx : Fx X cX13_runCommands 5 RX13 8 0 0) (hr : Rt X (some .int) 0 0 (WΨ (xΓ X) B (some (.int (r.1))) r.2 sz)) : ∀ (n : Nat), ∀ (w : Wl) (l1 : Int32) (l2 : Int32) {G : Gf} (hW : Wd (xΓ X) B w G) (h : sX13_runCommands_38 n w l1 l2 = some r), J X 5 G sz 0 0 38 [some (.ref (B.1 + 371)), some (.int l1), some (.int l2), none, none] [] := by
  intro n
  induction n with
  | zero => intro w l1 l2 G hW h; rw [sX13_runCommands_38.eq_1] at h; cases h
  | succ n ih =>
    intro w l1 l2 G hW h
    rw [sX13_runCommands_38.eq_2] at h
    refine J_il4 hx rfl rfl dX13_runCommands_38 ?_
    refine J_if_eq hx 94 dX13_runCommands_39 rfl (fun h1 => ?_) (fun h1 => ?_)
    · replace h := pos h h1
      refine J_il4 hx rfl rfl dX13_runCommands_94 ?_
      obtain rfl := Option.some.inj h
      exact J_iretW hx hr hW dX13_runCommands_95 (Nat.le_refl 0) (Nat.le_refl 0)
    · replace h := neg h h1
      refine J_al4 hx rfl rfl dX13_runCommands_42 ?_
      refine g13_7 hx hW (rfl : kd 371 = 19) fl_X13_255 dX13_runCommands_43 ?_
      refine J_al4 hx rfl rfl dX13_runCommands_46 ?_
      refine g13_4 hx hW (rfl : kd 371 = 19) fl_X13_252 dX13_runCommands_47 ?_
      refine J_icmp_ge hx 94 dX13_runCommands_50 rfl (fun h2 => ?_) (fun h2 => ?_)
      · replace h := pos h h2
        refine J_il4 hx rfl rfl dX13_runCommands_94 ?_
        obtain rfl := Option.some.inj h
        exact J_iretW hx hr hW dX13_runCommands_95 (Nat.le_refl 0) (Nat.le_refl 0)
      · replace h := neg h h2
        refine J_al4 hx rfl rfl dX13_runCommands_53 ?_
        obtain ⟨r3, hr4, h⟩ := bnd h
        refine J_wrV hx (kX13_readCommand  hW hr4) ml_X13_305 lk_X13_readCommand (ci := 11) rfl (hW.obj (rfl : kd 371 = 19) (by decide) (by decide)) (rest := []) rfl rfl (by decide) (by decide) (Nat.le_of_ble_eq_true rfl) (Nat.le_refl 0) (Nat.le_refl 0) dX13_runCommands_54 fun G5 hW6 => ?_
        show J X 5 G5 sz 0 0 57 [some (.ref (B.1 + 371)), some (.int l1), some (.int l2), none, none] [.int (bI r3.1)]
        refine J_bif_eq hx 94 dX13_runCommands_57 rfl (fun h7 => ?_) (fun h7 => ?_)
        · replace h := neg h (bft h7)
          refine J_il4 hx rfl rfl dX13_runCommands_94 ?_
          obtain rfl := Option.some.inj h
          exact J_iretW hx hr hW6 dX13_runCommands_95 (Nat.le_refl 0) (Nat.le_refl 0)
        · replace h := pos h h7
          refine J_al4 hx rfl rfl dX13_runCommands_60 ?_
          obtain ⟨r8, hr9, h⟩ := bnd h
          refine J_rdV hx (kX13_whyNot  hW6 hr9) ml_X13_311 lk_X13_whyNot (ci := 11) rfl (hW6.obj (rfl : kd 371 = 19) (by decide) (by decide)) (rest := []) rfl rfl (by decide) (by decide) (Nat.le_of_ble_eq_true rfl) (Nat.le_refl 0) (Nat.le_refl 0) dX13_runCommands_61 ?_
          refine J_if_ne hx 71 dX13_runCommands_64 rfl (fun h10 => ?_) (fun h10 => ?_)
          · replace h := neg h h10
            refine J_iconst hx (0 : Int32) dX13_runCommands_71 rfl ?_
            refine J_lw (ls' := [some (.ref (B.1 + 371)), some (.int l1), none, none, none]) (lwS (lwS (lwN (lwN (lwN lwZ))))) ?_
            exact tX13_runCommands_72 hx hr _ ih _ _ _  hW6 h
          · replace h := pos h h10
            refine J_iconst hx (1 : Int32) dX13_runCommands_67 rfl ?_
            refine J_goto hx 72 dX13_runCommands_68 rfl ?_
            refine J_lw (ls' := [some (.ref (B.1 + 371)), some (.int l1), none, none, none]) (lwS (lwS (lwN (lwN (lwN lwZ))))) ?_
            exact tX13_runCommands_72 hx hr _ ih _ _ _  hW6 h
def sX13_runCommands (w : Wl) : Option (Int32 × Wl) := (sX13_isGood (wst w 371 5 (0 : Int32)) ).bind (fun r3 => (if r3.1 = true then (sX13_keep r3.2 ).bind (fun r8 => (sX13_skips (wst r8 371 7 (0 : Int32)) ).bind (fun r14 => sX13_runCommands_38 FU r14.2 (0 : Int32) (1 : Int32))) else some (((-10 : Int32) - (r3.2 371 7)), r3.2)))
theorem kX13_runCommands {l : Launch} {Γ : Gl} {B : Bs} {w : Wl} {G : Gf} {sz : Nat} {r : (Int32 × Wl)} (hW : Wd Γ B w G) (h : sX13_runCommands w  = some r) : CtW l Γ yX13_runCommands cX13_runCommands 5 (some .int) 8 [.ref (B.1 + 371)] G sz B (some (.int (r.1))) r.2 := by
  refine Ct.of rfl (Nat.le_of_ble_eq_true rfl) fun X hx hr hl hΓ hnm => ?_
  subst hl hΓ
  show J X 5 G sz 0 0 0 [some (.ref (B.1 + 371)), none, none, none, none] []
  unfold sX13_runCommands at h
  refine J_al4 hx rfl rfl dX13_runCommands_0 ?_
  refine J_iconst hx (0 : Int32) dX13_runCommands_1 rfl ?_
  refine p13_5 hx hW (rfl : kd 371 = 19) fl_X13_25 dX13_runCommands_2 fun G1 hW2 => ?_
  refine J_al4 hx rfl rfl dX13_runCommands_5 ?_
  obtain ⟨r3, hr4, h⟩ := bnd h
  refine J_wrV hx (kX13_isGood  hW2 hr4) ml_X13_308 lk_X13_isGood (ci := 11) rfl (hW2.obj (rfl : kd 371 = 19) (by decide) (by decide)) (rest := []) rfl rfl (by decide) (by decide) (Nat.le_of_ble_eq_true rfl) (Nat.le_refl 0) (Nat.le_refl 0) dX13_runCommands_6 fun G5 hW6 => ?_
  show J X 5 G5 sz 0 0 9 [some (.ref (B.1 + 371)), none, none, none, none] [.int (bI r3.1)]
  refine J_bif_ne hx 20 dX13_runCommands_9 rfl (fun h7 => ?_) (fun h7 => ?_)
  · replace h := pos h h7
    refine J_al4 hx rfl rfl dX13_runCommands_20 ?_
    obtain ⟨r8, hr9, h⟩ := bnd h
    refine J_wrV hx (kX13_keep  hW6 hr9) ml_X13_62 lk_X13_keep (ci := 11) rfl (hW6.obj (rfl : kd 371 = 19) (by decide) (by decide)) (rest := []) rfl rfl (by decide) (by decide) (Nat.le_of_ble_eq_true rfl) (Nat.le_refl 0) (Nat.le_refl 0) dX13_runCommands_21 fun G10 hW11 => ?_
    show J X 5 G10 sz 0 0 24 [some (.ref (B.1 + 371)), none, none, none, none] []
    refine J_al4 hx rfl rfl dX13_runCommands_24 ?_
    refine J_iconst hx (0 : Int32) dX13_runCommands_25 rfl ?_
    refine p13_7 hx hW11 (rfl : kd 371 = 19) fl_X13_255 dX13_runCommands_26 fun G12 hW13 => ?_
    refine J_iconst hx (0 : Int32) dX13_runCommands_29 rfl ?_
    refine J_is4 hx rfl (by decide) (hc_of rfl) rfl dX13_runCommands_30 ?_
    refine J_iconst hx (1 : Int32) dX13_runCommands_31 rfl ?_
    refine J_is4 hx rfl (by decide) (hc_of rfl) rfl dX13_runCommands_32 ?_
    refine J_al4 hx rfl rfl dX13_runCommands_33 ?_
    obtain ⟨r14, hr15, h⟩ := bnd h
    refine J_wrV hx (kX13_skips  hW13 hr15) ml_X13_292 lk_X13_skips (ci := 11) rfl (hW13.obj (rfl : kd 371 = 19) (by decide) (by decide)) (rest := []) rfl rfl (by decide) (by decide) (Nat.le_of_ble_eq_true rfl) (Nat.le_refl 0) (Nat.le_refl 0) dX13_runCommands_34 fun G16 hW17 => ?_
    show J X 5 G16 sz 0 0 37 [some (.ref (B.1 + 371)), some (.int (0 : Int32)), some (.int (1 : Int32)), none, none] [.int (bI r14.1)]
    refine J_is4 hx rfl (by decide) (hc_of rfl) rfl dX13_runCommands_37 ?_
    refine J_lw (ls' := [some (.ref (B.1 + 371)), some (.int (0 : Int32)), some (.int (1 : Int32)), none, none]) (lwS (lwS (lwS (lwN (lwN lwZ))))) ?_
    exact tX13_runCommands_38 hx hr _ _ _ _  hW17 h
  · replace h := neg h (bft h7)
    refine J_bipush hx (-10 : Int32) dX13_runCommands_12 rfl ?_
    refine J_al4 hx rfl rfl dX13_runCommands_14 ?_
    refine g13_7 hx hW6 (rfl : kd 371 = 19) fl_X13_255 dX13_runCommands_15 ?_
    refine J_isub hx dX13_runCommands_18 ?_
    obtain rfl := Option.some.inj h
    exact J_iretW hx hr hW6 dX13_runCommands_19 (Nat.le_refl 0) (Nat.le_refl 0)
theorem dX13_undo_0 : decode cX13_undo 0 = .ok (.aload_n 0, 1) := by decide +kernel
theorem dX13_undo_1 : decode cX13_undo 1 = .ok (.aload_n 0, 1) := by decide +kernel
theorem dX13_undo_2 : decode cX13_undo 2 = .ok (.getfield 29, 3) := by decide +kernel
theorem dX13_undo_5 : decode cX13_undo 5 = .ok (.ifCond .ne 7, 3) := by decide +kernel
theorem dX13_undo_8 : decode cX13_undo 8 = .ok (.iconst 1, 1) := by decide +kernel
theorem dX13_undo_9 : decode cX13_undo 9 = .ok (.goto 4, 3) := by decide +kernel
theorem dX13_undo_12 : decode cX13_undo 12 = .ok (.iconst 0, 1) := by decide +kernel
theorem dX13_undo_13 : decode cX13_undo 13 = .ok (.putfield 25, 3) := by decide +kernel
theorem dX13_undo_16 : decode cX13_undo 16 = .ok (.aload_n 0, 1) := by decide +kernel
theorem dX13_undo_17 : decode cX13_undo 17 = .ok (.getfield 25, 3) := by decide +kernel
theorem dX13_undo_20 : decode cX13_undo 20 = .ok (.ifCond .eq 5, 3) := by decide +kernel
theorem dX13_undo_23 : decode cX13_undo 23 = .ok (.iconst 0, 1) := by decide +kernel
theorem dX13_undo_24 : decode cX13_undo 24 = .ok (.ireturn, 1) := by decide +kernel
theorem dX13_undo_25 : decode cX13_undo 25 = .ok (.aload_n 0, 1) := by decide +kernel
theorem dX13_undo_26 : decode cX13_undo 26 = .ok (.dup, 1) := by decide +kernel
theorem dX13_undo_27 : decode cX13_undo 27 = .ok (.getfield 29, 3) := by decide +kernel
theorem dX13_undo_30 : decode cX13_undo 30 = .ok (.iconst 1, 1) := by decide +kernel
theorem dX13_undo_31 : decode cX13_undo 31 = .ok (.isub, 1) := by decide +kernel
theorem dX13_undo_32 : decode cX13_undo 32 = .ok (.putfield 29, 3) := by decide +kernel
theorem dX13_undo_35 : decode cX13_undo 35 = .ok (.iconst 0, 1) := by decide +kernel
theorem dX13_undo_36 : decode cX13_undo 36 = .ok (.istore_n 1, 1) := by decide +kernel
theorem dX13_undo_37 : decode cX13_undo 37 = .ok (.iload_n 1, 1) := by decide +kernel
theorem dX13_undo_38 : decode cX13_undo 38 = .ok (.sipush 541, 3) := by decide +kernel
theorem dX13_undo_41 : decode cX13_undo 41 = .ok (.if_icmp .ge 30, 3) := by decide +kernel
theorem dX13_undo_44 : decode cX13_undo 44 = .ok (.aload_n 0, 1) := by decide +kernel
theorem dX13_undo_45 : decode cX13_undo 45 = .ok (.getfield 7, 3) := by decide +kernel
theorem dX13_undo_48 : decode cX13_undo 48 = .ok (.iload_n 1, 1) := by decide +kernel
theorem dX13_undo_49 : decode cX13_undo 49 = .ok (.aload_n 0, 1) := by decide +kernel
theorem dX13_undo_50 : decode cX13_undo 50 = .ok (.getfield 13, 3) := by decide +kernel
theorem dX13_undo_53 : decode cX13_undo 53 = .ok (.sipush 541, 3) := by decide +kernel
theorem dX13_undo_56 : decode cX13_undo 56 = .ok (.aload_n 0, 1) := by decide +kernel
theorem dX13_undo_57 : decode cX13_undo 57 = .ok (.getfield 29, 3) := by decide +kernel
theorem dX13_undo_60 : decode cX13_undo 60 = .ok (.imul, 1) := by decide +kernel
theorem dX13_undo_61 : decode cX13_undo 61 = .ok (.iload_n 1, 1) := by decide +kernel
theorem dX13_undo_62 : decode cX13_undo 62 = .ok (.iadd, 1) := by decide +kernel
theorem dX13_undo_63 : decode cX13_undo 63 = .ok (.iaload, 1) := by decide +kernel
theorem dX13_undo_64 : decode cX13_undo 64 = .ok (.iastore, 1) := by decide +kernel
theorem dX13_undo_65 : decode cX13_undo 65 = .ok (.iinc 1 1, 3) := by decide +kernel
theorem dX13_undo_68 : decode cX13_undo 68 = .ok (.goto (-31), 3) := by decide +kernel
theorem dX13_undo_71 : decode cX13_undo 71 = .ok (.aload_n 0, 1) := by decide +kernel
theorem dX13_undo_72 : decode cX13_undo 72 = .ok (.getfield 29, 3) := by decide +kernel
theorem dX13_undo_75 : decode cX13_undo 75 = .ok (.ireturn, 1) := by decide +kernel
def sX13_undo_37 : Nat → Wl → Int32 → Option (Int32 × Wl)
  | 0, _, _ => none
  | n + 1, w, l1 => (if (541 : Int32) ≤ l1 then some ((w 371 2), w) else (idx (((541 : Int32) * (w 371 2)) + l1) 2164).bind (fun c2 => (idx l1 541).bind (fun c4 => sX13_undo_37 n (wst w 372 c4 (w 373 c2)) (l1 + 1))))
theorem tX13_undo_37 {X : Cx} {B : Bs} {sz : Nat} {r : (Int32 × Wl)} (hx : Fx X cX13_undo 2 RX13 0 0 0) (hr : Rt X (some .int) 0 0 (WΨ (xΓ X) B (some (.int (r.1))) r.2 sz)) : ∀ (n : Nat), ∀ (w : Wl) (l1 : Int32) {G : Gf} (hW : Wd (xΓ X) B w G) (h : sX13_undo_37 n w l1 = some r), J X 2 G sz 0 0 37 [some (.ref (B.1 + 371)), some (.int l1)] [] := by
  intro n
  induction n with
  | zero => intro w l1 G hW h; rw [sX13_undo_37.eq_1] at h; cases h
  | succ n ih =>
    intro w l1 G hW h
    rw [sX13_undo_37.eq_2] at h
    refine J_il4 hx rfl rfl dX13_undo_37 ?_
    refine J_sipush hx (541 : Int32) dX13_undo_38 rfl ?_
    refine J_icmp_ge hx 71 dX13_undo_41 rfl (fun h1 => ?_) (fun h1 => ?_)
    · replace h := pos h h1
      refine J_al4 hx rfl rfl dX13_undo_71 ?_
      refine g13_2 hx hW (rfl : kd 371 = 19) fl_X13_29 dX13_undo_72 ?_
      obtain rfl := Option.some.inj h
      exact J_iretW hx hr hW dX13_undo_75 (Nat.le_refl 0) (Nat.le_refl 0)
    · replace h := neg h h1
      refine J_al4 hx rfl rfl dX13_undo_44 ?_
      refine g13_0 hx hW 372 (rfl : kd 371 = 19) fl_X13_7 rfl dX13_undo_45 ?_
      refine J_il4 hx rfl rfl dX13_undo_48 ?_
      refine J_al4 hx rfl rfl dX13_undo_49 ?_
      refine g13_1 hx hW 373 (rfl : kd 371 = 19) fl_X13_13 rfl dX13_undo_50 ?_
      refine J_sipush hx (541 : Int32) dX13_undo_53 rfl ?_
      refine J_al4 hx rfl rfl dX13_undo_56 ?_
      refine g13_2 hx hW (rfl : kd 371 = 19) fl_X13_29 dX13_undo_57 ?_
      refine J_imul hx dX13_undo_60 ?_
      refine J_il4 hx rfl rfl dX13_undo_61 ?_
      refine J_iadd hx dX13_undo_62 ?_
      obtain ⟨c2, hc3, h⟩ := bnd h
      refine J_iaW hx hW (rfl : kd 373 = 2264) hc3 dX13_undo_63 ?_
      obtain ⟨c4, hc5, h⟩ := bnd h
      refine J_iaS hx hW (rfl : kd 372 = 641) hc5 dX13_undo_64 fun G6 hW7 => ?_
      refine J_iinc hx (v' := (l1 + 1)) rfl rfl (by decide) (hc_of rfl) rfl dX13_undo_65 ?_
      refine J_goto hx 37 dX13_undo_68 rfl ?_
      exact ih _ _  hW7 h
def sX13_undo_13 (w : Wl) (s1 : Int32) : Option (Int32 × Wl) := (if ((wst w 371 5 s1) 371 5) = 0 then sX13_undo_37 FU (wst (wst w 371 5 s1) 371 2 (((wst w 371 5 s1) 371 2) - (1 : Int32))) (0 : Int32) else some ((0 : Int32), (wst w 371 5 s1)))
theorem tX13_undo_13 {X : Cx} {B : Bs} {sz : Nat} {r : (Int32 × Wl)} (hx : Fx X cX13_undo 2 RX13 0 0 0) (hr : Rt X (some .int) 0 0 (WΨ (xΓ X) B (some (.int (r.1))) r.2 sz)) : ∀ (w : Wl) (s1 : Int32) {G : Gf} (hW : Wd (xΓ X) B w G) (h : sX13_undo_13  w s1 = some r), J X 2 G sz 0 0 13 [some (.ref (B.1 + 371)), none] [.int s1, .ref (B.1 + 371)] := by
  intro w s1 G hW h
  unfold sX13_undo_13 at h
  refine p13_5 hx hW (rfl : kd 371 = 19) fl_X13_25 dX13_undo_13 fun G1 hW2 => ?_
  refine J_al4 hx rfl rfl dX13_undo_16 ?_
  refine g13_5 hx hW2 (rfl : kd 371 = 19) fl_X13_25 dX13_undo_17 ?_
  refine J_if_eq hx 25 dX13_undo_20 rfl (fun h3 => ?_) (fun h3 => ?_)
  · replace h := pos h h3
    refine J_al4 hx rfl rfl dX13_undo_25 ?_
    refine J_dup hx dX13_undo_26 ?_
    refine g13_2 hx hW2 (rfl : kd 371 = 19) fl_X13_29 dX13_undo_27 ?_
    refine J_iconst hx (1 : Int32) dX13_undo_30 rfl ?_
    refine J_isub hx dX13_undo_31 ?_
    refine p13_2 hx hW2 (rfl : kd 371 = 19) fl_X13_29 dX13_undo_32 fun G4 hW5 => ?_
    refine J_iconst hx (0 : Int32) dX13_undo_35 rfl ?_
    refine J_is4 hx rfl (by decide) (hc_of rfl) rfl dX13_undo_36 ?_
    exact tX13_undo_37 hx hr _ _ _  hW5 h
  · replace h := neg h h3
    refine J_iconst hx (0 : Int32) dX13_undo_23 rfl ?_
    obtain rfl := Option.some.inj h
    exact J_iretW hx hr hW2 dX13_undo_24 (Nat.le_refl 0) (Nat.le_refl 0)
def sX13_undo (w : Wl) : Option (Int32 × Wl) := (if (w 371 2) = 0 then sX13_undo_13 w (1 : Int32) else sX13_undo_13 w (0 : Int32))
theorem kX13_undo {l : Launch} {Γ : Gl} {B : Bs} {w : Wl} {G : Gf} {sz : Nat} {r : (Int32 × Wl)} (hW : Wd Γ B w G) (h : sX13_undo w  = some r) : CtW l Γ yX13_undo cX13_undo 2 (some .int) 0 [.ref (B.1 + 371)] G sz B (some (.int (r.1))) r.2 := by
  refine Ct.of rfl (Nat.le_of_ble_eq_true rfl) fun X hx hr hl hΓ hnm => ?_
  subst hl hΓ
  show J X 2 G sz 0 0 0 [some (.ref (B.1 + 371)), none] []
  unfold sX13_undo at h
  refine J_al4 hx rfl rfl dX13_undo_0 ?_
  refine J_al4 hx rfl rfl dX13_undo_1 ?_
  refine g13_2 hx hW (rfl : kd 371 = 19) fl_X13_29 dX13_undo_2 ?_
  refine J_if_ne hx 12 dX13_undo_5 rfl (fun h1 => ?_) (fun h1 => ?_)
  · replace h := neg h h1
    refine J_iconst hx (0 : Int32) dX13_undo_12 rfl ?_
    exact tX13_undo_13 hx hr _ _  hW h
  · replace h := pos h h1
    refine J_iconst hx (1 : Int32) dX13_undo_8 rfl ?_
    refine J_goto hx 13 dX13_undo_9 rfl ?_
    exact tX13_undo_13 hx hr _ _  hW h
theorem dX13_mix_0 : decode cX13_mix 0 = .ok (.aload_n 0, 1) := by decide +kernel
theorem dX13_mix_1 : decode cX13_mix 1 = .ok (.ldc2_w 317, 3) := by decide +kernel
theorem dX13_mix_4 : decode cX13_mix 4 = .ok (.aload_n 0, 1) := by decide +kernel
theorem dX13_mix_5 : decode cX13_mix 5 = .ok (.getfield 319, 3) := by decide +kernel
theorem dX13_mix_8 : decode cX13_mix 8 = .ok (.lmul, 1) := by decide +kernel
theorem dX13_mix_9 : decode cX13_mix 9 = .ok (.lload_n 1, 1) := by decide +kernel
theorem dX13_mix_10 : decode cX13_mix 10 = .ok (.ladd, 1) := by decide +kernel
theorem dX13_mix_11 : decode cX13_mix 11 = .ok (.putfield 319, 3) := by decide +kernel
theorem dX13_mix_14 : decode cX13_mix 14 = .ok (.return_, 1) := by decide +kernel
def sX13_mix (w : Wl) (l1 : Int64) : Option Wl := some (wrow w 371 (upd (upd (w 371) 10 (hiW (((31 : Int64) * (lofW (w 371 10) (w 371 11))) + l1))) 11 (loW (((31 : Int64) * (lofW (w 371 10) (w 371 11))) + l1))))
theorem kX13_mix {l : Launch} {Γ : Gl} {B : Bs} {w : Wl} {G : Gf} {sz : Nat} {l1 : Int64} {r : Wl} (hW : Wd Γ B w G) (h : sX13_mix w l1 = some r) : CtW l Γ yX13_mix cX13_mix 3 none 0 [.ref (B.1 + 371), .long l1] G sz B none r := by
  refine Ct.of rfl (Nat.le_of_ble_eq_true rfl) fun X hx hr hl hΓ hnm => ?_
  subst hl hΓ
  show J X 3 G sz 0 0 0 [some (.ref (B.1 + 371)), some (.long l1), none] []
  unfold sX13_mix at h
  refine J_al4 hx rfl rfl dX13_mix_0 ?_
  refine J_ldc2 hx cn_X13_317 dX13_mix_1 ?_
  refine J_al4 hx rfl rfl dX13_mix_4 ?_
  refine g13_10 hx hW (rfl : kd 371 = 19) fl_X13_319 dX13_mix_5 ?_
  refine J_lmul hx dX13_mix_8 ?_
  refine J_ll4 hx rfl rfl dX13_mix_9 ?_
  refine J_ladd hx dX13_mix_10 ?_
  refine p13_10 hx hW (rfl : kd 371 = 19) fl_X13_319 dX13_mix_11 fun G1 hW2 => ?_
  obtain rfl := Option.some.inj h
  exact J_vretW hx hr hW2 dX13_mix_14 (Nat.le_refl 0) (Nat.le_refl 0)
theorem dX13_mixWork_0 : decode cX13_mixWork 0 = .ok (.iconst 0, 1) := by decide +kernel
theorem dX13_mixWork_1 : decode cX13_mixWork 1 = .ok (.istore_n 2, 1) := by decide +kernel
theorem dX13_mixWork_2 : decode cX13_mixWork 2 = .ok (.iload_n 2, 1) := by decide +kernel
theorem dX13_mixWork_3 : decode cX13_mixWork 3 = .ok (.bipush 8, 2) := by decide +kernel
theorem dX13_mixWork_5 : decode cX13_mixWork 5 = .ok (.if_icmp .ge 20, 3) := by decide +kernel
theorem dX13_mixWork_8 : decode cX13_mixWork 8 = .ok (.aload_n 0, 1) := by decide +kernel
theorem dX13_mixWork_9 : decode cX13_mixWork 9 = .ok (.aload_n 0, 1) := by decide +kernel
theorem dX13_mixWork_10 : decode cX13_mixWork 10 = .ok (.iload_n 1, 1) := by decide +kernel
theorem dX13_mixWork_11 : decode cX13_mixWork 11 = .ok (.iload_n 2, 1) := by decide +kernel
theorem dX13_mixWork_12 : decode cX13_mixWork 12 = .ok (.invokevirtual 212, 3) := by decide +kernel
theorem dX13_mixWork_15 : decode cX13_mixWork 15 = .ok (.i2l, 1) := by decide +kernel
theorem dX13_mixWork_16 : decode cX13_mixWork 16 = .ok (.invokevirtual 323, 3) := by decide +kernel
theorem dX13_mixWork_19 : decode cX13_mixWork 19 = .ok (.iinc 2 1, 3) := by decide +kernel
theorem dX13_mixWork_22 : decode cX13_mixWork 22 = .ok (.goto (-20), 3) := by decide +kernel
theorem dX13_mixWork_25 : decode cX13_mixWork 25 = .ok (.iconst 0, 1) := by decide +kernel
theorem dX13_mixWork_26 : decode cX13_mixWork 26 = .ok (.istore_n 2, 1) := by decide +kernel
theorem dX13_mixWork_27 : decode cX13_mixWork 27 = .ok (.iload_n 2, 1) := by decide +kernel
theorem dX13_mixWork_28 : decode cX13_mixWork 28 = .ok (.bipush 10, 2) := by decide +kernel
theorem dX13_mixWork_30 : decode cX13_mixWork 30 = .ok (.if_icmp .ge 20, 3) := by decide +kernel
theorem dX13_mixWork_33 : decode cX13_mixWork 33 = .ok (.aload_n 0, 1) := by decide +kernel
theorem dX13_mixWork_34 : decode cX13_mixWork 34 = .ok (.aload_n 0, 1) := by decide +kernel
theorem dX13_mixWork_35 : decode cX13_mixWork 35 = .ok (.iload_n 1, 1) := by decide +kernel
theorem dX13_mixWork_36 : decode cX13_mixWork 36 = .ok (.iload_n 2, 1) := by decide +kernel
theorem dX13_mixWork_37 : decode cX13_mixWork 37 = .ok (.invokevirtual 215, 3) := by decide +kernel
theorem dX13_mixWork_40 : decode cX13_mixWork 40 = .ok (.i2l, 1) := by decide +kernel
theorem dX13_mixWork_41 : decode cX13_mixWork 41 = .ok (.invokevirtual 323, 3) := by decide +kernel
theorem dX13_mixWork_44 : decode cX13_mixWork 44 = .ok (.iinc 2 1, 3) := by decide +kernel
theorem dX13_mixWork_47 : decode cX13_mixWork 47 = .ok (.goto (-20), 3) := by decide +kernel
theorem dX13_mixWork_50 : decode cX13_mixWork 50 = .ok (.aload_n 0, 1) := by decide +kernel
theorem dX13_mixWork_51 : decode cX13_mixWork 51 = .ok (.aload_n 0, 1) := by decide +kernel
theorem dX13_mixWork_52 : decode cX13_mixWork 52 = .ok (.iload_n 1, 1) := by decide +kernel
theorem dX13_mixWork_53 : decode cX13_mixWork 53 = .ok (.invokevirtual 243, 3) := by decide +kernel
theorem dX13_mixWork_56 : decode cX13_mixWork 56 = .ok (.i2l, 1) := by decide +kernel
theorem dX13_mixWork_57 : decode cX13_mixWork 57 = .ok (.invokevirtual 323, 3) := by decide +kernel
theorem dX13_mixWork_60 : decode cX13_mixWork 60 = .ok (.return_, 1) := by decide +kernel
def sX13_mixWork_27 : Nat → Wl → Int32 → Int32 → Option Wl
  | 0, _, _, _ => none
  | n + 1, w, l1, l2 => (if (10 : Int32) ≤ l2 then (sX13_ready w l1).bind (fun r2 => (sX13_mix r2.2 r2.1.toInt64).bind (fun r6 => some r6)) else (sX13_notedOf w l1 l2).bind (fun r10 => (sX13_mix w r10.toInt64).bind (fun r12 => sX13_mixWork_27 n r12 l1 (l2 + 1))))
theorem tX13_mixWork_27 {X : Cx} {B : Bs} {sz : Nat} {r : Wl} (hx : Fx X cX13_mixWork 3 RX13 5 0 0) (hr : Rt X none 0 0 (WΨ (xΓ X) B none r sz)) : ∀ (n : Nat), ∀ (w : Wl) (l1 : Int32) (l2 : Int32) {G : Gf} (hW : Wd (xΓ X) B w G) (h : sX13_mixWork_27 n w l1 l2 = some r), J X 3 G sz 0 0 27 [some (.ref (B.1 + 371)), some (.int l1), some (.int l2)] [] := by
  intro n
  induction n with
  | zero => intro w l1 l2 G hW h; rw [sX13_mixWork_27.eq_1] at h; cases h
  | succ n ih =>
    intro w l1 l2 G hW h
    rw [sX13_mixWork_27.eq_2] at h
    refine J_il4 hx rfl rfl dX13_mixWork_27 ?_
    refine J_bipush hx (10 : Int32) dX13_mixWork_28 rfl ?_
    refine J_icmp_ge hx 50 dX13_mixWork_30 rfl (fun h1 => ?_) (fun h1 => ?_)
    · replace h := pos h h1
      refine J_al4 hx rfl rfl dX13_mixWork_50 ?_
      refine J_al4 hx rfl rfl dX13_mixWork_51 ?_
      refine J_il4 hx rfl rfl dX13_mixWork_52 ?_
      obtain ⟨r2, hr3, h⟩ := bnd h
      refine J_wrV hx (kX13_ready  hW hr3) ml_X13_243 lk_X13_ready (ci := 11) rfl (hW.obj (rfl : kd 371 = 19) (by decide) (by decide)) (rest := [.ref (B.1 + 371)]) rfl rfl (by decide) (by decide) (Nat.le_of_ble_eq_true rfl) (Nat.le_refl 0) (Nat.le_refl 0) dX13_mixWork_53 fun G4 hW5 => ?_
      show J X 3 G4 sz 0 0 56 [some (.ref (B.1 + 371)), some (.int l1), some (.int l2)] [.int r2.1, .ref (B.1 + 371)]
      refine J_i2l hx dX13_mixWork_56 ?_
      obtain ⟨r6, hr7, h⟩ := bnd h
      refine J_wrV hx (kX13_mix  hW5 hr7) ml_X13_323 lk_X13_mix (ci := 11) rfl (hW5.obj (rfl : kd 371 = 19) (by decide) (by decide)) (rest := []) rfl rfl (by decide) (by decide) (Nat.le_of_ble_eq_true rfl) (Nat.le_refl 0) (Nat.le_refl 0) dX13_mixWork_57 fun G8 hW9 => ?_
      show J X 3 G8 sz 0 0 60 [some (.ref (B.1 + 371)), some (.int l1), some (.int l2)] []
      obtain rfl := Option.some.inj h
      exact J_vretW hx hr hW9 dX13_mixWork_60 (Nat.le_refl 0) (Nat.le_refl 0)
    · replace h := neg h h1
      refine J_al4 hx rfl rfl dX13_mixWork_33 ?_
      refine J_al4 hx rfl rfl dX13_mixWork_34 ?_
      refine J_il4 hx rfl rfl dX13_mixWork_35 ?_
      refine J_il4 hx rfl rfl dX13_mixWork_36 ?_
      obtain ⟨r10, hr11, h⟩ := bnd h
      refine J_rdV hx (kX13_notedOf  hW hr11) ml_X13_215 lk_X13_notedOf (ci := 11) rfl (hW.obj (rfl : kd 371 = 19) (by decide) (by decide)) (rest := [.ref (B.1 + 371)]) rfl rfl (by decide) (by decide) (Nat.le_of_ble_eq_true rfl) (Nat.le_refl 0) (Nat.le_refl 0) dX13_mixWork_37 ?_
      refine J_i2l hx dX13_mixWork_40 ?_
      obtain ⟨r12, hr13, h⟩ := bnd h
      refine J_wrV hx (kX13_mix  hW hr13) ml_X13_323 lk_X13_mix (ci := 11) rfl (hW.obj (rfl : kd 371 = 19) (by decide) (by decide)) (rest := []) rfl rfl (by decide) (by decide) (Nat.le_of_ble_eq_true rfl) (Nat.le_refl 0) (Nat.le_refl 0) dX13_mixWork_41 fun G14 hW15 => ?_
      show J X 3 G14 sz 0 0 44 [some (.ref (B.1 + 371)), some (.int l1), some (.int l2)] []
      refine J_iinc hx (v' := (l2 + 1)) rfl rfl (by decide) (hc_of rfl) rfl dX13_mixWork_44 ?_
      refine J_goto hx 27 dX13_mixWork_47 rfl ?_
      exact ih _ _ _  hW15 h
def sX13_mixWork_2 : Nat → Wl → Int32 → Int32 → Option Wl
  | 0, _, _, _ => none
  | n + 1, w, l1, l2 => (if (8 : Int32) ≤ l2 then sX13_mixWork_27 FU w l1 (0 : Int32) else (sX13_workOf w l1 l2).bind (fun r2 => (sX13_mix w r2.toInt64).bind (fun r4 => sX13_mixWork_2 n r4 l1 (l2 + 1))))
theorem tX13_mixWork_2 {X : Cx} {B : Bs} {sz : Nat} {r : Wl} (hx : Fx X cX13_mixWork 3 RX13 5 0 0) (hr : Rt X none 0 0 (WΨ (xΓ X) B none r sz)) : ∀ (n : Nat), ∀ (w : Wl) (l1 : Int32) (l2 : Int32) {G : Gf} (hW : Wd (xΓ X) B w G) (h : sX13_mixWork_2 n w l1 l2 = some r), J X 3 G sz 0 0 2 [some (.ref (B.1 + 371)), some (.int l1), some (.int l2)] [] := by
  intro n
  induction n with
  | zero => intro w l1 l2 G hW h; rw [sX13_mixWork_2.eq_1] at h; cases h
  | succ n ih =>
    intro w l1 l2 G hW h
    rw [sX13_mixWork_2.eq_2] at h
    refine J_il4 hx rfl rfl dX13_mixWork_2 ?_
    refine J_bipush hx (8 : Int32) dX13_mixWork_3 rfl ?_
    refine J_icmp_ge hx 25 dX13_mixWork_5 rfl (fun h1 => ?_) (fun h1 => ?_)
    · replace h := pos h h1
      refine J_iconst hx (0 : Int32) dX13_mixWork_25 rfl ?_
      refine J_is4 hx rfl (by decide) (hc_of rfl) rfl dX13_mixWork_26 ?_
      exact tX13_mixWork_27 hx hr _ _ _ _  hW h
    · replace h := neg h h1
      refine J_al4 hx rfl rfl dX13_mixWork_8 ?_
      refine J_al4 hx rfl rfl dX13_mixWork_9 ?_
      refine J_il4 hx rfl rfl dX13_mixWork_10 ?_
      refine J_il4 hx rfl rfl dX13_mixWork_11 ?_
      obtain ⟨r2, hr3, h⟩ := bnd h
      refine J_rdV hx (kX13_workOf  hW hr3) ml_X13_212 lk_X13_workOf (ci := 11) rfl (hW.obj (rfl : kd 371 = 19) (by decide) (by decide)) (rest := [.ref (B.1 + 371)]) rfl rfl (by decide) (by decide) (Nat.le_of_ble_eq_true rfl) (Nat.le_refl 0) (Nat.le_refl 0) dX13_mixWork_12 ?_
      refine J_i2l hx dX13_mixWork_15 ?_
      obtain ⟨r4, hr5, h⟩ := bnd h
      refine J_wrV hx (kX13_mix  hW hr5) ml_X13_323 lk_X13_mix (ci := 11) rfl (hW.obj (rfl : kd 371 = 19) (by decide) (by decide)) (rest := []) rfl rfl (by decide) (by decide) (Nat.le_of_ble_eq_true rfl) (Nat.le_refl 0) (Nat.le_refl 0) dX13_mixWork_16 fun G6 hW7 => ?_
      show J X 3 G6 sz 0 0 19 [some (.ref (B.1 + 371)), some (.int l1), some (.int l2)] []
      refine J_iinc hx (v' := (l2 + 1)) rfl rfl (by decide) (hc_of rfl) rfl dX13_mixWork_19 ?_
      refine J_goto hx 2 dX13_mixWork_22 rfl ?_
      exact ih _ _ _  hW7 h
def sX13_mixWork (w : Wl) (l1 : Int32) : Option Wl := sX13_mixWork_2 FU w l1 (0 : Int32)
theorem kX13_mixWork {l : Launch} {Γ : Gl} {B : Bs} {w : Wl} {G : Gf} {sz : Nat} {l1 : Int32} {r : Wl} (hW : Wd Γ B w G) (h : sX13_mixWork w l1 = some r) : CtW l Γ yX13_mixWork cX13_mixWork 3 none 5 [.ref (B.1 + 371), .int l1] G sz B none r := by
  refine Ct.of rfl (Nat.le_of_ble_eq_true rfl) fun X hx hr hl hΓ hnm => ?_
  subst hl hΓ
  show J X 3 G sz 0 0 0 [some (.ref (B.1 + 371)), some (.int l1), none] []
  unfold sX13_mixWork at h
  refine J_iconst hx (0 : Int32) dX13_mixWork_0 rfl ?_
  refine J_is4 hx rfl (by decide) (hc_of rfl) rfl dX13_mixWork_1 ?_
  exact tX13_mixWork_2 hx hr _ _ _ _  hW h
theorem dX13_digest_0 : decode cX13_digest 0 = .ok (.aload_n 0, 1) := by decide +kernel
theorem dX13_digest_1 : decode cX13_digest 1 = .ok (.iconst 0, 1) := by decide +kernel
theorem dX13_digest_2 : decode cX13_digest 2 = .ok (.putfield 25, 3) := by decide +kernel
theorem dX13_digest_5 : decode cX13_digest 5 = .ok (.aload_n 0, 1) := by decide +kernel
theorem dX13_digest_6 : decode cX13_digest 6 = .ok (.ldc2_w 327, 3) := by decide +kernel
theorem dX13_digest_9 : decode cX13_digest 9 = .ok (.putfield 319, 3) := by decide +kernel
theorem dX13_digest_12 : decode cX13_digest 12 = .ok (.aload_n 0, 1) := by decide +kernel
theorem dX13_digest_13 : decode cX13_digest 13 = .ok (.aload_n 0, 1) := by decide +kernel
theorem dX13_digest_14 : decode cX13_digest 14 = .ok (.getfield 29, 3) := by decide +kernel
theorem dX13_digest_17 : decode cX13_digest 17 = .ok (.i2l, 1) := by decide +kernel
theorem dX13_digest_18 : decode cX13_digest 18 = .ok (.invokevirtual 323, 3) := by decide +kernel
theorem dX13_digest_21 : decode cX13_digest 21 = .ok (.aload_n 0, 1) := by decide +kernel
theorem dX13_digest_22 : decode cX13_digest 22 = .ok (.aload_n 0, 1) := by decide +kernel
theorem dX13_digest_23 : decode cX13_digest 23 = .ok (.getfield 252, 3) := by decide +kernel
theorem dX13_digest_26 : decode cX13_digest 26 = .ok (.i2l, 1) := by decide +kernel
theorem dX13_digest_27 : decode cX13_digest 27 = .ok (.invokevirtual 323, 3) := by decide +kernel
theorem dX13_digest_30 : decode cX13_digest 30 = .ok (.iconst 0, 1) := by decide +kernel
theorem dX13_digest_31 : decode cX13_digest 31 = .ok (.istore_n 1, 1) := by decide +kernel
theorem dX13_digest_32 : decode cX13_digest 32 = .ok (.iload_n 1, 1) := by decide +kernel
theorem dX13_digest_33 : decode cX13_digest 33 = .ok (.bipush 10, 2) := by decide +kernel
theorem dX13_digest_35 : decode cX13_digest 35 = .ok (.if_icmp .ge 19, 3) := by decide +kernel
theorem dX13_digest_38 : decode cX13_digest 38 = .ok (.aload_n 0, 1) := by decide +kernel
theorem dX13_digest_39 : decode cX13_digest 39 = .ok (.aload_n 0, 1) := by decide +kernel
theorem dX13_digest_40 : decode cX13_digest 40 = .ok (.iload_n 1, 1) := by decide +kernel
theorem dX13_digest_41 : decode cX13_digest 41 = .ok (.invokevirtual 237, 3) := by decide +kernel
theorem dX13_digest_44 : decode cX13_digest 44 = .ok (.i2l, 1) := by decide +kernel
theorem dX13_digest_45 : decode cX13_digest 45 = .ok (.invokevirtual 323, 3) := by decide +kernel
theorem dX13_digest_48 : decode cX13_digest 48 = .ok (.iinc 1 1, 3) := by decide +kernel
theorem dX13_digest_51 : decode cX13_digest 51 = .ok (.goto (-19), 3) := by decide +kernel
theorem dX13_digest_54 : decode cX13_digest 54 = .ok (.iconst 0, 1) := by decide +kernel
theorem dX13_digest_55 : decode cX13_digest 55 = .ok (.istore_n 1, 1) := by decide +kernel
theorem dX13_digest_56 : decode cX13_digest 56 = .ok (.iload_n 1, 1) := by decide +kernel
theorem dX13_digest_57 : decode cX13_digest 57 = .ok (.bipush 9, 2) := by decide +kernel
theorem dX13_digest_59 : decode cX13_digest 59 = .ok (.aload_n 0, 1) := by decide +kernel
theorem dX13_digest_60 : decode cX13_digest 60 = .ok (.getfield 7, 3) := by decide +kernel
theorem dX13_digest_63 : decode cX13_digest 63 = .ok (.iconst 1, 1) := by decide +kernel
theorem dX13_digest_64 : decode cX13_digest 64 = .ok (.iaload, 1) := by decide +kernel
theorem dX13_digest_65 : decode cX13_digest 65 = .ok (.imul, 1) := by decide +kernel
theorem dX13_digest_66 : decode cX13_digest 66 = .ok (.if_icmp .ge 26, 3) := by decide +kernel
theorem dX13_digest_69 : decode cX13_digest 69 = .ok (.aload_n 0, 1) := by decide +kernel
theorem dX13_digest_70 : decode cX13_digest 70 = .ok (.aload_n 0, 1) := by decide +kernel
theorem dX13_digest_71 : decode cX13_digest 71 = .ok (.iload_n 1, 1) := by decide +kernel
theorem dX13_digest_72 : decode cX13_digest 72 = .ok (.bipush 9, 2) := by decide +kernel
theorem dX13_digest_74 : decode cX13_digest 74 = .ok (.idiv, 1) := by decide +kernel
theorem dX13_digest_75 : decode cX13_digest 75 = .ok (.iload_n 1, 1) := by decide +kernel
theorem dX13_digest_76 : decode cX13_digest 76 = .ok (.bipush 9, 2) := by decide +kernel
theorem dX13_digest_78 : decode cX13_digest 78 = .ok (.irem, 1) := by decide +kernel
theorem dX13_digest_79 : decode cX13_digest 79 = .ok (.invokevirtual 228, 3) := by decide +kernel
theorem dX13_digest_82 : decode cX13_digest 82 = .ok (.i2l, 1) := by decide +kernel
theorem dX13_digest_83 : decode cX13_digest 83 = .ok (.invokevirtual 323, 3) := by decide +kernel
theorem dX13_digest_86 : decode cX13_digest 86 = .ok (.iinc 1 1, 3) := by decide +kernel
theorem dX13_digest_89 : decode cX13_digest 89 = .ok (.goto (-33), 3) := by decide +kernel
theorem dX13_digest_92 : decode cX13_digest 92 = .ok (.iconst 0, 1) := by decide +kernel
theorem dX13_digest_93 : decode cX13_digest 93 = .ok (.istore_n 1, 1) := by decide +kernel
theorem dX13_digest_94 : decode cX13_digest 94 = .ok (.iload_n 1, 1) := by decide +kernel
theorem dX13_digest_95 : decode cX13_digest 95 = .ok (.aload_n 0, 1) := by decide +kernel
theorem dX13_digest_96 : decode cX13_digest 96 = .ok (.getfield 7, 3) := by decide +kernel
theorem dX13_digest_99 : decode cX13_digest 99 = .ok (.iconst 2, 1) := by decide +kernel
theorem dX13_digest_100 : decode cX13_digest 100 = .ok (.iaload, 1) := by decide +kernel
theorem dX13_digest_101 : decode cX13_digest 101 = .ok (.if_icmp .ge 44, 3) := by decide +kernel
theorem dX13_digest_104 : decode cX13_digest 104 = .ok (.iconst 0, 1) := by decide +kernel
theorem dX13_digest_105 : decode cX13_digest 105 = .ok (.istore_n 2, 1) := by decide +kernel
theorem dX13_digest_106 : decode cX13_digest 106 = .ok (.iload_n 2, 1) := by decide +kernel
theorem dX13_digest_107 : decode cX13_digest 107 = .ok (.bipush 14, 2) := by decide +kernel
theorem dX13_digest_109 : decode cX13_digest 109 = .ok (.if_icmp .ge 20, 3) := by decide +kernel
theorem dX13_digest_112 : decode cX13_digest 112 = .ok (.aload_n 0, 1) := by decide +kernel
theorem dX13_digest_113 : decode cX13_digest 113 = .ok (.aload_n 0, 1) := by decide +kernel
theorem dX13_digest_114 : decode cX13_digest 114 = .ok (.iload_n 1, 1) := by decide +kernel
theorem dX13_digest_115 : decode cX13_digest 115 = .ok (.iload_n 2, 1) := by decide +kernel
theorem dX13_digest_116 : decode cX13_digest 116 = .ok (.invokevirtual 206, 3) := by decide +kernel
theorem dX13_digest_119 : decode cX13_digest 119 = .ok (.i2l, 1) := by decide +kernel
theorem dX13_digest_120 : decode cX13_digest 120 = .ok (.invokevirtual 323, 3) := by decide +kernel
theorem dX13_digest_123 : decode cX13_digest 123 = .ok (.iinc 2 1, 3) := by decide +kernel
theorem dX13_digest_126 : decode cX13_digest 126 = .ok (.goto (-20), 3) := by decide +kernel
theorem dX13_digest_129 : decode cX13_digest 129 = .ok (.aload_n 0, 1) := by decide +kernel
theorem dX13_digest_130 : decode cX13_digest 130 = .ok (.aload_n 0, 1) := by decide +kernel
theorem dX13_digest_131 : decode cX13_digest 131 = .ok (.iload_n 1, 1) := by decide +kernel
theorem dX13_digest_132 : decode cX13_digest 132 = .ok (.invokevirtual 246, 3) := by decide +kernel
theorem dX13_digest_135 : decode cX13_digest 135 = .ok (.i2l, 1) := by decide +kernel
theorem dX13_digest_136 : decode cX13_digest 136 = .ok (.invokevirtual 323, 3) := by decide +kernel
theorem dX13_digest_139 : decode cX13_digest 139 = .ok (.iinc 1 1, 3) := by decide +kernel
theorem dX13_digest_142 : decode cX13_digest 142 = .ok (.goto (-48), 3) := by decide +kernel
theorem dX13_digest_145 : decode cX13_digest 145 = .ok (.iconst 0, 1) := by decide +kernel
theorem dX13_digest_146 : decode cX13_digest 146 = .ok (.istore_n 1, 1) := by decide +kernel
theorem dX13_digest_147 : decode cX13_digest 147 = .ok (.iload_n 1, 1) := by decide +kernel
theorem dX13_digest_148 : decode cX13_digest 148 = .ok (.aload_n 0, 1) := by decide +kernel
theorem dX13_digest_149 : decode cX13_digest 149 = .ok (.getfield 7, 3) := by decide +kernel
theorem dX13_digest_152 : decode cX13_digest 152 = .ok (.iconst 3, 1) := by decide +kernel
theorem dX13_digest_153 : decode cX13_digest 153 = .ok (.iaload, 1) := by decide +kernel
theorem dX13_digest_154 : decode cX13_digest 154 = .ok (.if_icmp .ge 14, 3) := by decide +kernel
theorem dX13_digest_157 : decode cX13_digest 157 = .ok (.aload_n 0, 1) := by decide +kernel
theorem dX13_digest_158 : decode cX13_digest 158 = .ok (.iload_n 1, 1) := by decide +kernel
theorem dX13_digest_159 : decode cX13_digest 159 = .ok (.invokevirtual 329, 3) := by decide +kernel
theorem dX13_digest_162 : decode cX13_digest 162 = .ok (.iinc 1 1, 3) := by decide +kernel
theorem dX13_digest_165 : decode cX13_digest 165 = .ok (.goto (-18), 3) := by decide +kernel
theorem dX13_digest_168 : decode cX13_digest 168 = .ok (.iconst 0, 1) := by decide +kernel
theorem dX13_digest_169 : decode cX13_digest 169 = .ok (.istore_n 1, 1) := by decide +kernel
theorem dX13_digest_170 : decode cX13_digest 170 = .ok (.iload_n 1, 1) := by decide +kernel
theorem dX13_digest_171 : decode cX13_digest 171 = .ok (.aload_n 0, 1) := by decide +kernel
theorem dX13_digest_172 : decode cX13_digest 172 = .ok (.getfield 7, 3) := by decide +kernel
theorem dX13_digest_175 : decode cX13_digest 175 = .ok (.iconst 4, 1) := by decide +kernel
theorem dX13_digest_176 : decode cX13_digest 176 = .ok (.iaload, 1) := by decide +kernel
theorem dX13_digest_177 : decode cX13_digest 177 = .ok (.if_icmp .ge 26, 3) := by decide +kernel
theorem dX13_digest_180 : decode cX13_digest 180 = .ok (.aload_n 0, 1) := by decide +kernel
theorem dX13_digest_181 : decode cX13_digest 181 = .ok (.aload_n 0, 1) := by decide +kernel
theorem dX13_digest_182 : decode cX13_digest 182 = .ok (.getfield 7, 3) := by decide +kernel
theorem dX13_digest_185 : decode cX13_digest 185 = .ok (.sipush 137, 3) := by decide +kernel
theorem dX13_digest_188 : decode cX13_digest 188 = .ok (.iconst 2, 1) := by decide +kernel
theorem dX13_digest_189 : decode cX13_digest 189 = .ok (.iload_n 1, 1) := by decide +kernel
theorem dX13_digest_190 : decode cX13_digest 190 = .ok (.imul, 1) := by decide +kernel
theorem dX13_digest_191 : decode cX13_digest 191 = .ok (.iadd, 1) := by decide +kernel
theorem dX13_digest_192 : decode cX13_digest 192 = .ok (.iaload, 1) := by decide +kernel
theorem dX13_digest_193 : decode cX13_digest 193 = .ok (.i2l, 1) := by decide +kernel
theorem dX13_digest_194 : decode cX13_digest 194 = .ok (.invokevirtual 323, 3) := by decide +kernel
theorem dX13_digest_197 : decode cX13_digest 197 = .ok (.iinc 1 1, 3) := by decide +kernel
theorem dX13_digest_200 : decode cX13_digest 200 = .ok (.goto (-30), 3) := by decide +kernel
theorem dX13_digest_203 : decode cX13_digest 203 = .ok (.aload_n 0, 1) := by decide +kernel
theorem dX13_digest_204 : decode cX13_digest 204 = .ok (.getfield 319, 3) := by decide +kernel
theorem dX13_digest_207 : decode cX13_digest 207 = .ok (.lreturn, 1) := by decide +kernel
def sX13_digest_170 : Nat → Wl → Int32 → Option (Int64 × Wl)
  | 0, _, _ => none
  | n + 1, w, l1 => (if (w 372 4) ≤ l1 then some ((lofW (w 371 10) (w 371 11)), w) else (idx ((137 : Int32) + ((2 : Int32) * l1)) 541).bind (fun c2 => (sX13_mix w ((w 372 c2).toInt64)).bind (fun r4 => sX13_digest_170 n r4 (l1 + 1))))
theorem tX13_digest_170 {X : Cx} {B : Bs} {sz : Nat} {r : (Int64 × Wl)} (hx : Fx X cX13_digest 3 RX13 6 0 0) (hr : Rt X (some .long) 0 0 (WΨ (xΓ X) B (some (.long (r.1))) r.2 sz)) : ∀ (n : Nat), ∀ (w : Wl) (l1 : Int32) {G : Gf} (hW : Wd (xΓ X) B w G) (h : sX13_digest_170 n w l1 = some r), J X 3 G sz 0 0 170 [some (.ref (B.1 + 371)), some (.int l1), none] [] := by
  intro n
  induction n with
  | zero => intro w l1 G hW h; rw [sX13_digest_170.eq_1] at h; cases h
  | succ n ih =>
    intro w l1 G hW h
    rw [sX13_digest_170.eq_2] at h
    refine J_il4 hx rfl rfl dX13_digest_170 ?_
    refine J_al4 hx rfl rfl dX13_digest_171 ?_
    refine g13_0 hx hW 372 (rfl : kd 371 = 19) fl_X13_7 rfl dX13_digest_172 ?_
    refine J_iconst hx (4 : Int32) dX13_digest_175 rfl ?_
    refine J_iaW hx hW (rfl : kd 372 = 641) (by decide +kernel : idx (4 : Int32) 541 = some 4) dX13_digest_176 ?_
    refine J_icmp_ge hx 203 dX13_digest_177 rfl (fun h1 => ?_) (fun h1 => ?_)
    · replace h := pos h h1
      refine J_al4 hx rfl rfl dX13_digest_203 ?_
      refine g13_10 hx hW (rfl : kd 371 = 19) fl_X13_319 dX13_digest_204 ?_
      obtain rfl := Option.some.inj h
      exact J_lretW hx hr hW dX13_digest_207 (Nat.le_refl 0) (Nat.le_refl 0)
    · replace h := neg h h1
      refine J_al4 hx rfl rfl dX13_digest_180 ?_
      refine J_al4 hx rfl rfl dX13_digest_181 ?_
      refine g13_0 hx hW 372 (rfl : kd 371 = 19) fl_X13_7 rfl dX13_digest_182 ?_
      refine J_sipush hx (137 : Int32) dX13_digest_185 rfl ?_
      refine J_iconst hx (2 : Int32) dX13_digest_188 rfl ?_
      refine J_il4 hx rfl rfl dX13_digest_189 ?_
      refine J_imul hx dX13_digest_190 ?_
      refine J_iadd hx dX13_digest_191 ?_
      obtain ⟨c2, hc3, h⟩ := bnd h
      refine J_iaW hx hW (rfl : kd 372 = 641) hc3 dX13_digest_192 ?_
      refine J_i2l hx dX13_digest_193 ?_
      obtain ⟨r4, hr5, h⟩ := bnd h
      refine J_wrV hx (kX13_mix  hW hr5) ml_X13_323 lk_X13_mix (ci := 11) rfl (hW.obj (rfl : kd 371 = 19) (by decide) (by decide)) (rest := []) rfl rfl (by decide) (by decide) (Nat.le_of_ble_eq_true rfl) (Nat.le_refl 0) (Nat.le_refl 0) dX13_digest_194 fun G6 hW7 => ?_
      show J X 3 G6 sz 0 0 197 [some (.ref (B.1 + 371)), some (.int l1), none] []
      refine J_iinc hx (v' := (l1 + 1)) rfl rfl (by decide) (hc_of rfl) rfl dX13_digest_197 ?_
      refine J_goto hx 170 dX13_digest_200 rfl ?_
      exact ih _ _  hW7 h
def sX13_digest_147 : Nat → Wl → Int32 → Option (Int64 × Wl)
  | 0, _, _ => none
  | n + 1, w, l1 => (if (w 372 3) ≤ l1 then sX13_digest_170 FU w (0 : Int32) else (sX13_mixWork w l1).bind (fun r2 => sX13_digest_147 n r2 (l1 + 1)))
theorem tX13_digest_147 {X : Cx} {B : Bs} {sz : Nat} {r : (Int64 × Wl)} (hx : Fx X cX13_digest 3 RX13 6 0 0) (hr : Rt X (some .long) 0 0 (WΨ (xΓ X) B (some (.long (r.1))) r.2 sz)) : ∀ (n : Nat), ∀ (w : Wl) (l1 : Int32) {G : Gf} (hW : Wd (xΓ X) B w G) (h : sX13_digest_147 n w l1 = some r), J X 3 G sz 0 0 147 [some (.ref (B.1 + 371)), some (.int l1), none] [] := by
  intro n
  induction n with
  | zero => intro w l1 G hW h; rw [sX13_digest_147.eq_1] at h; cases h
  | succ n ih =>
    intro w l1 G hW h
    rw [sX13_digest_147.eq_2] at h
    refine J_il4 hx rfl rfl dX13_digest_147 ?_
    refine J_al4 hx rfl rfl dX13_digest_148 ?_
    refine g13_0 hx hW 372 (rfl : kd 371 = 19) fl_X13_7 rfl dX13_digest_149 ?_
    refine J_iconst hx (3 : Int32) dX13_digest_152 rfl ?_
    refine J_iaW hx hW (rfl : kd 372 = 641) (by decide +kernel : idx (3 : Int32) 541 = some 3) dX13_digest_153 ?_
    refine J_icmp_ge hx 168 dX13_digest_154 rfl (fun h1 => ?_) (fun h1 => ?_)
    · replace h := pos h h1
      refine J_iconst hx (0 : Int32) dX13_digest_168 rfl ?_
      refine J_is4 hx rfl (by decide) (hc_of rfl) rfl dX13_digest_169 ?_
      exact tX13_digest_170 hx hr _ _ _  hW h
    · replace h := neg h h1
      refine J_al4 hx rfl rfl dX13_digest_157 ?_
      refine J_il4 hx rfl rfl dX13_digest_158 ?_
      obtain ⟨r2, hr3, h⟩ := bnd h
      refine J_wrV hx (kX13_mixWork  hW hr3) ml_X13_329 lk_X13_mixWork (ci := 11) rfl (hW.obj (rfl : kd 371 = 19) (by decide) (by decide)) (rest := []) rfl rfl (by decide) (by decide) (Nat.le_of_ble_eq_true rfl) (Nat.le_refl 0) (Nat.le_refl 0) dX13_digest_159 fun G4 hW5 => ?_
      show J X 3 G4 sz 0 0 162 [some (.ref (B.1 + 371)), some (.int l1), none] []
      refine J_iinc hx (v' := (l1 + 1)) rfl rfl (by decide) (hc_of rfl) rfl dX13_digest_162 ?_
      refine J_goto hx 147 dX13_digest_165 rfl ?_
      exact ih _ _  hW5 h
def sX13_digest_106 (k94 : Wl → Int32 → Option (Int64 × Wl)) : Nat → Wl → Int32 → Int32 → Option (Int64 × Wl)
  | 0, _, _, _ => none
  | n + 1, w, l1, l2 => (if (14 : Int32) ≤ l2 then (sX13_allReady w l1).bind (fun r2 => (sX13_mix r2.2 r2.1.toInt64).bind (fun r6 => k94 r6 (l1 + 1))) else (sX13_crateOf w l1 l2).bind (fun r10 => (sX13_mix w r10.toInt64).bind (fun r12 => sX13_digest_106 k94 n r12 l1 (l2 + 1))))
theorem tX13_digest_106 {X : Cx} {B : Bs} {sz : Nat} {r : (Int64 × Wl)} (hx : Fx X cX13_digest 3 RX13 6 0 0) (hr : Rt X (some .long) 0 0 (WΨ (xΓ X) B (some (.long (r.1))) r.2 sz)) (k94 : Wl → Int32 → Option (Int64 × Wl)) (hk94 : ∀ (w : Wl) (l1 : Int32) {G : Gf} (hW : Wd (xΓ X) B w G) (h : k94 w l1 = some r), J X 3 G sz 0 0 94 [some (.ref (B.1 + 371)), some (.int l1), none] []) : ∀ (n : Nat), ∀ (w : Wl) (l1 : Int32) (l2 : Int32) {G : Gf} (hW : Wd (xΓ X) B w G) (h : sX13_digest_106 k94 n w l1 l2 = some r), J X 3 G sz 0 0 106 [some (.ref (B.1 + 371)), some (.int l1), some (.int l2)] [] := by
  intro n
  induction n with
  | zero => intro w l1 l2 G hW h; rw [sX13_digest_106.eq_1] at h; cases h
  | succ n ih =>
    intro w l1 l2 G hW h
    rw [sX13_digest_106.eq_2] at h
    refine J_il4 hx rfl rfl dX13_digest_106 ?_
    refine J_bipush hx (14 : Int32) dX13_digest_107 rfl ?_
    refine J_icmp_ge hx 129 dX13_digest_109 rfl (fun h1 => ?_) (fun h1 => ?_)
    · replace h := pos h h1
      refine J_al4 hx rfl rfl dX13_digest_129 ?_
      refine J_al4 hx rfl rfl dX13_digest_130 ?_
      refine J_il4 hx rfl rfl dX13_digest_131 ?_
      obtain ⟨r2, hr3, h⟩ := bnd h
      refine J_wrV hx (kX13_allReady  hW hr3) ml_X13_246 lk_X13_allReady (ci := 11) rfl (hW.obj (rfl : kd 371 = 19) (by decide) (by decide)) (rest := [.ref (B.1 + 371)]) rfl rfl (by decide) (by decide) (Nat.le_of_ble_eq_true rfl) (Nat.le_refl 0) (Nat.le_refl 0) dX13_digest_132 fun G4 hW5 => ?_
      show J X 3 G4 sz 0 0 135 [some (.ref (B.1 + 371)), some (.int l1), some (.int l2)] [.int r2.1, .ref (B.1 + 371)]
      refine J_i2l hx dX13_digest_135 ?_
      obtain ⟨r6, hr7, h⟩ := bnd h
      refine J_wrV hx (kX13_mix  hW5 hr7) ml_X13_323 lk_X13_mix (ci := 11) rfl (hW5.obj (rfl : kd 371 = 19) (by decide) (by decide)) (rest := []) rfl rfl (by decide) (by decide) (Nat.le_of_ble_eq_true rfl) (Nat.le_refl 0) (Nat.le_refl 0) dX13_digest_136 fun G8 hW9 => ?_
      show J X 3 G8 sz 0 0 139 [some (.ref (B.1 + 371)), some (.int l1), some (.int l2)] []
      refine J_iinc hx (v' := (l1 + 1)) rfl rfl (by decide) (hc_of rfl) rfl dX13_digest_139 ?_
      refine J_goto hx 94 dX13_digest_142 rfl ?_
      refine J_lw (ls' := [some (.ref (B.1 + 371)), some (.int (l1 + 1)), none]) (lwS (lwS (lwN lwZ))) ?_
      exact hk94 _ _  hW9 h
    · replace h := neg h h1
      refine J_al4 hx rfl rfl dX13_digest_112 ?_
      refine J_al4 hx rfl rfl dX13_digest_113 ?_
      refine J_il4 hx rfl rfl dX13_digest_114 ?_
      refine J_il4 hx rfl rfl dX13_digest_115 ?_
      obtain ⟨r10, hr11, h⟩ := bnd h
      refine J_rdV hx (kX13_crateOf  hW hr11) ml_X13_206 lk_X13_crateOf (ci := 11) rfl (hW.obj (rfl : kd 371 = 19) (by decide) (by decide)) (rest := [.ref (B.1 + 371)]) rfl rfl (by decide) (by decide) (Nat.le_of_ble_eq_true rfl) (Nat.le_refl 0) (Nat.le_refl 0) dX13_digest_116 ?_
      refine J_i2l hx dX13_digest_119 ?_
      obtain ⟨r12, hr13, h⟩ := bnd h
      refine J_wrV hx (kX13_mix  hW hr13) ml_X13_323 lk_X13_mix (ci := 11) rfl (hW.obj (rfl : kd 371 = 19) (by decide) (by decide)) (rest := []) rfl rfl (by decide) (by decide) (Nat.le_of_ble_eq_true rfl) (Nat.le_refl 0) (Nat.le_refl 0) dX13_digest_120 fun G14 hW15 => ?_
      show J X 3 G14 sz 0 0 123 [some (.ref (B.1 + 371)), some (.int l1), some (.int l2)] []
      refine J_iinc hx (v' := (l2 + 1)) rfl rfl (by decide) (hc_of rfl) rfl dX13_digest_123 ?_
      refine J_goto hx 106 dX13_digest_126 rfl ?_
      exact ih _ _ _  hW15 h
def sX13_digest_94 : Nat → Wl → Int32 → Option (Int64 × Wl)
  | 0, _, _ => none
  | n + 1, w, l1 => (if (w 372 2) ≤ l1 then sX13_digest_147 FU w (0 : Int32) else sX13_digest_106 (fun w l1 => sX13_digest_94 n w l1) FU w l1 (0 : Int32))
theorem tX13_digest_94 {X : Cx} {B : Bs} {sz : Nat} {r : (Int64 × Wl)} (hx : Fx X cX13_digest 3 RX13 6 0 0) (hr : Rt X (some .long) 0 0 (WΨ (xΓ X) B (some (.long (r.1))) r.2 sz)) : ∀ (n : Nat), ∀ (w : Wl) (l1 : Int32) {G : Gf} (hW : Wd (xΓ X) B w G) (h : sX13_digest_94 n w l1 = some r), J X 3 G sz 0 0 94 [some (.ref (B.1 + 371)), some (.int l1), none] [] := by
  intro n
  induction n with
  | zero => intro w l1 G hW h; rw [sX13_digest_94.eq_1] at h; cases h
  | succ n ih =>
    intro w l1 G hW h
    rw [sX13_digest_94.eq_2] at h
    refine J_il4 hx rfl rfl dX13_digest_94 ?_
    refine J_al4 hx rfl rfl dX13_digest_95 ?_
    refine g13_0 hx hW 372 (rfl : kd 371 = 19) fl_X13_7 rfl dX13_digest_96 ?_
    refine J_iconst hx (2 : Int32) dX13_digest_99 rfl ?_
    refine J_iaW hx hW (rfl : kd 372 = 641) (by decide +kernel : idx (2 : Int32) 541 = some 2) dX13_digest_100 ?_
    refine J_icmp_ge hx 145 dX13_digest_101 rfl (fun h1 => ?_) (fun h1 => ?_)
    · replace h := pos h h1
      refine J_iconst hx (0 : Int32) dX13_digest_145 rfl ?_
      refine J_is4 hx rfl (by decide) (hc_of rfl) rfl dX13_digest_146 ?_
      exact tX13_digest_147 hx hr _ _ _  hW h
    · replace h := neg h h1
      refine J_iconst hx (0 : Int32) dX13_digest_104 rfl ?_
      refine J_is4 hx rfl (by decide) (hc_of rfl) rfl dX13_digest_105 ?_
      exact tX13_digest_106 hx hr _ ih _ _ _ _  hW h
def sX13_digest_56 : Nat → Wl → Int32 → Option (Int64 × Wl)
  | 0, _, _ => none
  | n + 1, w, l1 => (if ((9 : Int32) * (w 372 1)) ≤ l1 then sX13_digest_94 FU w (0 : Int32) else (sX13_venueOfWhat w (l1 / (9 : Int32)) (l1 - (l1 / (9 : Int32)) * (9 : Int32))).bind (fun r2 => (sX13_mix w r2.toInt64).bind (fun r4 => sX13_digest_56 n r4 (l1 + 1))))
theorem tX13_digest_56 {X : Cx} {B : Bs} {sz : Nat} {r : (Int64 × Wl)} (hx : Fx X cX13_digest 3 RX13 6 0 0) (hr : Rt X (some .long) 0 0 (WΨ (xΓ X) B (some (.long (r.1))) r.2 sz)) : ∀ (n : Nat), ∀ (w : Wl) (l1 : Int32) {G : Gf} (hW : Wd (xΓ X) B w G) (h : sX13_digest_56 n w l1 = some r), J X 3 G sz 0 0 56 [some (.ref (B.1 + 371)), some (.int l1), none] [] := by
  intro n
  induction n with
  | zero => intro w l1 G hW h; rw [sX13_digest_56.eq_1] at h; cases h
  | succ n ih =>
    intro w l1 G hW h
    rw [sX13_digest_56.eq_2] at h
    refine J_il4 hx rfl rfl dX13_digest_56 ?_
    refine J_bipush hx (9 : Int32) dX13_digest_57 rfl ?_
    refine J_al4 hx rfl rfl dX13_digest_59 ?_
    refine g13_0 hx hW 372 (rfl : kd 371 = 19) fl_X13_7 rfl dX13_digest_60 ?_
    refine J_iconst hx (1 : Int32) dX13_digest_63 rfl ?_
    refine J_iaW hx hW (rfl : kd 372 = 641) (by decide +kernel : idx (1 : Int32) 541 = some 1) dX13_digest_64 ?_
    refine J_imul hx dX13_digest_65 ?_
    refine J_icmp_ge hx 92 dX13_digest_66 rfl (fun h1 => ?_) (fun h1 => ?_)
    · replace h := pos h h1
      refine J_iconst hx (0 : Int32) dX13_digest_92 rfl ?_
      refine J_is4 hx rfl (by decide) (hc_of rfl) rfl dX13_digest_93 ?_
      exact tX13_digest_94 hx hr _ _ _  hW h
    · replace h := neg h h1
      refine J_al4 hx rfl rfl dX13_digest_69 ?_
      refine J_al4 hx rfl rfl dX13_digest_70 ?_
      refine J_il4 hx rfl rfl dX13_digest_71 ?_
      refine J_bipush hx (9 : Int32) dX13_digest_72 rfl ?_
      refine J_idiv hx (by decide) dX13_digest_74 ?_
      refine J_il4 hx rfl rfl dX13_digest_75 ?_
      refine J_bipush hx (9 : Int32) dX13_digest_76 rfl ?_
      refine J_irem hx (by decide) dX13_digest_78 ?_
      obtain ⟨r2, hr3, h⟩ := bnd h
      refine J_rdV hx (kX13_venueOfWhat  hW hr3) ml_X13_228 lk_X13_venueOfWhat (ci := 11) rfl (hW.obj (rfl : kd 371 = 19) (by decide) (by decide)) (rest := [.ref (B.1 + 371)]) rfl rfl (by decide) (by decide) (Nat.le_of_ble_eq_true rfl) (Nat.le_refl 0) (Nat.le_refl 0) dX13_digest_79 ?_
      refine J_i2l hx dX13_digest_82 ?_
      obtain ⟨r4, hr5, h⟩ := bnd h
      refine J_wrV hx (kX13_mix  hW hr5) ml_X13_323 lk_X13_mix (ci := 11) rfl (hW.obj (rfl : kd 371 = 19) (by decide) (by decide)) (rest := []) rfl rfl (by decide) (by decide) (Nat.le_of_ble_eq_true rfl) (Nat.le_refl 0) (Nat.le_refl 0) dX13_digest_83 fun G6 hW7 => ?_
      show J X 3 G6 sz 0 0 86 [some (.ref (B.1 + 371)), some (.int l1), none] []
      refine J_iinc hx (v' := (l1 + 1)) rfl rfl (by decide) (hc_of rfl) rfl dX13_digest_86 ?_
      refine J_goto hx 56 dX13_digest_89 rfl ?_
      exact ih _ _  hW7 h
def sX13_digest_32 : Nat → Wl → Int32 → Option (Int64 × Wl)
  | 0, _, _ => none
  | n + 1, w, l1 => (if (10 : Int32) ≤ l1 then sX13_digest_56 FU w (0 : Int32) else (sX13_wholeOf w l1).bind (fun r2 => (sX13_mix w r2.toInt64).bind (fun r4 => sX13_digest_32 n r4 (l1 + 1))))
theorem tX13_digest_32 {X : Cx} {B : Bs} {sz : Nat} {r : (Int64 × Wl)} (hx : Fx X cX13_digest 3 RX13 6 0 0) (hr : Rt X (some .long) 0 0 (WΨ (xΓ X) B (some (.long (r.1))) r.2 sz)) : ∀ (n : Nat), ∀ (w : Wl) (l1 : Int32) {G : Gf} (hW : Wd (xΓ X) B w G) (h : sX13_digest_32 n w l1 = some r), J X 3 G sz 0 0 32 [some (.ref (B.1 + 371)), some (.int l1), none] [] := by
  intro n
  induction n with
  | zero => intro w l1 G hW h; rw [sX13_digest_32.eq_1] at h; cases h
  | succ n ih =>
    intro w l1 G hW h
    rw [sX13_digest_32.eq_2] at h
    refine J_il4 hx rfl rfl dX13_digest_32 ?_
    refine J_bipush hx (10 : Int32) dX13_digest_33 rfl ?_
    refine J_icmp_ge hx 54 dX13_digest_35 rfl (fun h1 => ?_) (fun h1 => ?_)
    · replace h := pos h h1
      refine J_iconst hx (0 : Int32) dX13_digest_54 rfl ?_
      refine J_is4 hx rfl (by decide) (hc_of rfl) rfl dX13_digest_55 ?_
      exact tX13_digest_56 hx hr _ _ _  hW h
    · replace h := neg h h1
      refine J_al4 hx rfl rfl dX13_digest_38 ?_
      refine J_al4 hx rfl rfl dX13_digest_39 ?_
      refine J_il4 hx rfl rfl dX13_digest_40 ?_
      obtain ⟨r2, hr3, h⟩ := bnd h
      refine J_rdV hx (kX13_wholeOf  hW hr3) ml_X13_237 lk_X13_wholeOf (ci := 11) rfl (hW.obj (rfl : kd 371 = 19) (by decide) (by decide)) (rest := [.ref (B.1 + 371)]) rfl rfl (by decide) (by decide) (Nat.le_of_ble_eq_true rfl) (Nat.le_refl 0) (Nat.le_refl 0) dX13_digest_41 ?_
      refine J_i2l hx dX13_digest_44 ?_
      obtain ⟨r4, hr5, h⟩ := bnd h
      refine J_wrV hx (kX13_mix  hW hr5) ml_X13_323 lk_X13_mix (ci := 11) rfl (hW.obj (rfl : kd 371 = 19) (by decide) (by decide)) (rest := []) rfl rfl (by decide) (by decide) (Nat.le_of_ble_eq_true rfl) (Nat.le_refl 0) (Nat.le_refl 0) dX13_digest_45 fun G6 hW7 => ?_
      show J X 3 G6 sz 0 0 48 [some (.ref (B.1 + 371)), some (.int l1), none] []
      refine J_iinc hx (v' := (l1 + 1)) rfl rfl (by decide) (hc_of rfl) rfl dX13_digest_48 ?_
      refine J_goto hx 32 dX13_digest_51 rfl ?_
      exact ih _ _  hW7 h
def sX13_digest (w : Wl) : Option (Int64 × Wl) := (sX13_mix (wrow (wst w 371 5 (0 : Int32)) 371 (upd (upd ((wst w 371 5 (0 : Int32)) 371) 10 (hiW (43003 : Int64))) 11 (loW (43003 : Int64)))) (((wrow (wst w 371 5 (0 : Int32)) 371 (upd (upd ((wst w 371 5 (0 : Int32)) 371) 10 (hiW (43003 : Int64))) 11 (loW (43003 : Int64)))) 371 2).toInt64)).bind (fun r5 => (sX13_mix r5 ((r5 371 4).toInt64)).bind (fun r9 => sX13_digest_32 FU r9 (0 : Int32)))
theorem kX13_digest {l : Launch} {Γ : Gl} {B : Bs} {w : Wl} {G : Gf} {sz : Nat} {r : (Int64 × Wl)} (hW : Wd Γ B w G) (h : sX13_digest w  = some r) : CtW l Γ yX13_digest cX13_digest 3 (some .long) 6 [.ref (B.1 + 371)] G sz B (some (.long (r.1))) r.2 := by
  refine Ct.of rfl (Nat.le_of_ble_eq_true rfl) fun X hx hr hl hΓ hnm => ?_
  subst hl hΓ
  show J X 3 G sz 0 0 0 [some (.ref (B.1 + 371)), none, none] []
  unfold sX13_digest at h
  refine J_al4 hx rfl rfl dX13_digest_0 ?_
  refine J_iconst hx (0 : Int32) dX13_digest_1 rfl ?_
  refine p13_5 hx hW (rfl : kd 371 = 19) fl_X13_25 dX13_digest_2 fun G1 hW2 => ?_
  refine J_al4 hx rfl rfl dX13_digest_5 ?_
  refine J_ldc2 hx cn_X13_327 dX13_digest_6 ?_
  refine p13_10 hx hW2 (rfl : kd 371 = 19) fl_X13_319 dX13_digest_9 fun G3 hW4 => ?_
  refine J_al4 hx rfl rfl dX13_digest_12 ?_
  refine J_al4 hx rfl rfl dX13_digest_13 ?_
  refine g13_2 hx hW4 (rfl : kd 371 = 19) fl_X13_29 dX13_digest_14 ?_
  refine J_i2l hx dX13_digest_17 ?_
  obtain ⟨r5, hr6, h⟩ := bnd h
  refine J_wrV hx (kX13_mix  hW4 hr6) ml_X13_323 lk_X13_mix (ci := 11) rfl (hW4.obj (rfl : kd 371 = 19) (by decide) (by decide)) (rest := []) rfl rfl (by decide) (by decide) (Nat.le_of_ble_eq_true rfl) (Nat.le_refl 0) (Nat.le_refl 0) dX13_digest_18 fun G7 hW8 => ?_
  show J X 3 G7 sz 0 0 21 [some (.ref (B.1 + 371)), none, none] []
  refine J_al4 hx rfl rfl dX13_digest_21 ?_
  refine J_al4 hx rfl rfl dX13_digest_22 ?_
  refine g13_4 hx hW8 (rfl : kd 371 = 19) fl_X13_252 dX13_digest_23 ?_
  refine J_i2l hx dX13_digest_26 ?_
  obtain ⟨r9, hr10, h⟩ := bnd h
  refine J_wrV hx (kX13_mix  hW8 hr10) ml_X13_323 lk_X13_mix (ci := 11) rfl (hW8.obj (rfl : kd 371 = 19) (by decide) (by decide)) (rest := []) rfl rfl (by decide) (by decide) (Nat.le_of_ble_eq_true rfl) (Nat.le_refl 0) (Nat.le_refl 0) dX13_digest_27 fun G11 hW12 => ?_
  show J X 3 G11 sz 0 0 30 [some (.ref (B.1 + 371)), none, none] []
  refine J_iconst hx (0 : Int32) dX13_digest_30 rfl ?_
  refine J_is4 hx rfl (by decide) (hc_of rfl) rfl dX13_digest_31 ?_
  exact tX13_digest_32 hx hr _ _ _  hW12 h
