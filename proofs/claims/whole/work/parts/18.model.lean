/-! Mirrors and walks, written by wip/whole/gen_walks.py -/
theorem dX13_close_0 : decode cX13_close 0 = .ok (.aload_n 0, 1) := by decide +kernel
theorem dX13_close_1 : decode cX13_close 1 = .ok (.aload_n 0, 1) := by decide +kernel
theorem dX13_close_2 : decode cX13_close 2 = .ok (.iload_n 1, 1) := by decide +kernel
theorem dX13_close_3 : decode cX13_close 3 = .ok (.invokevirtual 106, 3) := by decide +kernel
theorem dX13_close_6 : decode cX13_close 6 = .ok (.putfield 25, 3) := by decide +kernel
theorem dX13_close_9 : decode cX13_close 9 = .ok (.aload_n 0, 1) := by decide +kernel
theorem dX13_close_10 : decode cX13_close 10 = .ok (.getfield 25, 3) := by decide +kernel
theorem dX13_close_13 : decode cX13_close 13 = .ok (.ifCond .eq 5, 3) := by decide +kernel
theorem dX13_close_16 : decode cX13_close 16 = .ok (.iconst 0, 1) := by decide +kernel
theorem dX13_close_17 : decode cX13_close 17 = .ok (.ireturn, 1) := by decide +kernel
theorem dX13_close_18 : decode cX13_close 18 = .ok (.aload_n 0, 1) := by decide +kernel
theorem dX13_close_19 : decode cX13_close 19 = .ok (.invokevirtual 62, 3) := by decide +kernel
theorem dX13_close_22 : decode cX13_close 22 = .ok (.aload_n 0, 1) := by decide +kernel
theorem dX13_close_23 : decode cX13_close 23 = .ok (.iload_n 1, 1) := by decide +kernel
theorem dX13_close_24 : decode cX13_close 24 = .ok (.invokevirtual 109, 3) := by decide +kernel
theorem dX13_close_27 : decode cX13_close 27 = .ok (.ireturn, 1) := by decide +kernel
def sX13_close (w : Wl) (l1 : Int32) : Option (Int32 × Wl) := (sX13_notClose w l1).bind (fun r1 => (if ((wst w 371 5 r1) 371 5) = 0 then (sX13_keep (wst w 371 5 r1) ).bind (fun r6 => (sX13_closes r6 l1).bind (fun r10 => some (r10.1, r10.2))) else some ((0 : Int32), (wst w 371 5 r1))))
theorem kX13_close {l : Launch} {Γ : Gl} {B : Bs} {w : Wl} {G : Gf} {sz : Nat} {l1 : Int32} {r : (Int32 × Wl)} (hW : Wd Γ B w G) (h : sX13_close w l1 = some r) : CtW l Γ yX13_close cX13_close 2 (some .int) 5 [.ref (B.1 + 371), .int l1] G sz B (some (.int (r.1))) r.2 := by
  refine Ct.of rfl (Nat.le_of_ble_eq_true rfl) fun X hx hr hl hΓ hnm => ?_
  subst hl hΓ
  show J X 2 G sz 0 0 0 [some (.ref (B.1 + 371)), some (.int l1)] []
  unfold sX13_close at h
  refine J_al4 hx rfl rfl dX13_close_0 ?_
  refine J_al4 hx rfl rfl dX13_close_1 ?_
  refine J_il4 hx rfl rfl dX13_close_2 ?_
  obtain ⟨r1, hr2, h⟩ := bnd h
  refine J_rdV hx (kX13_notClose  hW hr2) ml_X13_106 lk_X13_notClose (ci := 11) rfl (hW.obj (rfl : kd 371 = 19) (by decide) (by decide)) (rest := [.ref (B.1 + 371)]) rfl rfl (by decide) (by decide) (Nat.le_of_ble_eq_true rfl) (Nat.le_refl 0) (Nat.le_refl 0) dX13_close_3 ?_
  refine p13_5 hx hW (rfl : kd 371 = 19) fl_X13_25 dX13_close_6 fun G3 hW4 => ?_
  refine J_al4 hx rfl rfl dX13_close_9 ?_
  refine g13_5 hx hW4 (rfl : kd 371 = 19) fl_X13_25 dX13_close_10 ?_
  refine J_if_eq hx 18 dX13_close_13 rfl (fun h5 => ?_) (fun h5 => ?_)
  · replace h := pos h h5
    refine J_al4 hx rfl rfl dX13_close_18 ?_
    obtain ⟨r6, hr7, h⟩ := bnd h
    refine J_wrV hx (kX13_keep  hW4 hr7) ml_X13_62 lk_X13_keep (ci := 11) rfl (hW4.obj (rfl : kd 371 = 19) (by decide) (by decide)) (rest := []) rfl rfl (by decide) (by decide) (Nat.le_of_ble_eq_true rfl) (Nat.le_refl 0) (Nat.le_refl 0) dX13_close_19 fun G8 hW9 => ?_
    show J X 2 G8 sz 0 0 22 [some (.ref (B.1 + 371)), some (.int l1)] []
    refine J_al4 hx rfl rfl dX13_close_22 ?_
    refine J_il4 hx rfl rfl dX13_close_23 ?_
    obtain ⟨r10, hr11, h⟩ := bnd h
    refine J_wrV hx (kX13_closes  hW9 hr11) ml_X13_109 lk_X13_closes (ci := 11) rfl (hW9.obj (rfl : kd 371 = 19) (by decide) (by decide)) (rest := []) rfl rfl (by decide) (by decide) (Nat.le_of_ble_eq_true rfl) (Nat.le_refl 0) (Nat.le_refl 0) dX13_close_24 fun G12 hW13 => ?_
    show J X 2 G12 sz 0 0 27 [some (.ref (B.1 + 371)), some (.int l1)] [.int r10.1]
    obtain rfl := Option.some.inj h
    exact J_iretW hx hr hW13 dX13_close_27 (Nat.le_refl 0) (Nat.le_refl 0)
  · replace h := neg h h5
    refine J_iconst hx (0 : Int32) dX13_close_16 rfl ?_
    obtain rfl := Option.some.inj h
    exact J_iretW hx hr hW4 dX13_close_17 (Nat.le_refl 0) (Nat.le_refl 0)
theorem dX13_isForUse_0 : decode cX13_isForUse 0 = .ok (.aload_n 0, 1) := by decide +kernel
theorem dX13_isForUse_1 : decode cX13_isForUse 1 = .ok (.iload_n 1, 1) := by decide +kernel
theorem dX13_isForUse_2 : decode cX13_isForUse 2 = .ok (.invokevirtual 47, 3) := by decide +kernel
theorem dX13_isForUse_5 : decode cX13_isForUse 5 = .ok (.ifCond .eq 24, 3) := by decide +kernel
theorem dX13_isForUse_8 : decode cX13_isForUse 8 = .ok (.aload_n 0, 1) := by decide +kernel
theorem dX13_isForUse_9 : decode cX13_isForUse 9 = .ok (.iload_n 1, 1) := by decide +kernel
theorem dX13_isForUse_10 : decode cX13_isForUse 10 = .ok (.invokevirtual 88, 3) := by decide +kernel
theorem dX13_isForUse_13 : decode cX13_isForUse 13 = .ok (.ifCond .eq 16, 3) := by decide +kernel
theorem dX13_isForUse_16 : decode cX13_isForUse 16 = .ok (.aload_n 0, 1) := by decide +kernel
theorem dX13_isForUse_17 : decode cX13_isForUse 17 = .ok (.iload_n 1, 1) := by decide +kernel
theorem dX13_isForUse_18 : decode cX13_isForUse 18 = .ok (.invokevirtual 44, 3) := by decide +kernel
theorem dX13_isForUse_21 : decode cX13_isForUse 21 = .ok (.iload_n 2, 1) := by decide +kernel
theorem dX13_isForUse_22 : decode cX13_isForUse 22 = .ok (.if_icmp .ne 7, 3) := by decide +kernel
theorem dX13_isForUse_25 : decode cX13_isForUse 25 = .ok (.iconst 1, 1) := by decide +kernel
theorem dX13_isForUse_26 : decode cX13_isForUse 26 = .ok (.goto 4, 3) := by decide +kernel
theorem dX13_isForUse_29 : decode cX13_isForUse 29 = .ok (.iconst 0, 1) := by decide +kernel
theorem dX13_isForUse_30 : decode cX13_isForUse 30 = .ok (.ireturn, 1) := by decide +kernel
def sX13_isForUse (w : Wl) (l1 : Int32) (l2 : Int32) : Option Bool := (sX13_isOpen w l1).bind (fun r1 => (if r1 = true then (sX13_isReached w l1).bind (fun r4 => (if r4 = true then (sX13_venueOf w l1).bind (fun r7 => (if r7 = l2 then some true else some false)) else some false)) else some false))
theorem kX13_isForUse {l : Launch} {Γ : Gl} {B : Bs} {w : Wl} {G : Gf} {sz : Nat} {l1 : Int32} {l2 : Int32} {r : Bool} (hW : Wd Γ B w G) (h : sX13_isForUse w l1 l2 = some r) : CtR l Γ yX13_isForUse cX13_isForUse 3 (some .boolean) 4 [.ref (B.1 + 371), .int l1, .int l2] G sz (.int (bI r)) := by
  refine Ct.of rfl (Nat.le_of_ble_eq_true rfl) fun X hx hr hl hΓ hnm => ?_
  subst hl hΓ
  show J X 3 G sz 0 0 0 [some (.ref (B.1 + 371)), some (.int l1), some (.int l2)] []
  unfold sX13_isForUse at h
  refine J_al4 hx rfl rfl dX13_isForUse_0 ?_
  refine J_il4 hx rfl rfl dX13_isForUse_1 ?_
  obtain ⟨r1, hr2, h⟩ := bnd h
  refine J_rdV hx (kX13_isOpen  hW hr2) ml_X13_47 lk_X13_isOpen (ci := 11) rfl (hW.obj (rfl : kd 371 = 19) (by decide) (by decide)) (rest := []) rfl rfl (by decide) (by decide) (Nat.le_of_ble_eq_true rfl) (Nat.le_refl 0) (Nat.le_refl 0) dX13_isForUse_2 ?_
  refine J_bif_eq hx 29 dX13_isForUse_5 rfl (fun h3 => ?_) (fun h3 => ?_)
  · replace h := neg h (bft h3)
    refine J_iconst hx (0 : Int32) dX13_isForUse_29 rfl ?_
    exact J_zretR hx hr dX13_isForUse_30 (Nat.le_refl 0) (Nat.le_refl 0) (show (0 : Int32) = bI _ from congrArg bI (Option.some.inj h))
  · replace h := pos h h3
    refine J_al4 hx rfl rfl dX13_isForUse_8 ?_
    refine J_il4 hx rfl rfl dX13_isForUse_9 ?_
    obtain ⟨r4, hr5, h⟩ := bnd h
    refine J_rdV hx (kX13_isReached  hW hr5) ml_X13_88 lk_X13_isReached (ci := 11) rfl (hW.obj (rfl : kd 371 = 19) (by decide) (by decide)) (rest := []) rfl rfl (by decide) (by decide) (Nat.le_of_ble_eq_true rfl) (Nat.le_refl 0) (Nat.le_refl 0) dX13_isForUse_10 ?_
    refine J_bif_eq hx 29 dX13_isForUse_13 rfl (fun h6 => ?_) (fun h6 => ?_)
    · replace h := neg h (bft h6)
      refine J_iconst hx (0 : Int32) dX13_isForUse_29 rfl ?_
      exact J_zretR hx hr dX13_isForUse_30 (Nat.le_refl 0) (Nat.le_refl 0) (show (0 : Int32) = bI _ from congrArg bI (Option.some.inj h))
    · replace h := pos h h6
      refine J_al4 hx rfl rfl dX13_isForUse_16 ?_
      refine J_il4 hx rfl rfl dX13_isForUse_17 ?_
      obtain ⟨r7, hr8, h⟩ := bnd h
      refine J_rdV hx (kX13_venueOf  hW hr8) ml_X13_44 lk_X13_venueOf (ci := 11) rfl (hW.obj (rfl : kd 371 = 19) (by decide) (by decide)) (rest := []) rfl rfl (by decide) (by decide) (Nat.le_of_ble_eq_true rfl) (Nat.le_refl 0) (Nat.le_refl 0) dX13_isForUse_18 ?_
      refine J_il4 hx rfl rfl dX13_isForUse_21 ?_
      refine J_icmp_ne hx 29 dX13_isForUse_22 rfl (fun h9 => ?_) (fun h9 => ?_)
      · replace h := neg h h9
        refine J_iconst hx (0 : Int32) dX13_isForUse_29 rfl ?_
        exact J_zretR hx hr dX13_isForUse_30 (Nat.le_refl 0) (Nat.le_refl 0) (show (0 : Int32) = bI _ from congrArg bI (Option.some.inj h))
      · replace h := pos h h9
        refine J_iconst hx (1 : Int32) dX13_isForUse_25 rfl ?_
        refine J_goto hx 30 dX13_isForUse_26 rfl ?_
        exact J_zretR hx hr dX13_isForUse_30 (Nat.le_refl 0) (Nat.le_refl 0) (show (1 : Int32) = bI _ from congrArg bI (Option.some.inj h))
theorem dX13_notNest_0 : decode cX13_notNest 0 = .ok (.aload_n 0, 1) := by decide +kernel
theorem dX13_notNest_1 : decode cX13_notNest 1 = .ok (.iload_n 1, 1) := by decide +kernel
theorem dX13_notNest_2 : decode cX13_notNest 2 = .ok (.invokevirtual 85, 3) := by decide +kernel
theorem dX13_notNest_5 : decode cX13_notNest 5 = .ok (.ifCond .eq 11, 3) := by decide +kernel
theorem dX13_notNest_8 : decode cX13_notNest 8 = .ok (.aload_n 0, 1) := by decide +kernel
theorem dX13_notNest_9 : decode cX13_notNest 9 = .ok (.iload_n 2, 1) := by decide +kernel
theorem dX13_notNest_10 : decode cX13_notNest 10 = .ok (.invokevirtual 85, 3) := by decide +kernel
theorem dX13_notNest_13 : decode cX13_notNest 13 = .ok (.ifCond .ne 5, 3) := by decide +kernel
theorem dX13_notNest_16 : decode cX13_notNest 16 = .ok (.iconst 1, 1) := by decide +kernel
theorem dX13_notNest_17 : decode cX13_notNest 17 = .ok (.ireturn, 1) := by decide +kernel
theorem dX13_notNest_18 : decode cX13_notNest 18 = .ok (.iload_n 1, 1) := by decide +kernel
theorem dX13_notNest_19 : decode cX13_notNest 19 = .ok (.iload_n 2, 1) := by decide +kernel
theorem dX13_notNest_20 : decode cX13_notNest 20 = .ok (.if_icmp .eq 35, 3) := by decide +kernel
theorem dX13_notNest_23 : decode cX13_notNest 23 = .ok (.aload_n 0, 1) := by decide +kernel
theorem dX13_notNest_24 : decode cX13_notNest 24 = .ok (.iload_n 1, 1) := by decide +kernel
theorem dX13_notNest_25 : decode cX13_notNest 25 = .ok (.invokevirtual 47, 3) := by decide +kernel
theorem dX13_notNest_28 : decode cX13_notNest 28 = .ok (.ifCond .ne 27, 3) := by decide +kernel
theorem dX13_notNest_31 : decode cX13_notNest 31 = .ok (.aload_n 0, 1) := by decide +kernel
theorem dX13_notNest_32 : decode cX13_notNest 32 = .ok (.iload_n 1, 1) := by decide +kernel
theorem dX13_notNest_33 : decode cX13_notNest 33 = .ok (.iconst 2, 1) := by decide +kernel
theorem dX13_notNest_34 : decode cX13_notNest 34 = .ok (.invokevirtual 36, 3) := by decide +kernel
theorem dX13_notNest_37 : decode cX13_notNest 37 = .ok (.iconst (-1), 1) := by decide +kernel
theorem dX13_notNest_38 : decode cX13_notNest 38 = .ok (.if_icmp .ne 17, 3) := by decide +kernel
theorem dX13_notNest_41 : decode cX13_notNest 41 = .ok (.aload_n 0, 1) := by decide +kernel
theorem dX13_notNest_42 : decode cX13_notNest 42 = .ok (.iload_n 1, 1) := by decide +kernel
theorem dX13_notNest_43 : decode cX13_notNest 43 = .ok (.iconst 3, 1) := by decide +kernel
theorem dX13_notNest_44 : decode cX13_notNest 44 = .ok (.invokevirtual 36, 3) := by decide +kernel
theorem dX13_notNest_47 : decode cX13_notNest 47 = .ok (.iconst (-1), 1) := by decide +kernel
theorem dX13_notNest_48 : decode cX13_notNest 48 = .ok (.if_icmp .eq 7, 3) := by decide +kernel
theorem dX13_notNest_51 : decode cX13_notNest 51 = .ok (.iconst 1, 1) := by decide +kernel
theorem dX13_notNest_52 : decode cX13_notNest 52 = .ok (.goto 4, 3) := by decide +kernel
theorem dX13_notNest_55 : decode cX13_notNest 55 = .ok (.iconst 0, 1) := by decide +kernel
theorem dX13_notNest_56 : decode cX13_notNest 56 = .ok (.istore_n 3, 1) := by decide +kernel
theorem dX13_notNest_57 : decode cX13_notNest 57 = .ok (.iload_n 3, 1) := by decide +kernel
theorem dX13_notNest_58 : decode cX13_notNest 58 = .ok (.ifCond .eq 21, 3) := by decide +kernel
theorem dX13_notNest_61 : decode cX13_notNest 61 = .ok (.aload_n 0, 1) := by decide +kernel
theorem dX13_notNest_62 : decode cX13_notNest 62 = .ok (.iload_n 2, 1) := by decide +kernel
theorem dX13_notNest_63 : decode cX13_notNest 63 = .ok (.aload_n 0, 1) := by decide +kernel
theorem dX13_notNest_64 : decode cX13_notNest 64 = .ok (.iload_n 1, 1) := by decide +kernel
theorem dX13_notNest_65 : decode cX13_notNest 65 = .ok (.iconst 3, 1) := by decide +kernel
theorem dX13_notNest_66 : decode cX13_notNest 66 = .ok (.invokevirtual 36, 3) := by decide +kernel
theorem dX13_notNest_69 : decode cX13_notNest 69 = .ok (.invokevirtual 112, 3) := by decide +kernel
theorem dX13_notNest_72 : decode cX13_notNest 72 = .ok (.ifCond .eq 7, 3) := by decide +kernel
theorem dX13_notNest_75 : decode cX13_notNest 75 = .ok (.iconst 0, 1) := by decide +kernel
theorem dX13_notNest_76 : decode cX13_notNest 76 = .ok (.goto 4, 3) := by decide +kernel
theorem dX13_notNest_79 : decode cX13_notNest 79 = .ok (.iconst 2, 1) := by decide +kernel
theorem dX13_notNest_80 : decode cX13_notNest 80 = .ok (.ireturn, 1) := by decide +kernel
def sX13_notNest_56 (w : Wl) (l1 : Int32) (l2 : Int32) (s0 : Int32) : Option Int32 := (if s0 = 0 then some (2 : Int32) else (sX13_of w l1 (3 : Int32)).bind (fun r2 => (sX13_isForUse w l2 r2).bind (fun r4 => (if r4 = true then some (0 : Int32) else some (2 : Int32)))))
theorem tX13_notNest_56 {X : Cx} {B : Bs} {sz : Nat} {G : Gf} {r : Int32} (hx : Fx X cX13_notNest 4 RX13 5 0 0) (hr : Rt X (some .int) 0 0 (RdΨ (.int (r)) G sz)) : ∀ (w : Wl) (l1 : Int32) (l2 : Int32) (s0 : Int32) (hW : Wd (xΓ X) B w G) (h : sX13_notNest_56  w l1 l2 s0 = some r), J X 4 G sz 0 0 56 [some (.ref (B.1 + 371)), some (.int l1), some (.int l2), none] [.int s0] := by
  intro w l1 l2 s0 hW h
  unfold sX13_notNest_56 at h
  refine J_is4 hx rfl (by decide) (hc_of rfl) rfl dX13_notNest_56 ?_
  refine J_il4 hx rfl rfl dX13_notNest_57 ?_
  refine J_if_eq hx 79 dX13_notNest_58 rfl (fun h1 => ?_) (fun h1 => ?_)
  · replace h := pos h h1
    refine J_iconst hx (2 : Int32) dX13_notNest_79 rfl ?_
    exact J_iretR hx hr dX13_notNest_80 (Nat.le_refl 0) (Nat.le_refl 0) (Option.some.inj h)
  · replace h := neg h h1
    refine J_al4 hx rfl rfl dX13_notNest_61 ?_
    refine J_il4 hx rfl rfl dX13_notNest_62 ?_
    refine J_al4 hx rfl rfl dX13_notNest_63 ?_
    refine J_il4 hx rfl rfl dX13_notNest_64 ?_
    refine J_iconst hx (3 : Int32) dX13_notNest_65 rfl ?_
    obtain ⟨r2, hr3, h⟩ := bnd h
    refine J_rdV hx (kX13_of  hW hr3) ml_X13_36 lk_X13_of (ci := 11) rfl (hW.obj (rfl : kd 371 = 19) (by decide) (by decide)) (rest := [.int l2, .ref (B.1 + 371)]) rfl rfl (by decide) (by decide) (Nat.le_of_ble_eq_true rfl) (Nat.le_refl 0) (Nat.le_refl 0) dX13_notNest_66 ?_
    obtain ⟨r4, hr5, h⟩ := bnd h
    refine J_rdV hx (kX13_isForUse  hW hr5) ml_X13_112 lk_X13_isForUse (ci := 11) rfl (hW.obj (rfl : kd 371 = 19) (by decide) (by decide)) (rest := []) rfl rfl (by decide) (by decide) (Nat.le_of_ble_eq_true rfl) (Nat.le_refl 0) (Nat.le_refl 0) dX13_notNest_69 ?_
    refine J_bif_eq hx 79 dX13_notNest_72 rfl (fun h6 => ?_) (fun h6 => ?_)
    · replace h := neg h (bft h6)
      refine J_iconst hx (2 : Int32) dX13_notNest_79 rfl ?_
      exact J_iretR hx hr dX13_notNest_80 (Nat.le_refl 0) (Nat.le_refl 0) (Option.some.inj h)
    · replace h := pos h h6
      refine J_iconst hx (0 : Int32) dX13_notNest_75 rfl ?_
      refine J_goto hx 80 dX13_notNest_76 rfl ?_
      exact J_iretR hx hr dX13_notNest_80 (Nat.le_refl 0) (Nat.le_refl 0) (Option.some.inj h)
def sX13_notNest (w : Wl) (l1 : Int32) (l2 : Int32) : Option Int32 := (sX13_isCrate w l1).bind (fun r1 => (if r1 = true then (sX13_isCrate w l2).bind (fun r4 => (if r4 = true then (if l1 = l2 then sX13_notNest_56 w l1 l2 (0 : Int32) else (sX13_isOpen w l1).bind (fun r8 => (if r8 = true then sX13_notNest_56 w l1 l2 (0 : Int32) else (sX13_of w l1 (2 : Int32)).bind (fun r11 => (if r11 = (-1 : Int32) then (sX13_of w l1 (3 : Int32)).bind (fun r14 => (if r14 = (-1 : Int32) then sX13_notNest_56 w l1 l2 (0 : Int32) else sX13_notNest_56 w l1 l2 (1 : Int32))) else sX13_notNest_56 w l1 l2 (0 : Int32)))))) else some (1 : Int32))) else some (1 : Int32)))
theorem kX13_notNest {l : Launch} {Γ : Gl} {B : Bs} {w : Wl} {G : Gf} {sz : Nat} {l1 : Int32} {l2 : Int32} {r : Int32} (hW : Wd Γ B w G) (h : sX13_notNest w l1 l2 = some r) : CtR l Γ yX13_notNest cX13_notNest 4 (some .int) 5 [.ref (B.1 + 371), .int l1, .int l2] G sz (.int (r)) := by
  refine Ct.of rfl (Nat.le_of_ble_eq_true rfl) fun X hx hr hl hΓ hnm => ?_
  subst hl hΓ
  show J X 4 G sz 0 0 0 [some (.ref (B.1 + 371)), some (.int l1), some (.int l2), none] []
  unfold sX13_notNest at h
  refine J_al4 hx rfl rfl dX13_notNest_0 ?_
  refine J_il4 hx rfl rfl dX13_notNest_1 ?_
  obtain ⟨r1, hr2, h⟩ := bnd h
  refine J_rdV hx (kX13_isCrate  hW hr2) ml_X13_85 lk_X13_isCrate (ci := 11) rfl (hW.obj (rfl : kd 371 = 19) (by decide) (by decide)) (rest := []) rfl rfl (by decide) (by decide) (Nat.le_of_ble_eq_true rfl) (Nat.le_refl 0) (Nat.le_refl 0) dX13_notNest_2 ?_
  refine J_bif_eq hx 16 dX13_notNest_5 rfl (fun h3 => ?_) (fun h3 => ?_)
  · replace h := neg h (bft h3)
    refine J_iconst hx (1 : Int32) dX13_notNest_16 rfl ?_
    exact J_iretR hx hr dX13_notNest_17 (Nat.le_refl 0) (Nat.le_refl 0) (Option.some.inj h)
  · replace h := pos h h3
    refine J_al4 hx rfl rfl dX13_notNest_8 ?_
    refine J_il4 hx rfl rfl dX13_notNest_9 ?_
    obtain ⟨r4, hr5, h⟩ := bnd h
    refine J_rdV hx (kX13_isCrate  hW hr5) ml_X13_85 lk_X13_isCrate (ci := 11) rfl (hW.obj (rfl : kd 371 = 19) (by decide) (by decide)) (rest := []) rfl rfl (by decide) (by decide) (Nat.le_of_ble_eq_true rfl) (Nat.le_refl 0) (Nat.le_refl 0) dX13_notNest_10 ?_
    refine J_bif_ne hx 18 dX13_notNest_13 rfl (fun h6 => ?_) (fun h6 => ?_)
    · replace h := pos h h6
      refine J_il4 hx rfl rfl dX13_notNest_18 ?_
      refine J_il4 hx rfl rfl dX13_notNest_19 ?_
      refine J_icmp_eq hx 55 dX13_notNest_20 rfl (fun h7 => ?_) (fun h7 => ?_)
      · replace h := pos h h7
        refine J_iconst hx (0 : Int32) dX13_notNest_55 rfl ?_
        exact tX13_notNest_56 hx hr _ _ _ _  hW h
      · replace h := neg h h7
        refine J_al4 hx rfl rfl dX13_notNest_23 ?_
        refine J_il4 hx rfl rfl dX13_notNest_24 ?_
        obtain ⟨r8, hr9, h⟩ := bnd h
        refine J_rdV hx (kX13_isOpen  hW hr9) ml_X13_47 lk_X13_isOpen (ci := 11) rfl (hW.obj (rfl : kd 371 = 19) (by decide) (by decide)) (rest := []) rfl rfl (by decide) (by decide) (Nat.le_of_ble_eq_true rfl) (Nat.le_refl 0) (Nat.le_refl 0) dX13_notNest_25 ?_
        refine J_bif_ne hx 55 dX13_notNest_28 rfl (fun h10 => ?_) (fun h10 => ?_)
        · replace h := pos h h10
          refine J_iconst hx (0 : Int32) dX13_notNest_55 rfl ?_
          exact tX13_notNest_56 hx hr _ _ _ _  hW h
        · replace h := neg h (bft h10)
          refine J_al4 hx rfl rfl dX13_notNest_31 ?_
          refine J_il4 hx rfl rfl dX13_notNest_32 ?_
          refine J_iconst hx (2 : Int32) dX13_notNest_33 rfl ?_
          obtain ⟨r11, hr12, h⟩ := bnd h
          refine J_rdV hx (kX13_of  hW hr12) ml_X13_36 lk_X13_of (ci := 11) rfl (hW.obj (rfl : kd 371 = 19) (by decide) (by decide)) (rest := []) rfl rfl (by decide) (by decide) (Nat.le_of_ble_eq_true rfl) (Nat.le_refl 0) (Nat.le_refl 0) dX13_notNest_34 ?_
          refine J_iconst hx (-1 : Int32) dX13_notNest_37 rfl ?_
          refine J_icmp_ne hx 55 dX13_notNest_38 rfl (fun h13 => ?_) (fun h13 => ?_)
          · replace h := neg h h13
            refine J_iconst hx (0 : Int32) dX13_notNest_55 rfl ?_
            exact tX13_notNest_56 hx hr _ _ _ _  hW h
          · replace h := pos h h13
            refine J_al4 hx rfl rfl dX13_notNest_41 ?_
            refine J_il4 hx rfl rfl dX13_notNest_42 ?_
            refine J_iconst hx (3 : Int32) dX13_notNest_43 rfl ?_
            obtain ⟨r14, hr15, h⟩ := bnd h
            refine J_rdV hx (kX13_of  hW hr15) ml_X13_36 lk_X13_of (ci := 11) rfl (hW.obj (rfl : kd 371 = 19) (by decide) (by decide)) (rest := []) rfl rfl (by decide) (by decide) (Nat.le_of_ble_eq_true rfl) (Nat.le_refl 0) (Nat.le_refl 0) dX13_notNest_44 ?_
            refine J_iconst hx (-1 : Int32) dX13_notNest_47 rfl ?_
            refine J_icmp_eq hx 55 dX13_notNest_48 rfl (fun h16 => ?_) (fun h16 => ?_)
            · replace h := pos h h16
              refine J_iconst hx (0 : Int32) dX13_notNest_55 rfl ?_
              exact tX13_notNest_56 hx hr _ _ _ _  hW h
            · replace h := neg h h16
              refine J_iconst hx (1 : Int32) dX13_notNest_51 rfl ?_
              refine J_goto hx 56 dX13_notNest_52 rfl ?_
              exact tX13_notNest_56 hx hr _ _ _ _  hW h
    · replace h := neg h (bft h6)
      refine J_iconst hx (1 : Int32) dX13_notNest_16 rfl ?_
      exact J_iretR hx hr dX13_notNest_17 (Nat.le_refl 0) (Nat.le_refl 0) (Option.some.inj h)
theorem dX13_nests_0 : decode cX13_nests 0 = .ok (.aload_n 0, 1) := by decide +kernel
theorem dX13_nests_1 : decode cX13_nests 1 = .ok (.iload_n 1, 1) := by decide +kernel
theorem dX13_nests_2 : decode cX13_nests 2 = .ok (.iconst 2, 1) := by decide +kernel
theorem dX13_nests_3 : decode cX13_nests 3 = .ok (.iload_n 2, 1) := by decide +kernel
theorem dX13_nests_4 : decode cX13_nests 4 = .ok (.invokevirtual 74, 3) := by decide +kernel
theorem dX13_nests_7 : decode cX13_nests 7 = .ok (.aload_n 0, 1) := by decide +kernel
theorem dX13_nests_8 : decode cX13_nests 8 = .ok (.iload_n 2, 1) := by decide +kernel
theorem dX13_nests_9 : decode cX13_nests 9 = .ok (.invokevirtual 115, 3) := by decide +kernel
theorem dX13_nests_12 : decode cX13_nests 12 = .ok (.ireturn, 1) := by decide +kernel
def sX13_nests (w : Wl) (l1 : Int32) (l2 : Int32) : Option (Int32 × Wl) := (sX13_put w l1 (2 : Int32) l2).bind (fun r1 => (sX13_directCrates r1 l2).bind (fun r5 => some (r5, r1)))
theorem kX13_nests {l : Launch} {Γ : Gl} {B : Bs} {w : Wl} {G : Gf} {sz : Nat} {l1 : Int32} {l2 : Int32} {r : (Int32 × Wl)} (hW : Wd Γ B w G) (h : sX13_nests w l1 l2 = some r) : CtW l Γ yX13_nests cX13_nests 3 (some .int) 2 [.ref (B.1 + 371), .int l1, .int l2] G sz B (some (.int (r.1))) r.2 := by
  refine Ct.of rfl (Nat.le_of_ble_eq_true rfl) fun X hx hr hl hΓ hnm => ?_
  subst hl hΓ
  show J X 3 G sz 0 0 0 [some (.ref (B.1 + 371)), some (.int l1), some (.int l2)] []
  unfold sX13_nests at h
  refine J_al4 hx rfl rfl dX13_nests_0 ?_
  refine J_il4 hx rfl rfl dX13_nests_1 ?_
  refine J_iconst hx (2 : Int32) dX13_nests_2 rfl ?_
  refine J_il4 hx rfl rfl dX13_nests_3 ?_
  obtain ⟨r1, hr2, h⟩ := bnd h
  refine J_wrV hx (kX13_put  hW hr2) ml_X13_74 lk_X13_put (ci := 11) rfl (hW.obj (rfl : kd 371 = 19) (by decide) (by decide)) (rest := []) rfl rfl (by decide) (by decide) (Nat.le_of_ble_eq_true rfl) (Nat.le_refl 0) (Nat.le_refl 0) dX13_nests_4 fun G3 hW4 => ?_
  show J X 3 G3 sz 0 0 7 [some (.ref (B.1 + 371)), some (.int l1), some (.int l2)] []
  refine J_al4 hx rfl rfl dX13_nests_7 ?_
  refine J_il4 hx rfl rfl dX13_nests_8 ?_
  obtain ⟨r5, hr6, h⟩ := bnd h
  refine J_rdV hx (kX13_directCrates  hW4 hr6) ml_X13_115 lk_X13_directCrates (ci := 11) rfl (hW4.obj (rfl : kd 371 = 19) (by decide) (by decide)) (rest := []) rfl rfl (by decide) (by decide) (Nat.le_of_ble_eq_true rfl) (Nat.le_refl 0) (Nat.le_refl 0) dX13_nests_9 ?_
  obtain rfl := Option.some.inj h
  exact J_iretW hx hr hW4 dX13_nests_12 (Nat.le_refl 0) (Nat.le_refl 0)
theorem dX13_nest_0 : decode cX13_nest 0 = .ok (.aload_n 0, 1) := by decide +kernel
theorem dX13_nest_1 : decode cX13_nest 1 = .ok (.aload_n 0, 1) := by decide +kernel
theorem dX13_nest_2 : decode cX13_nest 2 = .ok (.iload_n 1, 1) := by decide +kernel
theorem dX13_nest_3 : decode cX13_nest 3 = .ok (.iload_n 2, 1) := by decide +kernel
theorem dX13_nest_4 : decode cX13_nest 4 = .ok (.invokevirtual 118, 3) := by decide +kernel
theorem dX13_nest_7 : decode cX13_nest 7 = .ok (.putfield 25, 3) := by decide +kernel
theorem dX13_nest_10 : decode cX13_nest 10 = .ok (.aload_n 0, 1) := by decide +kernel
theorem dX13_nest_11 : decode cX13_nest 11 = .ok (.getfield 25, 3) := by decide +kernel
theorem dX13_nest_14 : decode cX13_nest 14 = .ok (.ifCond .eq 5, 3) := by decide +kernel
theorem dX13_nest_17 : decode cX13_nest 17 = .ok (.iconst 0, 1) := by decide +kernel
theorem dX13_nest_18 : decode cX13_nest 18 = .ok (.ireturn, 1) := by decide +kernel
theorem dX13_nest_19 : decode cX13_nest 19 = .ok (.aload_n 0, 1) := by decide +kernel
theorem dX13_nest_20 : decode cX13_nest 20 = .ok (.invokevirtual 62, 3) := by decide +kernel
theorem dX13_nest_23 : decode cX13_nest 23 = .ok (.aload_n 0, 1) := by decide +kernel
theorem dX13_nest_24 : decode cX13_nest 24 = .ok (.iload_n 1, 1) := by decide +kernel
theorem dX13_nest_25 : decode cX13_nest 25 = .ok (.iload_n 2, 1) := by decide +kernel
theorem dX13_nest_26 : decode cX13_nest 26 = .ok (.invokevirtual 121, 3) := by decide +kernel
theorem dX13_nest_29 : decode cX13_nest 29 = .ok (.ireturn, 1) := by decide +kernel
def sX13_nest (w : Wl) (l1 : Int32) (l2 : Int32) : Option (Int32 × Wl) := (sX13_notNest w l1 l2).bind (fun r1 => (if ((wst w 371 5 r1) 371 5) = 0 then (sX13_keep (wst w 371 5 r1) ).bind (fun r6 => (sX13_nests r6 l1 l2).bind (fun r10 => some (r10.1, r10.2))) else some ((0 : Int32), (wst w 371 5 r1))))
theorem kX13_nest {l : Launch} {Γ : Gl} {B : Bs} {w : Wl} {G : Gf} {sz : Nat} {l1 : Int32} {l2 : Int32} {r : (Int32 × Wl)} (hW : Wd Γ B w G) (h : sX13_nest w l1 l2 = some r) : CtW l Γ yX13_nest cX13_nest 3 (some .int) 6 [.ref (B.1 + 371), .int l1, .int l2] G sz B (some (.int (r.1))) r.2 := by
  refine Ct.of rfl (Nat.le_of_ble_eq_true rfl) fun X hx hr hl hΓ hnm => ?_
  subst hl hΓ
  show J X 3 G sz 0 0 0 [some (.ref (B.1 + 371)), some (.int l1), some (.int l2)] []
  unfold sX13_nest at h
  refine J_al4 hx rfl rfl dX13_nest_0 ?_
  refine J_al4 hx rfl rfl dX13_nest_1 ?_
  refine J_il4 hx rfl rfl dX13_nest_2 ?_
  refine J_il4 hx rfl rfl dX13_nest_3 ?_
  obtain ⟨r1, hr2, h⟩ := bnd h
  refine J_rdV hx (kX13_notNest  hW hr2) ml_X13_118 lk_X13_notNest (ci := 11) rfl (hW.obj (rfl : kd 371 = 19) (by decide) (by decide)) (rest := [.ref (B.1 + 371)]) rfl rfl (by decide) (by decide) (Nat.le_of_ble_eq_true rfl) (Nat.le_refl 0) (Nat.le_refl 0) dX13_nest_4 ?_
  refine p13_5 hx hW (rfl : kd 371 = 19) fl_X13_25 dX13_nest_7 fun G3 hW4 => ?_
  refine J_al4 hx rfl rfl dX13_nest_10 ?_
  refine g13_5 hx hW4 (rfl : kd 371 = 19) fl_X13_25 dX13_nest_11 ?_
  refine J_if_eq hx 19 dX13_nest_14 rfl (fun h5 => ?_) (fun h5 => ?_)
  · replace h := pos h h5
    refine J_al4 hx rfl rfl dX13_nest_19 ?_
    obtain ⟨r6, hr7, h⟩ := bnd h
    refine J_wrV hx (kX13_keep  hW4 hr7) ml_X13_62 lk_X13_keep (ci := 11) rfl (hW4.obj (rfl : kd 371 = 19) (by decide) (by decide)) (rest := []) rfl rfl (by decide) (by decide) (Nat.le_of_ble_eq_true rfl) (Nat.le_refl 0) (Nat.le_refl 0) dX13_nest_20 fun G8 hW9 => ?_
    show J X 3 G8 sz 0 0 23 [some (.ref (B.1 + 371)), some (.int l1), some (.int l2)] []
    refine J_al4 hx rfl rfl dX13_nest_23 ?_
    refine J_il4 hx rfl rfl dX13_nest_24 ?_
    refine J_il4 hx rfl rfl dX13_nest_25 ?_
    obtain ⟨r10, hr11, h⟩ := bnd h
    refine J_wrV hx (kX13_nests  hW9 hr11) ml_X13_121 lk_X13_nests (ci := 11) rfl (hW9.obj (rfl : kd 371 = 19) (by decide) (by decide)) (rest := []) rfl rfl (by decide) (by decide) (Nat.le_of_ble_eq_true rfl) (Nat.le_refl 0) (Nat.le_refl 0) dX13_nest_26 fun G12 hW13 => ?_
    show J X 3 G12 sz 0 0 29 [some (.ref (B.1 + 371)), some (.int l1), some (.int l2)] [.int r10.1]
    obtain rfl := Option.some.inj h
    exact J_iretW hx hr hW13 dX13_nest_29 (Nat.le_refl 0) (Nat.le_refl 0)
  · replace h := neg h h5
    refine J_iconst hx (0 : Int32) dX13_nest_17 rfl ?_
    obtain rfl := Option.some.inj h
    exact J_iretW hx hr hW4 dX13_nest_18 (Nat.le_refl 0) (Nat.le_refl 0)
theorem dX13_notTakeOut_0 : decode cX13_notTakeOut 0 = .ok (.aload_n 0, 1) := by decide +kernel
theorem dX13_notTakeOut_1 : decode cX13_notTakeOut 1 = .ok (.iload_n 1, 1) := by decide +kernel
theorem dX13_notTakeOut_2 : decode cX13_notTakeOut 2 = .ok (.invokevirtual 85, 3) := by decide +kernel
theorem dX13_notTakeOut_5 : decode cX13_notTakeOut 5 = .ok (.ifCond .ne 7, 3) := by decide +kernel
theorem dX13_notTakeOut_8 : decode cX13_notTakeOut 8 = .ok (.iconst 1, 1) := by decide +kernel
theorem dX13_notTakeOut_9 : decode cX13_notTakeOut 9 = .ok (.goto 34, 3) := by decide +kernel
theorem dX13_notTakeOut_12 : decode cX13_notTakeOut 12 = .ok (.aload_n 0, 1) := by decide +kernel
theorem dX13_notTakeOut_13 : decode cX13_notTakeOut 13 = .ok (.iload_n 1, 1) := by decide +kernel
theorem dX13_notTakeOut_14 : decode cX13_notTakeOut 14 = .ok (.iconst 2, 1) := by decide +kernel
theorem dX13_notTakeOut_15 : decode cX13_notTakeOut 15 = .ok (.invokevirtual 36, 3) := by decide +kernel
theorem dX13_notTakeOut_18 : decode cX13_notTakeOut 18 = .ok (.iconst (-1), 1) := by decide +kernel
theorem dX13_notTakeOut_19 : decode cX13_notTakeOut 19 = .ok (.if_icmp .eq 19, 3) := by decide +kernel
theorem dX13_notTakeOut_22 : decode cX13_notTakeOut 22 = .ok (.aload_n 0, 1) := by decide +kernel
theorem dX13_notTakeOut_23 : decode cX13_notTakeOut 23 = .ok (.iload_n 1, 1) := by decide +kernel
theorem dX13_notTakeOut_24 : decode cX13_notTakeOut 24 = .ok (.invokevirtual 47, 3) := by decide +kernel
theorem dX13_notTakeOut_27 : decode cX13_notTakeOut 27 = .ok (.ifCond .ne 11, 3) := by decide +kernel
theorem dX13_notTakeOut_30 : decode cX13_notTakeOut 30 = .ok (.aload_n 0, 1) := by decide +kernel
theorem dX13_notTakeOut_31 : decode cX13_notTakeOut 31 = .ok (.iload_n 1, 1) := by decide +kernel
theorem dX13_notTakeOut_32 : decode cX13_notTakeOut 32 = .ok (.invokevirtual 88, 3) := by decide +kernel
theorem dX13_notTakeOut_35 : decode cX13_notTakeOut 35 = .ok (.ifCond .ne 7, 3) := by decide +kernel
theorem dX13_notTakeOut_38 : decode cX13_notTakeOut 38 = .ok (.iconst 2, 1) := by decide +kernel
theorem dX13_notTakeOut_39 : decode cX13_notTakeOut 39 = .ok (.goto 4, 3) := by decide +kernel
theorem dX13_notTakeOut_42 : decode cX13_notTakeOut 42 = .ok (.iconst 0, 1) := by decide +kernel
theorem dX13_notTakeOut_43 : decode cX13_notTakeOut 43 = .ok (.ireturn, 1) := by decide +kernel
def sX13_notTakeOut (w : Wl) (l1 : Int32) : Option Int32 := (sX13_isCrate w l1).bind (fun r1 => (if r1 = true then (sX13_of w l1 (2 : Int32)).bind (fun r4 => (if r4 = (-1 : Int32) then some (2 : Int32) else (sX13_isOpen w l1).bind (fun r7 => (if r7 = true then some (2 : Int32) else (sX13_isReached w l1).bind (fun r10 => (if r10 = true then some (0 : Int32) else some (2 : Int32))))))) else some (1 : Int32)))
theorem kX13_notTakeOut {l : Launch} {Γ : Gl} {B : Bs} {w : Wl} {G : Gf} {sz : Nat} {l1 : Int32} {r : Int32} (hW : Wd Γ B w G) (h : sX13_notTakeOut w l1 = some r) : CtR l Γ yX13_notTakeOut cX13_notTakeOut 2 (some .int) 4 [.ref (B.1 + 371), .int l1] G sz (.int (r)) := by
  refine Ct.of rfl (Nat.le_of_ble_eq_true rfl) fun X hx hr hl hΓ hnm => ?_
  subst hl hΓ
  show J X 2 G sz 0 0 0 [some (.ref (B.1 + 371)), some (.int l1)] []
  unfold sX13_notTakeOut at h
  refine J_al4 hx rfl rfl dX13_notTakeOut_0 ?_
  refine J_il4 hx rfl rfl dX13_notTakeOut_1 ?_
  obtain ⟨r1, hr2, h⟩ := bnd h
  refine J_rdV hx (kX13_isCrate  hW hr2) ml_X13_85 lk_X13_isCrate (ci := 11) rfl (hW.obj (rfl : kd 371 = 19) (by decide) (by decide)) (rest := []) rfl rfl (by decide) (by decide) (Nat.le_of_ble_eq_true rfl) (Nat.le_refl 0) (Nat.le_refl 0) dX13_notTakeOut_2 ?_
  refine J_bif_ne hx 12 dX13_notTakeOut_5 rfl (fun h3 => ?_) (fun h3 => ?_)
  · replace h := pos h h3
    refine J_al4 hx rfl rfl dX13_notTakeOut_12 ?_
    refine J_il4 hx rfl rfl dX13_notTakeOut_13 ?_
    refine J_iconst hx (2 : Int32) dX13_notTakeOut_14 rfl ?_
    obtain ⟨r4, hr5, h⟩ := bnd h
    refine J_rdV hx (kX13_of  hW hr5) ml_X13_36 lk_X13_of (ci := 11) rfl (hW.obj (rfl : kd 371 = 19) (by decide) (by decide)) (rest := []) rfl rfl (by decide) (by decide) (Nat.le_of_ble_eq_true rfl) (Nat.le_refl 0) (Nat.le_refl 0) dX13_notTakeOut_15 ?_
    refine J_iconst hx (-1 : Int32) dX13_notTakeOut_18 rfl ?_
    refine J_icmp_eq hx 38 dX13_notTakeOut_19 rfl (fun h6 => ?_) (fun h6 => ?_)
    · replace h := pos h h6
      refine J_iconst hx (2 : Int32) dX13_notTakeOut_38 rfl ?_
      refine J_goto hx 43 dX13_notTakeOut_39 rfl ?_
      exact J_iretR hx hr dX13_notTakeOut_43 (Nat.le_refl 0) (Nat.le_refl 0) (Option.some.inj h)
    · replace h := neg h h6
      refine J_al4 hx rfl rfl dX13_notTakeOut_22 ?_
      refine J_il4 hx rfl rfl dX13_notTakeOut_23 ?_
      obtain ⟨r7, hr8, h⟩ := bnd h
      refine J_rdV hx (kX13_isOpen  hW hr8) ml_X13_47 lk_X13_isOpen (ci := 11) rfl (hW.obj (rfl : kd 371 = 19) (by decide) (by decide)) (rest := []) rfl rfl (by decide) (by decide) (Nat.le_of_ble_eq_true rfl) (Nat.le_refl 0) (Nat.le_refl 0) dX13_notTakeOut_24 ?_
      refine J_bif_ne hx 38 dX13_notTakeOut_27 rfl (fun h9 => ?_) (fun h9 => ?_)
      · replace h := pos h h9
        refine J_iconst hx (2 : Int32) dX13_notTakeOut_38 rfl ?_
        refine J_goto hx 43 dX13_notTakeOut_39 rfl ?_
        exact J_iretR hx hr dX13_notTakeOut_43 (Nat.le_refl 0) (Nat.le_refl 0) (Option.some.inj h)
      · replace h := neg h (bft h9)
        refine J_al4 hx rfl rfl dX13_notTakeOut_30 ?_
        refine J_il4 hx rfl rfl dX13_notTakeOut_31 ?_
        obtain ⟨r10, hr11, h⟩ := bnd h
        refine J_rdV hx (kX13_isReached  hW hr11) ml_X13_88 lk_X13_isReached (ci := 11) rfl (hW.obj (rfl : kd 371 = 19) (by decide) (by decide)) (rest := []) rfl rfl (by decide) (by decide) (Nat.le_of_ble_eq_true rfl) (Nat.le_refl 0) (Nat.le_refl 0) dX13_notTakeOut_32 ?_
        refine J_bif_ne hx 42 dX13_notTakeOut_35 rfl (fun h12 => ?_) (fun h12 => ?_)
        · replace h := pos h h12
          refine J_iconst hx (0 : Int32) dX13_notTakeOut_42 rfl ?_
          exact J_iretR hx hr dX13_notTakeOut_43 (Nat.le_refl 0) (Nat.le_refl 0) (Option.some.inj h)
        · replace h := neg h (bft h12)
          refine J_iconst hx (2 : Int32) dX13_notTakeOut_38 rfl ?_
          refine J_goto hx 43 dX13_notTakeOut_39 rfl ?_
          exact J_iretR hx hr dX13_notTakeOut_43 (Nat.le_refl 0) (Nat.le_refl 0) (Option.some.inj h)
  · replace h := neg h (bft h3)
    refine J_iconst hx (1 : Int32) dX13_notTakeOut_8 rfl ?_
    refine J_goto hx 43 dX13_notTakeOut_9 rfl ?_
    exact J_iretR hx hr dX13_notTakeOut_43 (Nat.le_refl 0) (Nat.le_refl 0) (Option.some.inj h)
theorem dX13_takesOut_0 : decode cX13_takesOut 0 = .ok (.aload_n 0, 1) := by decide +kernel
theorem dX13_takesOut_1 : decode cX13_takesOut 1 = .ok (.iload_n 1, 1) := by decide +kernel
theorem dX13_takesOut_2 : decode cX13_takesOut 2 = .ok (.iconst 2, 1) := by decide +kernel
theorem dX13_takesOut_3 : decode cX13_takesOut 3 = .ok (.invokevirtual 36, 3) := by decide +kernel
theorem dX13_takesOut_6 : decode cX13_takesOut 6 = .ok (.istore_n 2, 1) := by decide +kernel
theorem dX13_takesOut_7 : decode cX13_takesOut 7 = .ok (.aload_n 0, 1) := by decide +kernel
theorem dX13_takesOut_8 : decode cX13_takesOut 8 = .ok (.iload_n 1, 1) := by decide +kernel
theorem dX13_takesOut_9 : decode cX13_takesOut 9 = .ok (.iconst 3, 1) := by decide +kernel
theorem dX13_takesOut_10 : decode cX13_takesOut 10 = .ok (.aload_n 0, 1) := by decide +kernel
theorem dX13_takesOut_11 : decode cX13_takesOut 11 = .ok (.iload_n 1, 1) := by decide +kernel
theorem dX13_takesOut_12 : decode cX13_takesOut 12 = .ok (.invokevirtual 44, 3) := by decide +kernel
theorem dX13_takesOut_15 : decode cX13_takesOut 15 = .ok (.invokevirtual 74, 3) := by decide +kernel
theorem dX13_takesOut_18 : decode cX13_takesOut 18 = .ok (.aload_n 0, 1) := by decide +kernel
theorem dX13_takesOut_19 : decode cX13_takesOut 19 = .ok (.iload_n 1, 1) := by decide +kernel
theorem dX13_takesOut_20 : decode cX13_takesOut 20 = .ok (.iconst 2, 1) := by decide +kernel
theorem dX13_takesOut_21 : decode cX13_takesOut 21 = .ok (.iconst (-1), 1) := by decide +kernel
theorem dX13_takesOut_22 : decode cX13_takesOut 22 = .ok (.invokevirtual 74, 3) := by decide +kernel
theorem dX13_takesOut_25 : decode cX13_takesOut 25 = .ok (.iload_n 2, 1) := by decide +kernel
theorem dX13_takesOut_26 : decode cX13_takesOut 26 = .ok (.ireturn, 1) := by decide +kernel
def sX13_takesOut (w : Wl) (l1 : Int32) : Option (Int32 × Wl) := (sX13_of w l1 (2 : Int32)).bind (fun r1 => (sX13_venueOf w l1).bind (fun r3 => (sX13_put w l1 (3 : Int32) r3).bind (fun r5 => (sX13_put r5 l1 (2 : Int32) (-1 : Int32)).bind (fun r9 => some (r1, r9)))))
theorem kX13_takesOut {l : Launch} {Γ : Gl} {B : Bs} {w : Wl} {G : Gf} {sz : Nat} {l1 : Int32} {r : (Int32 × Wl)} (hW : Wd Γ B w G) (h : sX13_takesOut w l1 = some r) : CtW l Γ yX13_takesOut cX13_takesOut 3 (some .int) 3 [.ref (B.1 + 371), .int l1] G sz B (some (.int (r.1))) r.2 := by
  refine Ct.of rfl (Nat.le_of_ble_eq_true rfl) fun X hx hr hl hΓ hnm => ?_
  subst hl hΓ
  show J X 3 G sz 0 0 0 [some (.ref (B.1 + 371)), some (.int l1), none] []
  unfold sX13_takesOut at h
  refine J_al4 hx rfl rfl dX13_takesOut_0 ?_
  refine J_il4 hx rfl rfl dX13_takesOut_1 ?_
  refine J_iconst hx (2 : Int32) dX13_takesOut_2 rfl ?_
  obtain ⟨r1, hr2, h⟩ := bnd h
  refine J_rdV hx (kX13_of  hW hr2) ml_X13_36 lk_X13_of (ci := 11) rfl (hW.obj (rfl : kd 371 = 19) (by decide) (by decide)) (rest := []) rfl rfl (by decide) (by decide) (Nat.le_of_ble_eq_true rfl) (Nat.le_refl 0) (Nat.le_refl 0) dX13_takesOut_3 ?_
  refine J_is4 hx rfl (by decide) (hc_of rfl) rfl dX13_takesOut_6 ?_
  refine J_al4 hx rfl rfl dX13_takesOut_7 ?_
  refine J_il4 hx rfl rfl dX13_takesOut_8 ?_
  refine J_iconst hx (3 : Int32) dX13_takesOut_9 rfl ?_
  refine J_al4 hx rfl rfl dX13_takesOut_10 ?_
  refine J_il4 hx rfl rfl dX13_takesOut_11 ?_
  obtain ⟨r3, hr4, h⟩ := bnd h
  refine J_rdV hx (kX13_venueOf  hW hr4) ml_X13_44 lk_X13_venueOf (ci := 11) rfl (hW.obj (rfl : kd 371 = 19) (by decide) (by decide)) (rest := [.int (3 : Int32), .int l1, .ref (B.1 + 371)]) rfl rfl (by decide) (by decide) (Nat.le_of_ble_eq_true rfl) (Nat.le_refl 0) (Nat.le_refl 0) dX13_takesOut_12 ?_
  obtain ⟨r5, hr6, h⟩ := bnd h
  refine J_wrV hx (kX13_put  hW hr6) ml_X13_74 lk_X13_put (ci := 11) rfl (hW.obj (rfl : kd 371 = 19) (by decide) (by decide)) (rest := []) rfl rfl (by decide) (by decide) (Nat.le_of_ble_eq_true rfl) (Nat.le_refl 0) (Nat.le_refl 0) dX13_takesOut_15 fun G7 hW8 => ?_
  show J X 3 G7 sz 0 0 18 [some (.ref (B.1 + 371)), some (.int l1), some (.int r1)] []
  refine J_al4 hx rfl rfl dX13_takesOut_18 ?_
  refine J_il4 hx rfl rfl dX13_takesOut_19 ?_
  refine J_iconst hx (2 : Int32) dX13_takesOut_20 rfl ?_
  refine J_iconst hx (-1 : Int32) dX13_takesOut_21 rfl ?_
  obtain ⟨r9, hr10, h⟩ := bnd h
  refine J_wrV hx (kX13_put  hW8 hr10) ml_X13_74 lk_X13_put (ci := 11) rfl (hW8.obj (rfl : kd 371 = 19) (by decide) (by decide)) (rest := []) rfl rfl (by decide) (by decide) (Nat.le_of_ble_eq_true rfl) (Nat.le_refl 0) (Nat.le_refl 0) dX13_takesOut_22 fun G11 hW12 => ?_
  show J X 3 G11 sz 0 0 25 [some (.ref (B.1 + 371)), some (.int l1), some (.int r1)] []
  refine J_il4 hx rfl rfl dX13_takesOut_25 ?_
  obtain rfl := Option.some.inj h
  exact J_iretW hx hr hW12 dX13_takesOut_26 (Nat.le_refl 0) (Nat.le_refl 0)
theorem dX13_takeOut_0 : decode cX13_takeOut 0 = .ok (.aload_n 0, 1) := by decide +kernel
theorem dX13_takeOut_1 : decode cX13_takeOut 1 = .ok (.aload_n 0, 1) := by decide +kernel
theorem dX13_takeOut_2 : decode cX13_takeOut 2 = .ok (.iload_n 1, 1) := by decide +kernel
theorem dX13_takeOut_3 : decode cX13_takeOut 3 = .ok (.invokevirtual 124, 3) := by decide +kernel
theorem dX13_takeOut_6 : decode cX13_takeOut 6 = .ok (.putfield 25, 3) := by decide +kernel
theorem dX13_takeOut_9 : decode cX13_takeOut 9 = .ok (.aload_n 0, 1) := by decide +kernel
theorem dX13_takeOut_10 : decode cX13_takeOut 10 = .ok (.getfield 25, 3) := by decide +kernel
theorem dX13_takeOut_13 : decode cX13_takeOut 13 = .ok (.ifCond .eq 5, 3) := by decide +kernel
theorem dX13_takeOut_16 : decode cX13_takeOut 16 = .ok (.iconst 0, 1) := by decide +kernel
theorem dX13_takeOut_17 : decode cX13_takeOut 17 = .ok (.ireturn, 1) := by decide +kernel
theorem dX13_takeOut_18 : decode cX13_takeOut 18 = .ok (.aload_n 0, 1) := by decide +kernel
theorem dX13_takeOut_19 : decode cX13_takeOut 19 = .ok (.invokevirtual 62, 3) := by decide +kernel
theorem dX13_takeOut_22 : decode cX13_takeOut 22 = .ok (.aload_n 0, 1) := by decide +kernel
theorem dX13_takeOut_23 : decode cX13_takeOut 23 = .ok (.iload_n 1, 1) := by decide +kernel
theorem dX13_takeOut_24 : decode cX13_takeOut 24 = .ok (.invokevirtual 127, 3) := by decide +kernel
theorem dX13_takeOut_27 : decode cX13_takeOut 27 = .ok (.ireturn, 1) := by decide +kernel
def sX13_takeOut (w : Wl) (l1 : Int32) : Option (Int32 × Wl) := (sX13_notTakeOut w l1).bind (fun r1 => (if ((wst w 371 5 r1) 371 5) = 0 then (sX13_keep (wst w 371 5 r1) ).bind (fun r6 => (sX13_takesOut r6 l1).bind (fun r10 => some (r10.1, r10.2))) else some ((0 : Int32), (wst w 371 5 r1))))
theorem kX13_takeOut {l : Launch} {Γ : Gl} {B : Bs} {w : Wl} {G : Gf} {sz : Nat} {l1 : Int32} {r : (Int32 × Wl)} (hW : Wd Γ B w G) (h : sX13_takeOut w l1 = some r) : CtW l Γ yX13_takeOut cX13_takeOut 2 (some .int) 5 [.ref (B.1 + 371), .int l1] G sz B (some (.int (r.1))) r.2 := by
  refine Ct.of rfl (Nat.le_of_ble_eq_true rfl) fun X hx hr hl hΓ hnm => ?_
  subst hl hΓ
  show J X 2 G sz 0 0 0 [some (.ref (B.1 + 371)), some (.int l1)] []
  unfold sX13_takeOut at h
  refine J_al4 hx rfl rfl dX13_takeOut_0 ?_
  refine J_al4 hx rfl rfl dX13_takeOut_1 ?_
  refine J_il4 hx rfl rfl dX13_takeOut_2 ?_
  obtain ⟨r1, hr2, h⟩ := bnd h
  refine J_rdV hx (kX13_notTakeOut  hW hr2) ml_X13_124 lk_X13_notTakeOut (ci := 11) rfl (hW.obj (rfl : kd 371 = 19) (by decide) (by decide)) (rest := [.ref (B.1 + 371)]) rfl rfl (by decide) (by decide) (Nat.le_of_ble_eq_true rfl) (Nat.le_refl 0) (Nat.le_refl 0) dX13_takeOut_3 ?_
  refine p13_5 hx hW (rfl : kd 371 = 19) fl_X13_25 dX13_takeOut_6 fun G3 hW4 => ?_
  refine J_al4 hx rfl rfl dX13_takeOut_9 ?_
  refine g13_5 hx hW4 (rfl : kd 371 = 19) fl_X13_25 dX13_takeOut_10 ?_
  refine J_if_eq hx 18 dX13_takeOut_13 rfl (fun h5 => ?_) (fun h5 => ?_)
  · replace h := pos h h5
    refine J_al4 hx rfl rfl dX13_takeOut_18 ?_
    obtain ⟨r6, hr7, h⟩ := bnd h
    refine J_wrV hx (kX13_keep  hW4 hr7) ml_X13_62 lk_X13_keep (ci := 11) rfl (hW4.obj (rfl : kd 371 = 19) (by decide) (by decide)) (rest := []) rfl rfl (by decide) (by decide) (Nat.le_of_ble_eq_true rfl) (Nat.le_refl 0) (Nat.le_refl 0) dX13_takeOut_19 fun G8 hW9 => ?_
    show J X 2 G8 sz 0 0 22 [some (.ref (B.1 + 371)), some (.int l1)] []
    refine J_al4 hx rfl rfl dX13_takeOut_22 ?_
    refine J_il4 hx rfl rfl dX13_takeOut_23 ?_
    obtain ⟨r10, hr11, h⟩ := bnd h
    refine J_wrV hx (kX13_takesOut  hW9 hr11) ml_X13_127 lk_X13_takesOut (ci := 11) rfl (hW9.obj (rfl : kd 371 = 19) (by decide) (by decide)) (rest := []) rfl rfl (by decide) (by decide) (Nat.le_of_ble_eq_true rfl) (Nat.le_refl 0) (Nat.le_refl 0) dX13_takeOut_24 fun G12 hW13 => ?_
    show J X 2 G12 sz 0 0 27 [some (.ref (B.1 + 371)), some (.int l1)] [.int r10.1]
    obtain rfl := Option.some.inj h
    exact J_iretW hx hr hW13 dX13_takeOut_27 (Nat.le_refl 0) (Nat.le_refl 0)
  · replace h := neg h h5
    refine J_iconst hx (0 : Int32) dX13_takeOut_16 rfl ?_
    obtain rfl := Option.some.inj h
    exact J_iretW hx hr hW4 dX13_takeOut_17 (Nat.le_refl 0) (Nat.le_refl 0)
theorem dX13_notPack_0 : decode cX13_notPack 0 = .ok (.aload_n 0, 1) := by decide +kernel
theorem dX13_notPack_1 : decode cX13_notPack 1 = .ok (.iload_n 1, 1) := by decide +kernel
theorem dX13_notPack_2 : decode cX13_notPack 2 = .ok (.invokevirtual 130, 3) := by decide +kernel
theorem dX13_notPack_5 : decode cX13_notPack 5 = .ok (.ifCond .eq 11, 3) := by decide +kernel
theorem dX13_notPack_8 : decode cX13_notPack 8 = .ok (.aload_n 0, 1) := by decide +kernel
theorem dX13_notPack_9 : decode cX13_notPack 9 = .ok (.iload_n 2, 1) := by decide +kernel
theorem dX13_notPack_10 : decode cX13_notPack 10 = .ok (.invokevirtual 85, 3) := by decide +kernel
theorem dX13_notPack_13 : decode cX13_notPack 13 = .ok (.ifCond .ne 5, 3) := by decide +kernel
theorem dX13_notPack_16 : decode cX13_notPack 16 = .ok (.iconst 1, 1) := by decide +kernel
theorem dX13_notPack_17 : decode cX13_notPack 17 = .ok (.ireturn, 1) := by decide +kernel
theorem dX13_notPack_18 : decode cX13_notPack 18 = .ok (.aload_n 0, 1) := by decide +kernel
theorem dX13_notPack_19 : decode cX13_notPack 19 = .ok (.iload_n 1, 1) := by decide +kernel
theorem dX13_notPack_20 : decode cX13_notPack 20 = .ok (.iconst 4, 1) := by decide +kernel
theorem dX13_notPack_21 : decode cX13_notPack 21 = .ok (.invokevirtual 51, 3) := by decide +kernel
theorem dX13_notPack_24 : decode cX13_notPack 24 = .ok (.iconst (-1), 1) := by decide +kernel
theorem dX13_notPack_25 : decode cX13_notPack 25 = .ok (.if_icmp .ne 21, 3) := by decide +kernel
theorem dX13_notPack_28 : decode cX13_notPack 28 = .ok (.aload_n 0, 1) := by decide +kernel
theorem dX13_notPack_29 : decode cX13_notPack 29 = .ok (.iload_n 2, 1) := by decide +kernel
theorem dX13_notPack_30 : decode cX13_notPack 30 = .ok (.aload_n 0, 1) := by decide +kernel
theorem dX13_notPack_31 : decode cX13_notPack 31 = .ok (.iload_n 1, 1) := by decide +kernel
theorem dX13_notPack_32 : decode cX13_notPack 32 = .ok (.iconst 5, 1) := by decide +kernel
theorem dX13_notPack_33 : decode cX13_notPack 33 = .ok (.invokevirtual 51, 3) := by decide +kernel
theorem dX13_notPack_36 : decode cX13_notPack 36 = .ok (.invokevirtual 112, 3) := by decide +kernel
theorem dX13_notPack_39 : decode cX13_notPack 39 = .ok (.ifCond .eq 7, 3) := by decide +kernel
theorem dX13_notPack_42 : decode cX13_notPack 42 = .ok (.iconst 0, 1) := by decide +kernel
theorem dX13_notPack_43 : decode cX13_notPack 43 = .ok (.goto 4, 3) := by decide +kernel
theorem dX13_notPack_46 : decode cX13_notPack 46 = .ok (.iconst 2, 1) := by decide +kernel
theorem dX13_notPack_47 : decode cX13_notPack 47 = .ok (.ireturn, 1) := by decide +kernel
def sX13_notPack (w : Wl) (l1 : Int32) (l2 : Int32) : Option Int32 := (sX13_isWork w l1).bind (fun r1 => (if r1 = true then (sX13_isCrate w l2).bind (fun r4 => (if r4 = true then (sX13_ofWork w l1 (4 : Int32)).bind (fun r7 => (if r7 = (-1 : Int32) then (sX13_ofWork w l1 (5 : Int32)).bind (fun r10 => (sX13_isForUse w l2 r10).bind (fun r12 => (if r12 = true then some (0 : Int32) else some (2 : Int32)))) else some (2 : Int32))) else some (1 : Int32))) else some (1 : Int32)))
theorem kX13_notPack {l : Launch} {Γ : Gl} {B : Bs} {w : Wl} {G : Gf} {sz : Nat} {l1 : Int32} {l2 : Int32} {r : Int32} (hW : Wd Γ B w G) (h : sX13_notPack w l1 l2 = some r) : CtR l Γ yX13_notPack cX13_notPack 3 (some .int) 5 [.ref (B.1 + 371), .int l1, .int l2] G sz (.int (r)) := by
  refine Ct.of rfl (Nat.le_of_ble_eq_true rfl) fun X hx hr hl hΓ hnm => ?_
  subst hl hΓ
  show J X 3 G sz 0 0 0 [some (.ref (B.1 + 371)), some (.int l1), some (.int l2)] []
  unfold sX13_notPack at h
  refine J_al4 hx rfl rfl dX13_notPack_0 ?_
  refine J_il4 hx rfl rfl dX13_notPack_1 ?_
  obtain ⟨r1, hr2, h⟩ := bnd h
  refine J_rdV hx (kX13_isWork  hW hr2) ml_X13_130 lk_X13_isWork (ci := 11) rfl (hW.obj (rfl : kd 371 = 19) (by decide) (by decide)) (rest := []) rfl rfl (by decide) (by decide) (Nat.le_of_ble_eq_true rfl) (Nat.le_refl 0) (Nat.le_refl 0) dX13_notPack_2 ?_
  refine J_bif_eq hx 16 dX13_notPack_5 rfl (fun h3 => ?_) (fun h3 => ?_)
  · replace h := neg h (bft h3)
    refine J_iconst hx (1 : Int32) dX13_notPack_16 rfl ?_
    exact J_iretR hx hr dX13_notPack_17 (Nat.le_refl 0) (Nat.le_refl 0) (Option.some.inj h)
  · replace h := pos h h3
    refine J_al4 hx rfl rfl dX13_notPack_8 ?_
    refine J_il4 hx rfl rfl dX13_notPack_9 ?_
    obtain ⟨r4, hr5, h⟩ := bnd h
    refine J_rdV hx (kX13_isCrate  hW hr5) ml_X13_85 lk_X13_isCrate (ci := 11) rfl (hW.obj (rfl : kd 371 = 19) (by decide) (by decide)) (rest := []) rfl rfl (by decide) (by decide) (Nat.le_of_ble_eq_true rfl) (Nat.le_refl 0) (Nat.le_refl 0) dX13_notPack_10 ?_
    refine J_bif_ne hx 18 dX13_notPack_13 rfl (fun h6 => ?_) (fun h6 => ?_)
    · replace h := pos h h6
      refine J_al4 hx rfl rfl dX13_notPack_18 ?_
      refine J_il4 hx rfl rfl dX13_notPack_19 ?_
      refine J_iconst hx (4 : Int32) dX13_notPack_20 rfl ?_
      obtain ⟨r7, hr8, h⟩ := bnd h
      refine J_rdV hx (kX13_ofWork  hW hr8) ml_X13_51 lk_X13_ofWork (ci := 11) rfl (hW.obj (rfl : kd 371 = 19) (by decide) (by decide)) (rest := []) rfl rfl (by decide) (by decide) (Nat.le_of_ble_eq_true rfl) (Nat.le_refl 0) (Nat.le_refl 0) dX13_notPack_21 ?_
      refine J_iconst hx (-1 : Int32) dX13_notPack_24 rfl ?_
      refine J_icmp_ne hx 46 dX13_notPack_25 rfl (fun h9 => ?_) (fun h9 => ?_)
      · replace h := neg h h9
        refine J_iconst hx (2 : Int32) dX13_notPack_46 rfl ?_
        exact J_iretR hx hr dX13_notPack_47 (Nat.le_refl 0) (Nat.le_refl 0) (Option.some.inj h)
      · replace h := pos h h9
        refine J_al4 hx rfl rfl dX13_notPack_28 ?_
        refine J_il4 hx rfl rfl dX13_notPack_29 ?_
        refine J_al4 hx rfl rfl dX13_notPack_30 ?_
        refine J_il4 hx rfl rfl dX13_notPack_31 ?_
        refine J_iconst hx (5 : Int32) dX13_notPack_32 rfl ?_
        obtain ⟨r10, hr11, h⟩ := bnd h
        refine J_rdV hx (kX13_ofWork  hW hr11) ml_X13_51 lk_X13_ofWork (ci := 11) rfl (hW.obj (rfl : kd 371 = 19) (by decide) (by decide)) (rest := [.int l2, .ref (B.1 + 371)]) rfl rfl (by decide) (by decide) (Nat.le_of_ble_eq_true rfl) (Nat.le_refl 0) (Nat.le_refl 0) dX13_notPack_33 ?_
        obtain ⟨r12, hr13, h⟩ := bnd h
        refine J_rdV hx (kX13_isForUse  hW hr13) ml_X13_112 lk_X13_isForUse (ci := 11) rfl (hW.obj (rfl : kd 371 = 19) (by decide) (by decide)) (rest := []) rfl rfl (by decide) (by decide) (Nat.le_of_ble_eq_true rfl) (Nat.le_refl 0) (Nat.le_refl 0) dX13_notPack_36 ?_
        refine J_bif_eq hx 46 dX13_notPack_39 rfl (fun h14 => ?_) (fun h14 => ?_)
        · replace h := neg h (bft h14)
          refine J_iconst hx (2 : Int32) dX13_notPack_46 rfl ?_
          exact J_iretR hx hr dX13_notPack_47 (Nat.le_refl 0) (Nat.le_refl 0) (Option.some.inj h)
        · replace h := pos h h14
          refine J_iconst hx (0 : Int32) dX13_notPack_42 rfl ?_
          refine J_goto hx 47 dX13_notPack_43 rfl ?_
          exact J_iretR hx hr dX13_notPack_47 (Nat.le_refl 0) (Nat.le_refl 0) (Option.some.inj h)
    · replace h := neg h (bft h6)
      refine J_iconst hx (1 : Int32) dX13_notPack_16 rfl ?_
      exact J_iretR hx hr dX13_notPack_17 (Nat.le_refl 0) (Nat.le_refl 0) (Option.some.inj h)
theorem dX13_packs_0 : decode cX13_packs 0 = .ok (.aload_n 0, 1) := by decide +kernel
theorem dX13_packs_1 : decode cX13_packs 1 = .ok (.iload_n 1, 1) := by decide +kernel
theorem dX13_packs_2 : decode cX13_packs 2 = .ok (.iconst 4, 1) := by decide +kernel
theorem dX13_packs_3 : decode cX13_packs 3 = .ok (.iload_n 2, 1) := by decide +kernel
theorem dX13_packs_4 : decode cX13_packs 4 = .ok (.invokevirtual 79, 3) := by decide +kernel
theorem dX13_packs_7 : decode cX13_packs 7 = .ok (.aload_n 0, 1) := by decide +kernel
theorem dX13_packs_8 : decode cX13_packs 8 = .ok (.iload_n 2, 1) := by decide +kernel
theorem dX13_packs_9 : decode cX13_packs 9 = .ok (.invokevirtual 94, 3) := by decide +kernel
theorem dX13_packs_12 : decode cX13_packs 12 = .ok (.ireturn, 1) := by decide +kernel
def sX13_packs (w : Wl) (l1 : Int32) (l2 : Int32) : Option (Int32 × Wl) := (sX13_putWork w l1 (4 : Int32) l2).bind (fun r1 => (sX13_directWorks r1 l2).bind (fun r5 => some (r5, r1)))
theorem kX13_packs {l : Launch} {Γ : Gl} {B : Bs} {w : Wl} {G : Gf} {sz : Nat} {l1 : Int32} {l2 : Int32} {r : (Int32 × Wl)} (hW : Wd Γ B w G) (h : sX13_packs w l1 l2 = some r) : CtW l Γ yX13_packs cX13_packs 3 (some .int) 2 [.ref (B.1 + 371), .int l1, .int l2] G sz B (some (.int (r.1))) r.2 := by
  refine Ct.of rfl (Nat.le_of_ble_eq_true rfl) fun X hx hr hl hΓ hnm => ?_
  subst hl hΓ
  show J X 3 G sz 0 0 0 [some (.ref (B.1 + 371)), some (.int l1), some (.int l2)] []
  unfold sX13_packs at h
  refine J_al4 hx rfl rfl dX13_packs_0 ?_
  refine J_il4 hx rfl rfl dX13_packs_1 ?_
  refine J_iconst hx (4 : Int32) dX13_packs_2 rfl ?_
  refine J_il4 hx rfl rfl dX13_packs_3 ?_
  obtain ⟨r1, hr2, h⟩ := bnd h
  refine J_wrV hx (kX13_putWork  hW hr2) ml_X13_79 lk_X13_putWork (ci := 11) rfl (hW.obj (rfl : kd 371 = 19) (by decide) (by decide)) (rest := []) rfl rfl (by decide) (by decide) (Nat.le_of_ble_eq_true rfl) (Nat.le_refl 0) (Nat.le_refl 0) dX13_packs_4 fun G3 hW4 => ?_
  show J X 3 G3 sz 0 0 7 [some (.ref (B.1 + 371)), some (.int l1), some (.int l2)] []
  refine J_al4 hx rfl rfl dX13_packs_7 ?_
  refine J_il4 hx rfl rfl dX13_packs_8 ?_
  obtain ⟨r5, hr6, h⟩ := bnd h
  refine J_rdV hx (kX13_directWorks  hW4 hr6) ml_X13_94 lk_X13_directWorks (ci := 11) rfl (hW4.obj (rfl : kd 371 = 19) (by decide) (by decide)) (rest := []) rfl rfl (by decide) (by decide) (Nat.le_of_ble_eq_true rfl) (Nat.le_refl 0) (Nat.le_refl 0) dX13_packs_9 ?_
  obtain rfl := Option.some.inj h
  exact J_iretW hx hr hW4 dX13_packs_12 (Nat.le_refl 0) (Nat.le_refl 0)
theorem dX13_pack_0 : decode cX13_pack 0 = .ok (.aload_n 0, 1) := by decide +kernel
theorem dX13_pack_1 : decode cX13_pack 1 = .ok (.aload_n 0, 1) := by decide +kernel
theorem dX13_pack_2 : decode cX13_pack 2 = .ok (.iload_n 1, 1) := by decide +kernel
theorem dX13_pack_3 : decode cX13_pack 3 = .ok (.iload_n 2, 1) := by decide +kernel
theorem dX13_pack_4 : decode cX13_pack 4 = .ok (.invokevirtual 133, 3) := by decide +kernel
theorem dX13_pack_7 : decode cX13_pack 7 = .ok (.putfield 25, 3) := by decide +kernel
theorem dX13_pack_10 : decode cX13_pack 10 = .ok (.aload_n 0, 1) := by decide +kernel
theorem dX13_pack_11 : decode cX13_pack 11 = .ok (.getfield 25, 3) := by decide +kernel
theorem dX13_pack_14 : decode cX13_pack 14 = .ok (.ifCond .eq 5, 3) := by decide +kernel
theorem dX13_pack_17 : decode cX13_pack 17 = .ok (.iconst 0, 1) := by decide +kernel
theorem dX13_pack_18 : decode cX13_pack 18 = .ok (.ireturn, 1) := by decide +kernel
theorem dX13_pack_19 : decode cX13_pack 19 = .ok (.aload_n 0, 1) := by decide +kernel
theorem dX13_pack_20 : decode cX13_pack 20 = .ok (.invokevirtual 62, 3) := by decide +kernel
theorem dX13_pack_23 : decode cX13_pack 23 = .ok (.aload_n 0, 1) := by decide +kernel
theorem dX13_pack_24 : decode cX13_pack 24 = .ok (.iload_n 1, 1) := by decide +kernel
theorem dX13_pack_25 : decode cX13_pack 25 = .ok (.iload_n 2, 1) := by decide +kernel
theorem dX13_pack_26 : decode cX13_pack 26 = .ok (.invokevirtual 136, 3) := by decide +kernel
theorem dX13_pack_29 : decode cX13_pack 29 = .ok (.ireturn, 1) := by decide +kernel
def sX13_pack (w : Wl) (l1 : Int32) (l2 : Int32) : Option (Int32 × Wl) := (sX13_notPack w l1 l2).bind (fun r1 => (if ((wst w 371 5 r1) 371 5) = 0 then (sX13_keep (wst w 371 5 r1) ).bind (fun r6 => (sX13_packs r6 l1 l2).bind (fun r10 => some (r10.1, r10.2))) else some ((0 : Int32), (wst w 371 5 r1))))
theorem kX13_pack {l : Launch} {Γ : Gl} {B : Bs} {w : Wl} {G : Gf} {sz : Nat} {l1 : Int32} {l2 : Int32} {r : (Int32 × Wl)} (hW : Wd Γ B w G) (h : sX13_pack w l1 l2 = some r) : CtW l Γ yX13_pack cX13_pack 3 (some .int) 6 [.ref (B.1 + 371), .int l1, .int l2] G sz B (some (.int (r.1))) r.2 := by
  refine Ct.of rfl (Nat.le_of_ble_eq_true rfl) fun X hx hr hl hΓ hnm => ?_
  subst hl hΓ
  show J X 3 G sz 0 0 0 [some (.ref (B.1 + 371)), some (.int l1), some (.int l2)] []
  unfold sX13_pack at h
  refine J_al4 hx rfl rfl dX13_pack_0 ?_
  refine J_al4 hx rfl rfl dX13_pack_1 ?_
  refine J_il4 hx rfl rfl dX13_pack_2 ?_
  refine J_il4 hx rfl rfl dX13_pack_3 ?_
  obtain ⟨r1, hr2, h⟩ := bnd h
  refine J_rdV hx (kX13_notPack  hW hr2) ml_X13_133 lk_X13_notPack (ci := 11) rfl (hW.obj (rfl : kd 371 = 19) (by decide) (by decide)) (rest := [.ref (B.1 + 371)]) rfl rfl (by decide) (by decide) (Nat.le_of_ble_eq_true rfl) (Nat.le_refl 0) (Nat.le_refl 0) dX13_pack_4 ?_
  refine p13_5 hx hW (rfl : kd 371 = 19) fl_X13_25 dX13_pack_7 fun G3 hW4 => ?_
  refine J_al4 hx rfl rfl dX13_pack_10 ?_
  refine g13_5 hx hW4 (rfl : kd 371 = 19) fl_X13_25 dX13_pack_11 ?_
  refine J_if_eq hx 19 dX13_pack_14 rfl (fun h5 => ?_) (fun h5 => ?_)
  · replace h := pos h h5
    refine J_al4 hx rfl rfl dX13_pack_19 ?_
    obtain ⟨r6, hr7, h⟩ := bnd h
    refine J_wrV hx (kX13_keep  hW4 hr7) ml_X13_62 lk_X13_keep (ci := 11) rfl (hW4.obj (rfl : kd 371 = 19) (by decide) (by decide)) (rest := []) rfl rfl (by decide) (by decide) (Nat.le_of_ble_eq_true rfl) (Nat.le_refl 0) (Nat.le_refl 0) dX13_pack_20 fun G8 hW9 => ?_
    show J X 3 G8 sz 0 0 23 [some (.ref (B.1 + 371)), some (.int l1), some (.int l2)] []
    refine J_al4 hx rfl rfl dX13_pack_23 ?_
    refine J_il4 hx rfl rfl dX13_pack_24 ?_
    refine J_il4 hx rfl rfl dX13_pack_25 ?_
    obtain ⟨r10, hr11, h⟩ := bnd h
    refine J_wrV hx (kX13_packs  hW9 hr11) ml_X13_136 lk_X13_packs (ci := 11) rfl (hW9.obj (rfl : kd 371 = 19) (by decide) (by decide)) (rest := []) rfl rfl (by decide) (by decide) (Nat.le_of_ble_eq_true rfl) (Nat.le_refl 0) (Nat.le_refl 0) dX13_pack_26 fun G12 hW13 => ?_
    show J X 3 G12 sz 0 0 29 [some (.ref (B.1 + 371)), some (.int l1), some (.int l2)] [.int r10.1]
    obtain rfl := Option.some.inj h
    exact J_iretW hx hr hW13 dX13_pack_29 (Nat.le_refl 0) (Nat.le_refl 0)
  · replace h := neg h h5
    refine J_iconst hx (0 : Int32) dX13_pack_17 rfl ?_
    obtain rfl := Option.some.inj h
    exact J_iretW hx hr hW4 dX13_pack_18 (Nat.le_refl 0) (Nat.le_refl 0)
theorem dX13_notUnpack_0 : decode cX13_notUnpack 0 = .ok (.aload_n 0, 1) := by decide +kernel
theorem dX13_notUnpack_1 : decode cX13_notUnpack 1 = .ok (.iload_n 1, 1) := by decide +kernel
theorem dX13_notUnpack_2 : decode cX13_notUnpack 2 = .ok (.invokevirtual 130, 3) := by decide +kernel
theorem dX13_notUnpack_5 : decode cX13_notUnpack 5 = .ok (.ifCond .ne 5, 3) := by decide +kernel
theorem dX13_notUnpack_8 : decode cX13_notUnpack 8 = .ok (.iconst 1, 1) := by decide +kernel
theorem dX13_notUnpack_9 : decode cX13_notUnpack 9 = .ok (.ireturn, 1) := by decide +kernel
theorem dX13_notUnpack_10 : decode cX13_notUnpack 10 = .ok (.aload_n 0, 1) := by decide +kernel
theorem dX13_notUnpack_11 : decode cX13_notUnpack 11 = .ok (.iload_n 1, 1) := by decide +kernel
theorem dX13_notUnpack_12 : decode cX13_notUnpack 12 = .ok (.iconst 4, 1) := by decide +kernel
theorem dX13_notUnpack_13 : decode cX13_notUnpack 13 = .ok (.invokevirtual 51, 3) := by decide +kernel
theorem dX13_notUnpack_16 : decode cX13_notUnpack 16 = .ok (.istore_n 2, 1) := by decide +kernel
theorem dX13_notUnpack_17 : decode cX13_notUnpack 17 = .ok (.iload_n 2, 1) := by decide +kernel
theorem dX13_notUnpack_18 : decode cX13_notUnpack 18 = .ok (.iconst (-1), 1) := by decide +kernel
theorem dX13_notUnpack_19 : decode cX13_notUnpack 19 = .ok (.if_icmp .eq 23, 3) := by decide +kernel
theorem dX13_notUnpack_22 : decode cX13_notUnpack 22 = .ok (.aload_n 0, 1) := by decide +kernel
theorem dX13_notUnpack_23 : decode cX13_notUnpack 23 = .ok (.iload_n 2, 1) := by decide +kernel
theorem dX13_notUnpack_24 : decode cX13_notUnpack 24 = .ok (.invokevirtual 47, 3) := by decide +kernel
theorem dX13_notUnpack_27 : decode cX13_notUnpack 27 = .ok (.ifCond .eq 15, 3) := by decide +kernel
theorem dX13_notUnpack_30 : decode cX13_notUnpack 30 = .ok (.aload_n 0, 1) := by decide +kernel
theorem dX13_notUnpack_31 : decode cX13_notUnpack 31 = .ok (.iload_n 2, 1) := by decide +kernel
theorem dX13_notUnpack_32 : decode cX13_notUnpack 32 = .ok (.invokevirtual 88, 3) := by decide +kernel
theorem dX13_notUnpack_35 : decode cX13_notUnpack 35 = .ok (.ifCond .eq 7, 3) := by decide +kernel
theorem dX13_notUnpack_38 : decode cX13_notUnpack 38 = .ok (.iconst 0, 1) := by decide +kernel
theorem dX13_notUnpack_39 : decode cX13_notUnpack 39 = .ok (.goto 4, 3) := by decide +kernel
theorem dX13_notUnpack_42 : decode cX13_notUnpack 42 = .ok (.iconst 2, 1) := by decide +kernel
theorem dX13_notUnpack_43 : decode cX13_notUnpack 43 = .ok (.ireturn, 1) := by decide +kernel
def sX13_notUnpack (w : Wl) (l1 : Int32) : Option Int32 := (sX13_isWork w l1).bind (fun r1 => (if r1 = true then (sX13_ofWork w l1 (4 : Int32)).bind (fun r4 => (if r4 = (-1 : Int32) then some (2 : Int32) else (sX13_isOpen w r4).bind (fun r7 => (if r7 = true then (sX13_isReached w r4).bind (fun r10 => (if r10 = true then some (0 : Int32) else some (2 : Int32))) else some (2 : Int32))))) else some (1 : Int32)))
theorem kX13_notUnpack {l : Launch} {Γ : Gl} {B : Bs} {w : Wl} {G : Gf} {sz : Nat} {l1 : Int32} {r : Int32} (hW : Wd Γ B w G) (h : sX13_notUnpack w l1 = some r) : CtR l Γ yX13_notUnpack cX13_notUnpack 3 (some .int) 4 [.ref (B.1 + 371), .int l1] G sz (.int (r)) := by
  refine Ct.of rfl (Nat.le_of_ble_eq_true rfl) fun X hx hr hl hΓ hnm => ?_
  subst hl hΓ
  show J X 3 G sz 0 0 0 [some (.ref (B.1 + 371)), some (.int l1), none] []
  unfold sX13_notUnpack at h
  refine J_al4 hx rfl rfl dX13_notUnpack_0 ?_
  refine J_il4 hx rfl rfl dX13_notUnpack_1 ?_
  obtain ⟨r1, hr2, h⟩ := bnd h
  refine J_rdV hx (kX13_isWork  hW hr2) ml_X13_130 lk_X13_isWork (ci := 11) rfl (hW.obj (rfl : kd 371 = 19) (by decide) (by decide)) (rest := []) rfl rfl (by decide) (by decide) (Nat.le_of_ble_eq_true rfl) (Nat.le_refl 0) (Nat.le_refl 0) dX13_notUnpack_2 ?_
  refine J_bif_ne hx 10 dX13_notUnpack_5 rfl (fun h3 => ?_) (fun h3 => ?_)
  · replace h := pos h h3
    refine J_al4 hx rfl rfl dX13_notUnpack_10 ?_
    refine J_il4 hx rfl rfl dX13_notUnpack_11 ?_
    refine J_iconst hx (4 : Int32) dX13_notUnpack_12 rfl ?_
    obtain ⟨r4, hr5, h⟩ := bnd h
    refine J_rdV hx (kX13_ofWork  hW hr5) ml_X13_51 lk_X13_ofWork (ci := 11) rfl (hW.obj (rfl : kd 371 = 19) (by decide) (by decide)) (rest := []) rfl rfl (by decide) (by decide) (Nat.le_of_ble_eq_true rfl) (Nat.le_refl 0) (Nat.le_refl 0) dX13_notUnpack_13 ?_
    refine J_is4 hx rfl (by decide) (hc_of rfl) rfl dX13_notUnpack_16 ?_
    refine J_il4 hx rfl rfl dX13_notUnpack_17 ?_
    refine J_iconst hx (-1 : Int32) dX13_notUnpack_18 rfl ?_
    refine J_icmp_eq hx 42 dX13_notUnpack_19 rfl (fun h6 => ?_) (fun h6 => ?_)
    · replace h := pos h h6
      refine J_iconst hx (2 : Int32) dX13_notUnpack_42 rfl ?_
      exact J_iretR hx hr dX13_notUnpack_43 (Nat.le_refl 0) (Nat.le_refl 0) (Option.some.inj h)
    · replace h := neg h h6
      refine J_al4 hx rfl rfl dX13_notUnpack_22 ?_
      refine J_il4 hx rfl rfl dX13_notUnpack_23 ?_
      obtain ⟨r7, hr8, h⟩ := bnd h
      refine J_rdV hx (kX13_isOpen  hW hr8) ml_X13_47 lk_X13_isOpen (ci := 11) rfl (hW.obj (rfl : kd 371 = 19) (by decide) (by decide)) (rest := []) rfl rfl (by decide) (by decide) (Nat.le_of_ble_eq_true rfl) (Nat.le_refl 0) (Nat.le_refl 0) dX13_notUnpack_24 ?_
      refine J_bif_eq hx 42 dX13_notUnpack_27 rfl (fun h9 => ?_) (fun h9 => ?_)
      · replace h := neg h (bft h9)
        refine J_iconst hx (2 : Int32) dX13_notUnpack_42 rfl ?_
        exact J_iretR hx hr dX13_notUnpack_43 (Nat.le_refl 0) (Nat.le_refl 0) (Option.some.inj h)
      · replace h := pos h h9
        refine J_al4 hx rfl rfl dX13_notUnpack_30 ?_
        refine J_il4 hx rfl rfl dX13_notUnpack_31 ?_
        obtain ⟨r10, hr11, h⟩ := bnd h
        refine J_rdV hx (kX13_isReached  hW hr11) ml_X13_88 lk_X13_isReached (ci := 11) rfl (hW.obj (rfl : kd 371 = 19) (by decide) (by decide)) (rest := []) rfl rfl (by decide) (by decide) (Nat.le_of_ble_eq_true rfl) (Nat.le_refl 0) (Nat.le_refl 0) dX13_notUnpack_32 ?_
        refine J_bif_eq hx 42 dX13_notUnpack_35 rfl (fun h12 => ?_) (fun h12 => ?_)
        · replace h := neg h (bft h12)
          refine J_iconst hx (2 : Int32) dX13_notUnpack_42 rfl ?_
          exact J_iretR hx hr dX13_notUnpack_43 (Nat.le_refl 0) (Nat.le_refl 0) (Option.some.inj h)
        · replace h := pos h h12
          refine J_iconst hx (0 : Int32) dX13_notUnpack_38 rfl ?_
          refine J_goto hx 43 dX13_notUnpack_39 rfl ?_
          exact J_iretR hx hr dX13_notUnpack_43 (Nat.le_refl 0) (Nat.le_refl 0) (Option.some.inj h)
  · replace h := neg h (bft h3)
    refine J_iconst hx (1 : Int32) dX13_notUnpack_8 rfl ?_
    exact J_iretR hx hr dX13_notUnpack_9 (Nat.le_refl 0) (Nat.le_refl 0) (Option.some.inj h)
theorem dX13_unpacks_0 : decode cX13_unpacks 0 = .ok (.aload_n 0, 1) := by decide +kernel
theorem dX13_unpacks_1 : decode cX13_unpacks 1 = .ok (.iload_n 1, 1) := by decide +kernel
theorem dX13_unpacks_2 : decode cX13_unpacks 2 = .ok (.iconst 5, 1) := by decide +kernel
theorem dX13_unpacks_3 : decode cX13_unpacks 3 = .ok (.aload_n 0, 1) := by decide +kernel
theorem dX13_unpacks_4 : decode cX13_unpacks 4 = .ok (.aload_n 0, 1) := by decide +kernel
theorem dX13_unpacks_5 : decode cX13_unpacks 5 = .ok (.iload_n 1, 1) := by decide +kernel
theorem dX13_unpacks_6 : decode cX13_unpacks 6 = .ok (.iconst 4, 1) := by decide +kernel
theorem dX13_unpacks_7 : decode cX13_unpacks 7 = .ok (.invokevirtual 51, 3) := by decide +kernel
theorem dX13_unpacks_10 : decode cX13_unpacks 10 = .ok (.invokevirtual 44, 3) := by decide +kernel
theorem dX13_unpacks_13 : decode cX13_unpacks 13 = .ok (.invokevirtual 79, 3) := by decide +kernel
theorem dX13_unpacks_16 : decode cX13_unpacks 16 = .ok (.aload_n 0, 1) := by decide +kernel
theorem dX13_unpacks_17 : decode cX13_unpacks 17 = .ok (.iload_n 1, 1) := by decide +kernel
theorem dX13_unpacks_18 : decode cX13_unpacks 18 = .ok (.iconst 4, 1) := by decide +kernel
theorem dX13_unpacks_19 : decode cX13_unpacks 19 = .ok (.iconst (-1), 1) := by decide +kernel
theorem dX13_unpacks_20 : decode cX13_unpacks 20 = .ok (.invokevirtual 79, 3) := by decide +kernel
theorem dX13_unpacks_23 : decode cX13_unpacks 23 = .ok (.aload_n 0, 1) := by decide +kernel
theorem dX13_unpacks_24 : decode cX13_unpacks 24 = .ok (.iload_n 1, 1) := by decide +kernel
theorem dX13_unpacks_25 : decode cX13_unpacks 25 = .ok (.iconst 5, 1) := by decide +kernel
theorem dX13_unpacks_26 : decode cX13_unpacks 26 = .ok (.invokevirtual 51, 3) := by decide +kernel
theorem dX13_unpacks_29 : decode cX13_unpacks 29 = .ok (.ireturn, 1) := by decide +kernel
def sX13_unpacks (w : Wl) (l1 : Int32) : Option (Int32 × Wl) := (sX13_ofWork w l1 (4 : Int32)).bind (fun r1 => (sX13_venueOf w r1).bind (fun r3 => (sX13_putWork w l1 (5 : Int32) r3).bind (fun r5 => (sX13_putWork r5 l1 (4 : Int32) (-1 : Int32)).bind (fun r9 => (sX13_ofWork r9 l1 (5 : Int32)).bind (fun r13 => some (r13, r9))))))
theorem kX13_unpacks {l : Launch} {Γ : Gl} {B : Bs} {w : Wl} {G : Gf} {sz : Nat} {l1 : Int32} {r : (Int32 × Wl)} (hW : Wd Γ B w G) (h : sX13_unpacks w l1 = some r) : CtW l Γ yX13_unpacks cX13_unpacks 2 (some .int) 3 [.ref (B.1 + 371), .int l1] G sz B (some (.int (r.1))) r.2 := by
  refine Ct.of rfl (Nat.le_of_ble_eq_true rfl) fun X hx hr hl hΓ hnm => ?_
  subst hl hΓ
  show J X 2 G sz 0 0 0 [some (.ref (B.1 + 371)), some (.int l1)] []
  unfold sX13_unpacks at h
  refine J_al4 hx rfl rfl dX13_unpacks_0 ?_
  refine J_il4 hx rfl rfl dX13_unpacks_1 ?_
  refine J_iconst hx (5 : Int32) dX13_unpacks_2 rfl ?_
  refine J_al4 hx rfl rfl dX13_unpacks_3 ?_
  refine J_al4 hx rfl rfl dX13_unpacks_4 ?_
  refine J_il4 hx rfl rfl dX13_unpacks_5 ?_
  refine J_iconst hx (4 : Int32) dX13_unpacks_6 rfl ?_
  obtain ⟨r1, hr2, h⟩ := bnd h
  refine J_rdV hx (kX13_ofWork  hW hr2) ml_X13_51 lk_X13_ofWork (ci := 11) rfl (hW.obj (rfl : kd 371 = 19) (by decide) (by decide)) (rest := [.ref (B.1 + 371), .int (5 : Int32), .int l1, .ref (B.1 + 371)]) rfl rfl (by decide) (by decide) (Nat.le_of_ble_eq_true rfl) (Nat.le_refl 0) (Nat.le_refl 0) dX13_unpacks_7 ?_
  obtain ⟨r3, hr4, h⟩ := bnd h
  refine J_rdV hx (kX13_venueOf  hW hr4) ml_X13_44 lk_X13_venueOf (ci := 11) rfl (hW.obj (rfl : kd 371 = 19) (by decide) (by decide)) (rest := [.int (5 : Int32), .int l1, .ref (B.1 + 371)]) rfl rfl (by decide) (by decide) (Nat.le_of_ble_eq_true rfl) (Nat.le_refl 0) (Nat.le_refl 0) dX13_unpacks_10 ?_
  obtain ⟨r5, hr6, h⟩ := bnd h
  refine J_wrV hx (kX13_putWork  hW hr6) ml_X13_79 lk_X13_putWork (ci := 11) rfl (hW.obj (rfl : kd 371 = 19) (by decide) (by decide)) (rest := []) rfl rfl (by decide) (by decide) (Nat.le_of_ble_eq_true rfl) (Nat.le_refl 0) (Nat.le_refl 0) dX13_unpacks_13 fun G7 hW8 => ?_
  show J X 2 G7 sz 0 0 16 [some (.ref (B.1 + 371)), some (.int l1)] []
  refine J_al4 hx rfl rfl dX13_unpacks_16 ?_
  refine J_il4 hx rfl rfl dX13_unpacks_17 ?_
  refine J_iconst hx (4 : Int32) dX13_unpacks_18 rfl ?_
  refine J_iconst hx (-1 : Int32) dX13_unpacks_19 rfl ?_
  obtain ⟨r9, hr10, h⟩ := bnd h
  refine J_wrV hx (kX13_putWork  hW8 hr10) ml_X13_79 lk_X13_putWork (ci := 11) rfl (hW8.obj (rfl : kd 371 = 19) (by decide) (by decide)) (rest := []) rfl rfl (by decide) (by decide) (Nat.le_of_ble_eq_true rfl) (Nat.le_refl 0) (Nat.le_refl 0) dX13_unpacks_20 fun G11 hW12 => ?_
  show J X 2 G11 sz 0 0 23 [some (.ref (B.1 + 371)), some (.int l1)] []
  refine J_al4 hx rfl rfl dX13_unpacks_23 ?_
  refine J_il4 hx rfl rfl dX13_unpacks_24 ?_
  refine J_iconst hx (5 : Int32) dX13_unpacks_25 rfl ?_
  obtain ⟨r13, hr14, h⟩ := bnd h
  refine J_rdV hx (kX13_ofWork  hW12 hr14) ml_X13_51 lk_X13_ofWork (ci := 11) rfl (hW12.obj (rfl : kd 371 = 19) (by decide) (by decide)) (rest := []) rfl rfl (by decide) (by decide) (Nat.le_of_ble_eq_true rfl) (Nat.le_refl 0) (Nat.le_refl 0) dX13_unpacks_26 ?_
  obtain rfl := Option.some.inj h
  exact J_iretW hx hr hW12 dX13_unpacks_29 (Nat.le_refl 0) (Nat.le_refl 0)
theorem dX13_unpack_0 : decode cX13_unpack 0 = .ok (.aload_n 0, 1) := by decide +kernel
theorem dX13_unpack_1 : decode cX13_unpack 1 = .ok (.aload_n 0, 1) := by decide +kernel
theorem dX13_unpack_2 : decode cX13_unpack 2 = .ok (.iload_n 1, 1) := by decide +kernel
theorem dX13_unpack_3 : decode cX13_unpack 3 = .ok (.invokevirtual 139, 3) := by decide +kernel
theorem dX13_unpack_6 : decode cX13_unpack 6 = .ok (.putfield 25, 3) := by decide +kernel
theorem dX13_unpack_9 : decode cX13_unpack 9 = .ok (.aload_n 0, 1) := by decide +kernel
theorem dX13_unpack_10 : decode cX13_unpack 10 = .ok (.getfield 25, 3) := by decide +kernel
theorem dX13_unpack_13 : decode cX13_unpack 13 = .ok (.ifCond .eq 5, 3) := by decide +kernel
theorem dX13_unpack_16 : decode cX13_unpack 16 = .ok (.iconst 0, 1) := by decide +kernel
theorem dX13_unpack_17 : decode cX13_unpack 17 = .ok (.ireturn, 1) := by decide +kernel
theorem dX13_unpack_18 : decode cX13_unpack 18 = .ok (.aload_n 0, 1) := by decide +kernel
theorem dX13_unpack_19 : decode cX13_unpack 19 = .ok (.invokevirtual 62, 3) := by decide +kernel
theorem dX13_unpack_22 : decode cX13_unpack 22 = .ok (.aload_n 0, 1) := by decide +kernel
theorem dX13_unpack_23 : decode cX13_unpack 23 = .ok (.iload_n 1, 1) := by decide +kernel
theorem dX13_unpack_24 : decode cX13_unpack 24 = .ok (.invokevirtual 142, 3) := by decide +kernel
theorem dX13_unpack_27 : decode cX13_unpack 27 = .ok (.ireturn, 1) := by decide +kernel
def sX13_unpack (w : Wl) (l1 : Int32) : Option (Int32 × Wl) := (sX13_notUnpack w l1).bind (fun r1 => (if ((wst w 371 5 r1) 371 5) = 0 then (sX13_keep (wst w 371 5 r1) ).bind (fun r6 => (sX13_unpacks r6 l1).bind (fun r10 => some (r10.1, r10.2))) else some ((0 : Int32), (wst w 371 5 r1))))
theorem kX13_unpack {l : Launch} {Γ : Gl} {B : Bs} {w : Wl} {G : Gf} {sz : Nat} {l1 : Int32} {r : (Int32 × Wl)} (hW : Wd Γ B w G) (h : sX13_unpack w l1 = some r) : CtW l Γ yX13_unpack cX13_unpack 2 (some .int) 5 [.ref (B.1 + 371), .int l1] G sz B (some (.int (r.1))) r.2 := by
  refine Ct.of rfl (Nat.le_of_ble_eq_true rfl) fun X hx hr hl hΓ hnm => ?_
  subst hl hΓ
  show J X 2 G sz 0 0 0 [some (.ref (B.1 + 371)), some (.int l1)] []
  unfold sX13_unpack at h
  refine J_al4 hx rfl rfl dX13_unpack_0 ?_
  refine J_al4 hx rfl rfl dX13_unpack_1 ?_
  refine J_il4 hx rfl rfl dX13_unpack_2 ?_
  obtain ⟨r1, hr2, h⟩ := bnd h
  refine J_rdV hx (kX13_notUnpack  hW hr2) ml_X13_139 lk_X13_notUnpack (ci := 11) rfl (hW.obj (rfl : kd 371 = 19) (by decide) (by decide)) (rest := [.ref (B.1 + 371)]) rfl rfl (by decide) (by decide) (Nat.le_of_ble_eq_true rfl) (Nat.le_refl 0) (Nat.le_refl 0) dX13_unpack_3 ?_
  refine p13_5 hx hW (rfl : kd 371 = 19) fl_X13_25 dX13_unpack_6 fun G3 hW4 => ?_
  refine J_al4 hx rfl rfl dX13_unpack_9 ?_
  refine g13_5 hx hW4 (rfl : kd 371 = 19) fl_X13_25 dX13_unpack_10 ?_
  refine J_if_eq hx 18 dX13_unpack_13 rfl (fun h5 => ?_) (fun h5 => ?_)
  · replace h := pos h h5
    refine J_al4 hx rfl rfl dX13_unpack_18 ?_
    obtain ⟨r6, hr7, h⟩ := bnd h
    refine J_wrV hx (kX13_keep  hW4 hr7) ml_X13_62 lk_X13_keep (ci := 11) rfl (hW4.obj (rfl : kd 371 = 19) (by decide) (by decide)) (rest := []) rfl rfl (by decide) (by decide) (Nat.le_of_ble_eq_true rfl) (Nat.le_refl 0) (Nat.le_refl 0) dX13_unpack_19 fun G8 hW9 => ?_
    show J X 2 G8 sz 0 0 22 [some (.ref (B.1 + 371)), some (.int l1)] []
    refine J_al4 hx rfl rfl dX13_unpack_22 ?_
    refine J_il4 hx rfl rfl dX13_unpack_23 ?_
    obtain ⟨r10, hr11, h⟩ := bnd h
    refine J_wrV hx (kX13_unpacks  hW9 hr11) ml_X13_142 lk_X13_unpacks (ci := 11) rfl (hW9.obj (rfl : kd 371 = 19) (by decide) (by decide)) (rest := []) rfl rfl (by decide) (by decide) (Nat.le_of_ble_eq_true rfl) (Nat.le_refl 0) (Nat.le_refl 0) dX13_unpack_24 fun G12 hW13 => ?_
    show J X 2 G12 sz 0 0 27 [some (.ref (B.1 + 371)), some (.int l1)] [.int r10.1]
    obtain rfl := Option.some.inj h
    exact J_iretW hx hr hW13 dX13_unpack_27 (Nat.le_refl 0) (Nat.le_refl 0)
  · replace h := neg h h5
    refine J_iconst hx (0 : Int32) dX13_unpack_16 rfl ?_
    obtain rfl := Option.some.inj h
    exact J_iretW hx hr hW4 dX13_unpack_17 (Nat.le_refl 0) (Nat.le_refl 0)
theorem dX13_lenderRefuses_0 : decode cX13_lenderRefuses 0 = .ok (.bipush 113, 2) := by decide +kernel
theorem dX13_lenderRefuses_2 : decode cX13_lenderRefuses 2 = .ok (.iconst 4, 1) := by decide +kernel
theorem dX13_lenderRefuses_3 : decode cX13_lenderRefuses 3 = .ok (.aload_n 0, 1) := by decide +kernel
theorem dX13_lenderRefuses_4 : decode cX13_lenderRefuses 4 = .ok (.iload_n 1, 1) := by decide +kernel
theorem dX13_lenderRefuses_5 : decode cX13_lenderRefuses 5 = .ok (.iconst 0, 1) := by decide +kernel
theorem dX13_lenderRefuses_6 : decode cX13_lenderRefuses 6 = .ok (.invokevirtual 51, 3) := by decide +kernel
theorem dX13_lenderRefuses_9 : decode cX13_lenderRefuses 9 = .ok (.imul, 1) := by decide +kernel
theorem dX13_lenderRefuses_10 : decode cX13_lenderRefuses 10 = .ok (.iadd, 1) := by decide +kernel
theorem dX13_lenderRefuses_11 : decode cX13_lenderRefuses 11 = .ok (.istore_n 3, 1) := by decide +kernel
theorem dX13_lenderRefuses_12 : decode cX13_lenderRefuses 12 = .ok (.aload_n 0, 1) := by decide +kernel
theorem dX13_lenderRefuses_13 : decode cX13_lenderRefuses 13 = .ok (.getfield 7, 3) := by decide +kernel
theorem dX13_lenderRefuses_16 : decode cX13_lenderRefuses 16 = .ok (.iload_n 3, 1) := by decide +kernel
theorem dX13_lenderRefuses_17 : decode cX13_lenderRefuses 17 = .ok (.iconst 3, 1) := by decide +kernel
theorem dX13_lenderRefuses_18 : decode cX13_lenderRefuses 18 = .ok (.iadd, 1) := by decide +kernel
theorem dX13_lenderRefuses_19 : decode cX13_lenderRefuses 19 = .ok (.iaload, 1) := by decide +kernel
theorem dX13_lenderRefuses_20 : decode cX13_lenderRefuses 20 = .ok (.iload_n 2, 1) := by decide +kernel
theorem dX13_lenderRefuses_21 : decode cX13_lenderRefuses 21 = .ok (.ishr, 1) := by decide +kernel
theorem dX13_lenderRefuses_22 : decode cX13_lenderRefuses 22 = .ok (.iconst 1, 1) := by decide +kernel
theorem dX13_lenderRefuses_23 : decode cX13_lenderRefuses 23 = .ok (.iand, 1) := by decide +kernel
theorem dX13_lenderRefuses_24 : decode cX13_lenderRefuses 24 = .ok (.iconst 1, 1) := by decide +kernel
theorem dX13_lenderRefuses_25 : decode cX13_lenderRefuses 25 = .ok (.if_icmp .ne 6, 3) := by decide +kernel
theorem dX13_lenderRefuses_28 : decode cX13_lenderRefuses 28 = .ok (.bipush 6, 2) := by decide +kernel
theorem dX13_lenderRefuses_30 : decode cX13_lenderRefuses 30 = .ok (.ireturn, 1) := by decide +kernel
theorem dX13_lenderRefuses_31 : decode cX13_lenderRefuses 31 = .ok (.aload_n 0, 1) := by decide +kernel
theorem dX13_lenderRefuses_32 : decode cX13_lenderRefuses 32 = .ok (.iload_n 2, 1) := by decide +kernel
theorem dX13_lenderRefuses_33 : decode cX13_lenderRefuses 33 = .ok (.iconst 0, 1) := by decide +kernel
theorem dX13_lenderRefuses_34 : decode cX13_lenderRefuses 34 = .ok (.invokevirtual 68, 3) := by decide +kernel
theorem dX13_lenderRefuses_37 : decode cX13_lenderRefuses 37 = .ok (.aload_n 0, 1) := by decide +kernel
theorem dX13_lenderRefuses_38 : decode cX13_lenderRefuses 38 = .ok (.getfield 7, 3) := by decide +kernel
theorem dX13_lenderRefuses_41 : decode cX13_lenderRefuses 41 = .ok (.iload_n 3, 1) := by decide +kernel
theorem dX13_lenderRefuses_42 : decode cX13_lenderRefuses 42 = .ok (.iaload, 1) := by decide +kernel
theorem dX13_lenderRefuses_43 : decode cX13_lenderRefuses 43 = .ok (.aload_n 0, 1) := by decide +kernel
theorem dX13_lenderRefuses_44 : decode cX13_lenderRefuses 44 = .ok (.getfield 7, 3) := by decide +kernel
theorem dX13_lenderRefuses_47 : decode cX13_lenderRefuses 47 = .ok (.iload_n 3, 1) := by decide +kernel
theorem dX13_lenderRefuses_48 : decode cX13_lenderRefuses 48 = .ok (.iconst 1, 1) := by decide +kernel
theorem dX13_lenderRefuses_49 : decode cX13_lenderRefuses 49 = .ok (.iadd, 1) := by decide +kernel
theorem dX13_lenderRefuses_50 : decode cX13_lenderRefuses 50 = .ok (.iaload, 1) := by decide +kernel
theorem dX13_lenderRefuses_51 : decode cX13_lenderRefuses 51 = .ok (.invokestatic 32, 3) := by decide +kernel
theorem dX13_lenderRefuses_54 : decode cX13_lenderRefuses 54 = .ok (.ifCond .eq 24, 3) := by decide +kernel
theorem dX13_lenderRefuses_57 : decode cX13_lenderRefuses 57 = .ok (.aload_n 0, 1) := by decide +kernel
theorem dX13_lenderRefuses_58 : decode cX13_lenderRefuses 58 = .ok (.iload_n 2, 1) := by decide +kernel
theorem dX13_lenderRefuses_59 : decode cX13_lenderRefuses 59 = .ok (.iconst 1, 1) := by decide +kernel
theorem dX13_lenderRefuses_60 : decode cX13_lenderRefuses 60 = .ok (.invokevirtual 68, 3) := by decide +kernel
theorem dX13_lenderRefuses_63 : decode cX13_lenderRefuses 63 = .ok (.aload_n 0, 1) := by decide +kernel
theorem dX13_lenderRefuses_64 : decode cX13_lenderRefuses 64 = .ok (.getfield 7, 3) := by decide +kernel
theorem dX13_lenderRefuses_67 : decode cX13_lenderRefuses 67 = .ok (.iload_n 3, 1) := by decide +kernel
theorem dX13_lenderRefuses_68 : decode cX13_lenderRefuses 68 = .ok (.iconst 2, 1) := by decide +kernel
theorem dX13_lenderRefuses_69 : decode cX13_lenderRefuses 69 = .ok (.iadd, 1) := by decide +kernel
theorem dX13_lenderRefuses_70 : decode cX13_lenderRefuses 70 = .ok (.iaload, 1) := by decide +kernel
theorem dX13_lenderRefuses_71 : decode cX13_lenderRefuses 71 = .ok (.if_icmp .gt 7, 3) := by decide +kernel
theorem dX13_lenderRefuses_74 : decode cX13_lenderRefuses 74 = .ok (.iconst 1, 1) := by decide +kernel
theorem dX13_lenderRefuses_75 : decode cX13_lenderRefuses 75 = .ok (.goto 4, 3) := by decide +kernel
theorem dX13_lenderRefuses_78 : decode cX13_lenderRefuses 78 = .ok (.iconst 0, 1) := by decide +kernel
theorem dX13_lenderRefuses_79 : decode cX13_lenderRefuses 79 = .ok (.istore 4, 2) := by decide +kernel
theorem dX13_lenderRefuses_81 : decode cX13_lenderRefuses 81 = .ok (.iload 4, 2) := by decide +kernel
theorem dX13_lenderRefuses_83 : decode cX13_lenderRefuses 83 = .ok (.ifCond .eq 7, 3) := by decide +kernel
theorem dX13_lenderRefuses_86 : decode cX13_lenderRefuses 86 = .ok (.iconst 0, 1) := by decide +kernel
theorem dX13_lenderRefuses_87 : decode cX13_lenderRefuses 87 = .ok (.goto 5, 3) := by decide +kernel
theorem dX13_lenderRefuses_90 : decode cX13_lenderRefuses 90 = .ok (.bipush 7, 2) := by decide +kernel
theorem dX13_lenderRefuses_92 : decode cX13_lenderRefuses 92 = .ok (.ireturn, 1) := by decide +kernel
def sX13_lenderRefuses_79 (w : Wl) (s0 : Int32) : Option Int32 := (if s0 = 0 then some (7 : Int32) else some (0 : Int32))
theorem tX13_lenderRefuses_79 {X : Cx} {B : Bs} {sz : Nat} {G : Gf} {r : Int32} (hx : Fx X cX13_lenderRefuses 5 RX13 1 0 0) (hr : Rt X (some .int) 0 0 (RdΨ (.int (r)) G sz)) : ∀ (w : Wl) (s0 : Int32) (hW : Wd (xΓ X) B w G) (h : sX13_lenderRefuses_79  w s0 = some r), J X 5 G sz 0 0 79 [none, none, none, none, none] [.int s0] := by
  intro w s0 hW h
  unfold sX13_lenderRefuses_79 at h
  refine J_is hx (by decide) (hc_of rfl) rfl dX13_lenderRefuses_79 ?_
  refine J_il hx rfl dX13_lenderRefuses_81 ?_
  refine J_if_eq hx 90 dX13_lenderRefuses_83 rfl (fun h1 => ?_) (fun h1 => ?_)
  · replace h := pos h h1
    refine J_bipush hx (7 : Int32) dX13_lenderRefuses_90 rfl ?_
    exact J_iretR hx hr dX13_lenderRefuses_92 (Nat.le_refl 0) (Nat.le_refl 0) (Option.some.inj h)
  · replace h := neg h h1
    refine J_iconst hx (0 : Int32) dX13_lenderRefuses_86 rfl ?_
    refine J_goto hx 92 dX13_lenderRefuses_87 rfl ?_
    exact J_iretR hx hr dX13_lenderRefuses_92 (Nat.le_refl 0) (Nat.le_refl 0) (Option.some.inj h)
def sX13_lenderRefuses (w : Wl) (l1 : Int32) (l2 : Int32) : Option Int32 := (sX13_ofWork w l1 (0 : Int32)).bind (fun r1 => (idx (((113 : Int32) + ((4 : Int32) * r1)) + (3 : Int32)) 541).bind (fun c3 => (if (((w 372 c3) >>> (l2 &&& 31)) &&& (1 : Int32)) = (1 : Int32) then some (6 : Int32) else (sX13_ofVenue w l2 (0 : Int32)).bind (fun r6 => (idx ((113 : Int32) + ((4 : Int32) * r1)) 541).bind (fun c8 => (idx (((113 : Int32) + ((4 : Int32) * r1)) + (1 : Int32)) 541).bind (fun c10 => (sX13_in w r6 (w 372 c8) (w 372 c10)).bind (fun r12 => (if r12 = true then (sX13_ofVenue w l2 (1 : Int32)).bind (fun r15 => (idx (((113 : Int32) + ((4 : Int32) * r1)) + (2 : Int32)) 541).bind (fun c17 => (if (w 372 c17) < r15 then sX13_lenderRefuses_79 w (0 : Int32) else sX13_lenderRefuses_79 w (1 : Int32)))) else sX13_lenderRefuses_79 w (0 : Int32)))))))))
theorem kX13_lenderRefuses {l : Launch} {Γ : Gl} {B : Bs} {w : Wl} {G : Gf} {sz : Nat} {l1 : Int32} {l2 : Int32} {r : Int32} (hW : Wd Γ B w G) (h : sX13_lenderRefuses w l1 l2 = some r) : CtR l Γ yX13_lenderRefuses cX13_lenderRefuses 5 (some .int) 1 [.ref (B.1 + 371), .int l1, .int l2] G sz (.int (r)) := by
  refine Ct.of rfl (Nat.le_of_ble_eq_true rfl) fun X hx hr hl hΓ hnm => ?_
  subst hl hΓ
  show J X 5 G sz 0 0 0 [some (.ref (B.1 + 371)), some (.int l1), some (.int l2), none, none] []
  unfold sX13_lenderRefuses at h
  refine J_bipush hx (113 : Int32) dX13_lenderRefuses_0 rfl ?_
  refine J_iconst hx (4 : Int32) dX13_lenderRefuses_2 rfl ?_
  refine J_al4 hx rfl rfl dX13_lenderRefuses_3 ?_
  refine J_il4 hx rfl rfl dX13_lenderRefuses_4 ?_
  refine J_iconst hx (0 : Int32) dX13_lenderRefuses_5 rfl ?_
  obtain ⟨r1, hr2, h⟩ := bnd h
  refine J_rdV hx (kX13_ofWork  hW hr2) ml_X13_51 lk_X13_ofWork (ci := 11) rfl (hW.obj (rfl : kd 371 = 19) (by decide) (by decide)) (rest := [.int (4 : Int32), .int (113 : Int32)]) rfl rfl (by decide) (by decide) (Nat.le_of_ble_eq_true rfl) (Nat.le_refl 0) (Nat.le_refl 0) dX13_lenderRefuses_6 ?_
  refine J_imul hx dX13_lenderRefuses_9 ?_
  refine J_iadd hx dX13_lenderRefuses_10 ?_
  refine J_is4 hx rfl (by decide) (hc_of rfl) rfl dX13_lenderRefuses_11 ?_
  refine J_al4 hx rfl rfl dX13_lenderRefuses_12 ?_
  refine g13_0 hx hW 372 (rfl : kd 371 = 19) fl_X13_7 rfl dX13_lenderRefuses_13 ?_
  refine J_il4 hx rfl rfl dX13_lenderRefuses_16 ?_
  refine J_iconst hx (3 : Int32) dX13_lenderRefuses_17 rfl ?_
  refine J_iadd hx dX13_lenderRefuses_18 ?_
  obtain ⟨c3, hc4, h⟩ := bnd h
  refine J_iaW hx hW (rfl : kd 372 = 641) hc4 dX13_lenderRefuses_19 ?_
  refine J_il4 hx rfl rfl dX13_lenderRefuses_20 ?_
  refine J_ishr hx dX13_lenderRefuses_21 ?_
  refine J_iconst hx (1 : Int32) dX13_lenderRefuses_22 rfl ?_
  refine J_iand hx dX13_lenderRefuses_23 ?_
  refine J_iconst hx (1 : Int32) dX13_lenderRefuses_24 rfl ?_
  refine J_icmp_ne hx 31 dX13_lenderRefuses_25 rfl (fun h5 => ?_) (fun h5 => ?_)
  · replace h := neg h h5
    refine J_al4 hx rfl rfl dX13_lenderRefuses_31 ?_
    refine J_il4 hx rfl rfl dX13_lenderRefuses_32 ?_
    refine J_iconst hx (0 : Int32) dX13_lenderRefuses_33 rfl ?_
    obtain ⟨r6, hr7, h⟩ := bnd h
    refine J_rdV hx (kX13_ofVenue  hW hr7) ml_X13_68 lk_X13_ofVenue (ci := 11) rfl (hW.obj (rfl : kd 371 = 19) (by decide) (by decide)) (rest := []) rfl rfl (by decide) (by decide) (Nat.le_of_ble_eq_true rfl) (Nat.le_refl 0) (Nat.le_refl 0) dX13_lenderRefuses_34 ?_
    refine J_al4 hx rfl rfl dX13_lenderRefuses_37 ?_
    refine g13_0 hx hW 372 (rfl : kd 371 = 19) fl_X13_7 rfl dX13_lenderRefuses_38 ?_
    refine J_il4 hx rfl rfl dX13_lenderRefuses_41 ?_
    obtain ⟨c8, hc9, h⟩ := bnd h
    refine J_iaW hx hW (rfl : kd 372 = 641) hc9 dX13_lenderRefuses_42 ?_
    refine J_al4 hx rfl rfl dX13_lenderRefuses_43 ?_
    refine g13_0 hx hW 372 (rfl : kd 371 = 19) fl_X13_7 rfl dX13_lenderRefuses_44 ?_
    refine J_il4 hx rfl rfl dX13_lenderRefuses_47 ?_
    refine J_iconst hx (1 : Int32) dX13_lenderRefuses_48 rfl ?_
    refine J_iadd hx dX13_lenderRefuses_49 ?_
    obtain ⟨c10, hc11, h⟩ := bnd h
    refine J_iaW hx hW (rfl : kd 372 = 641) hc11 dX13_lenderRefuses_50 ?_
    obtain ⟨r12, hr13, h⟩ := bnd h
    refine J_rdS hx (kX13_in  hW hr13) ml_X13_32 lk_X13_in (rest := []) rfl rfl (by decide) (by decide) (Nat.le_of_ble_eq_true rfl) (Nat.le_refl 0) (Nat.le_refl 0) dX13_lenderRefuses_51 ?_
    refine J_bif_eq hx 78 dX13_lenderRefuses_54 rfl (fun h14 => ?_) (fun h14 => ?_)
    · replace h := neg h (bft h14)
      refine J_iconst hx (0 : Int32) dX13_lenderRefuses_78 rfl ?_
      refine J_lw (ls' := [none, none, none, none, none]) (lwN (lwN (lwN (lwN (lwN lwZ))))) ?_
      exact tX13_lenderRefuses_79 hx hr _ _  hW h
    · replace h := pos h h14
      refine J_al4 hx rfl rfl dX13_lenderRefuses_57 ?_
      refine J_il4 hx rfl rfl dX13_lenderRefuses_58 ?_
      refine J_iconst hx (1 : Int32) dX13_lenderRefuses_59 rfl ?_
      obtain ⟨r15, hr16, h⟩ := bnd h
      refine J_rdV hx (kX13_ofVenue  hW hr16) ml_X13_68 lk_X13_ofVenue (ci := 11) rfl (hW.obj (rfl : kd 371 = 19) (by decide) (by decide)) (rest := []) rfl rfl (by decide) (by decide) (Nat.le_of_ble_eq_true rfl) (Nat.le_refl 0) (Nat.le_refl 0) dX13_lenderRefuses_60 ?_
      refine J_al4 hx rfl rfl dX13_lenderRefuses_63 ?_
      refine g13_0 hx hW 372 (rfl : kd 371 = 19) fl_X13_7 rfl dX13_lenderRefuses_64 ?_
      refine J_il4 hx rfl rfl dX13_lenderRefuses_67 ?_
      refine J_iconst hx (2 : Int32) dX13_lenderRefuses_68 rfl ?_
      refine J_iadd hx dX13_lenderRefuses_69 ?_
      obtain ⟨c17, hc18, h⟩ := bnd h
      refine J_iaW hx hW (rfl : kd 372 = 641) hc18 dX13_lenderRefuses_70 ?_
      refine J_icmp_gt hx 78 dX13_lenderRefuses_71 rfl (fun h19 => ?_) (fun h19 => ?_)
      · replace h := pos h h19
        refine J_iconst hx (0 : Int32) dX13_lenderRefuses_78 rfl ?_
        refine J_lw (ls' := [none, none, none, none, none]) (lwN (lwN (lwN (lwN (lwN lwZ))))) ?_
        exact tX13_lenderRefuses_79 hx hr _ _  hW h
      · replace h := neg h h19
        refine J_iconst hx (1 : Int32) dX13_lenderRefuses_74 rfl ?_
        refine J_goto hx 79 dX13_lenderRefuses_75 rfl ?_
        refine J_lw (ls' := [none, none, none, none, none]) (lwN (lwN (lwN (lwN (lwN lwZ))))) ?_
        exact tX13_lenderRefuses_79 hx hr _ _  hW h
  · replace h := pos h h5
    refine J_bipush hx (6 : Int32) dX13_lenderRefuses_28 rfl ?_
    exact J_iretR hx hr dX13_lenderRefuses_30 (Nat.le_refl 0) (Nat.le_refl 0) (Option.some.inj h)
theorem dX13_valuesFor_0 : decode cX13_valuesFor 0 = .ok (.lconst 0, 1) := by decide +kernel
theorem dX13_valuesFor_1 : decode cX13_valuesFor 1 = .ok (.lstore_n 3, 1) := by decide +kernel
theorem dX13_valuesFor_2 : decode cX13_valuesFor 2 = .ok (.iconst 0, 1) := by decide +kernel
theorem dX13_valuesFor_3 : decode cX13_valuesFor 3 = .ok (.istore 5, 2) := by decide +kernel
theorem dX13_valuesFor_5 : decode cX13_valuesFor 5 = .ok (.iload 5, 2) := by decide +kernel
theorem dX13_valuesFor_7 : decode cX13_valuesFor 7 = .ok (.aload_n 0, 1) := by decide +kernel
theorem dX13_valuesFor_8 : decode cX13_valuesFor 8 = .ok (.getfield 7, 3) := by decide +kernel
theorem dX13_valuesFor_11 : decode cX13_valuesFor 11 = .ok (.iconst 3, 1) := by decide +kernel
theorem dX13_valuesFor_12 : decode cX13_valuesFor 12 = .ok (.iaload, 1) := by decide +kernel
theorem dX13_valuesFor_13 : decode cX13_valuesFor 13 = .ok (.if_icmp .ge 71, 3) := by decide +kernel
theorem dX13_valuesFor_16 : decode cX13_valuesFor 16 = .ok (.aload_n 0, 1) := by decide +kernel
theorem dX13_valuesFor_17 : decode cX13_valuesFor 17 = .ok (.aload_n 0, 1) := by decide +kernel
theorem dX13_valuesFor_18 : decode cX13_valuesFor 18 = .ok (.iload 5, 2) := by decide +kernel
theorem dX13_valuesFor_20 : decode cX13_valuesFor 20 = .ok (.iconst 4, 1) := by decide +kernel
theorem dX13_valuesFor_21 : decode cX13_valuesFor 21 = .ok (.invokevirtual 51, 3) := by decide +kernel
theorem dX13_valuesFor_24 : decode cX13_valuesFor 24 = .ok (.iload_n 1, 1) := by decide +kernel
theorem dX13_valuesFor_25 : decode cX13_valuesFor 25 = .ok (.invokevirtual 54, 3) := by decide +kernel
theorem dX13_valuesFor_28 : decode cX13_valuesFor 28 = .ok (.ifCond .ne 23, 3) := by decide +kernel
theorem dX13_valuesFor_31 : decode cX13_valuesFor 31 = .ok (.aload_n 0, 1) := by decide +kernel
theorem dX13_valuesFor_32 : decode cX13_valuesFor 32 = .ok (.iload 5, 2) := by decide +kernel
theorem dX13_valuesFor_34 : decode cX13_valuesFor 34 = .ok (.invokevirtual 145, 3) := by decide +kernel
theorem dX13_valuesFor_37 : decode cX13_valuesFor 37 = .ok (.iload_n 2, 1) := by decide +kernel
theorem dX13_valuesFor_38 : decode cX13_valuesFor 38 = .ok (.if_icmp .eq 13, 3) := by decide +kernel
theorem dX13_valuesFor_41 : decode cX13_valuesFor 41 = .ok (.aload_n 0, 1) := by decide +kernel
theorem dX13_valuesFor_42 : decode cX13_valuesFor 42 = .ok (.iload 5, 2) := by decide +kernel
theorem dX13_valuesFor_44 : decode cX13_valuesFor 44 = .ok (.invokevirtual 148, 3) := by decide +kernel
theorem dX13_valuesFor_47 : decode cX13_valuesFor 47 = .ok (.iload_n 2, 1) := by decide +kernel
theorem dX13_valuesFor_48 : decode cX13_valuesFor 48 = .ok (.if_icmp .ne 7, 3) := by decide +kernel
theorem dX13_valuesFor_51 : decode cX13_valuesFor 51 = .ok (.iconst 1, 1) := by decide +kernel
theorem dX13_valuesFor_52 : decode cX13_valuesFor 52 = .ok (.goto 4, 3) := by decide +kernel
theorem dX13_valuesFor_55 : decode cX13_valuesFor 55 = .ok (.iconst 0, 1) := by decide +kernel
theorem dX13_valuesFor_56 : decode cX13_valuesFor 56 = .ok (.istore 6, 2) := by decide +kernel
theorem dX13_valuesFor_58 : decode cX13_valuesFor 58 = .ok (.lload_n 3, 1) := by decide +kernel
theorem dX13_valuesFor_59 : decode cX13_valuesFor 59 = .ok (.iload 6, 2) := by decide +kernel
theorem dX13_valuesFor_61 : decode cX13_valuesFor 61 = .ok (.ifCond .eq 14, 3) := by decide +kernel
theorem dX13_valuesFor_64 : decode cX13_valuesFor 64 = .ok (.aload_n 0, 1) := by decide +kernel
theorem dX13_valuesFor_65 : decode cX13_valuesFor 65 = .ok (.iload 5, 2) := by decide +kernel
theorem dX13_valuesFor_67 : decode cX13_valuesFor 67 = .ok (.iconst 1, 1) := by decide +kernel
theorem dX13_valuesFor_68 : decode cX13_valuesFor 68 = .ok (.invokevirtual 51, 3) := by decide +kernel
theorem dX13_valuesFor_71 : decode cX13_valuesFor 71 = .ok (.i2l, 1) := by decide +kernel
theorem dX13_valuesFor_72 : decode cX13_valuesFor 72 = .ok (.goto 4, 3) := by decide +kernel
theorem dX13_valuesFor_75 : decode cX13_valuesFor 75 = .ok (.lconst 0, 1) := by decide +kernel
theorem dX13_valuesFor_76 : decode cX13_valuesFor 76 = .ok (.ladd, 1) := by decide +kernel
theorem dX13_valuesFor_77 : decode cX13_valuesFor 77 = .ok (.lstore_n 3, 1) := by decide +kernel
theorem dX13_valuesFor_78 : decode cX13_valuesFor 78 = .ok (.iinc 5 1, 3) := by decide +kernel
theorem dX13_valuesFor_81 : decode cX13_valuesFor 81 = .ok (.goto (-76), 3) := by decide +kernel
theorem dX13_valuesFor_84 : decode cX13_valuesFor 84 = .ok (.lload_n 3, 1) := by decide +kernel
theorem dX13_valuesFor_85 : decode cX13_valuesFor 85 = .ok (.lreturn, 1) := by decide +kernel
def sX13_valuesFor_56 (k5 : Wl → Int32 → Int32 → Int64 → Int32 → Option Int64) (w : Wl) (l1 : Int32) (l2 : Int32) (l3 : Int64) (l5 : Int32) (s0 : Int32) : Option Int64 := (if s0 = 0 then k5 w l1 l2 (l3 + (0 : Int64)) (l5 + 1) else (sX13_ofWork w l5 (1 : Int32)).bind (fun r2 => k5 w l1 l2 (l3 + r2.toInt64) (l5 + 1)))
theorem tX13_valuesFor_56 {X : Cx} {B : Bs} {sz : Nat} {G : Gf} {r : Int64} (hx : Fx X cX13_valuesFor 7 RX13 4 0 0) (hr : Rt X (some .long) 0 0 (RdΨ (.long (r)) G sz)) (k5 : Wl → Int32 → Int32 → Int64 → Int32 → Option Int64) (hk5 : ∀ (w : Wl) (l1 : Int32) (l2 : Int32) (l3 : Int64) (l5 : Int32) (hW : Wd (xΓ X) B w G) (h : k5 w l1 l2 l3 l5 = some r), J X 7 G sz 0 0 5 [some (.ref (B.1 + 371)), some (.int l1), some (.int l2), some (.long l3), none, some (.int l5), none] []) : ∀ (w : Wl) (l1 : Int32) (l2 : Int32) (l3 : Int64) (l5 : Int32) (s0 : Int32) (hW : Wd (xΓ X) B w G) (h : sX13_valuesFor_56 k5  w l1 l2 l3 l5 s0 = some r), J X 7 G sz 0 0 56 [some (.ref (B.1 + 371)), some (.int l1), some (.int l2), some (.long l3), none, some (.int l5), none] [.int s0] := by
  intro w l1 l2 l3 l5 s0 hW h
  unfold sX13_valuesFor_56 at h
  refine J_is hx (by decide) (hc_of rfl) rfl dX13_valuesFor_56 ?_
  refine J_ll4 hx rfl rfl dX13_valuesFor_58 ?_
  refine J_il hx rfl dX13_valuesFor_59 ?_
  refine J_if_eq hx 75 dX13_valuesFor_61 rfl (fun h1 => ?_) (fun h1 => ?_)
  · replace h := pos h h1
    refine J_lconst hx (0 : Int64) dX13_valuesFor_75 rfl ?_
    refine J_ladd hx dX13_valuesFor_76 ?_
    refine J_ls4 hx rfl (by decide) (hc_of rfl) rfl dX13_valuesFor_77 ?_
    refine J_iinc hx (v' := (l5 + 1)) rfl rfl (by decide) (hc_of rfl) rfl dX13_valuesFor_78 ?_
    refine J_goto hx 5 dX13_valuesFor_81 rfl ?_
    refine J_lw (ls' := [some (.ref (B.1 + 371)), some (.int l1), some (.int l2), some (.long (l3 + (0 : Int64))), none, some (.int (l5 + 1)), none]) (lwS (lwS (lwS (lwS (lwN (lwS (lwN lwZ))))))) ?_
    exact hk5 _ _ _ _ _  hW h
  · replace h := neg h h1
    refine J_al4 hx rfl rfl dX13_valuesFor_64 ?_
    refine J_il hx rfl dX13_valuesFor_65 ?_
    refine J_iconst hx (1 : Int32) dX13_valuesFor_67 rfl ?_
    obtain ⟨r2, hr3, h⟩ := bnd h
    refine J_rdV hx (kX13_ofWork  hW hr3) ml_X13_51 lk_X13_ofWork (ci := 11) rfl (hW.obj (rfl : kd 371 = 19) (by decide) (by decide)) (rest := [.long l3]) rfl rfl (by decide) (by decide) (Nat.le_of_ble_eq_true rfl) (Nat.le_refl 0) (Nat.le_refl 0) dX13_valuesFor_68 ?_
    refine J_i2l hx dX13_valuesFor_71 ?_
    refine J_goto hx 76 dX13_valuesFor_72 rfl ?_
    refine J_ladd hx dX13_valuesFor_76 ?_
    refine J_ls4 hx rfl (by decide) (hc_of rfl) rfl dX13_valuesFor_77 ?_
    refine J_iinc hx (v' := (l5 + 1)) rfl rfl (by decide) (hc_of rfl) rfl dX13_valuesFor_78 ?_
    refine J_goto hx 5 dX13_valuesFor_81 rfl ?_
    refine J_lw (ls' := [some (.ref (B.1 + 371)), some (.int l1), some (.int l2), some (.long (l3 + r2.toInt64)), none, some (.int (l5 + 1)), none]) (lwS (lwS (lwS (lwS (lwN (lwS (lwN lwZ))))))) ?_
    exact hk5 _ _ _ _ _  hW h
def sX13_valuesFor_5 : Nat → Wl → Int32 → Int32 → Int64 → Int32 → Option Int64
  | 0, _, _, _, _, _ => none
  | n + 1, w, l1, l2, l3, l5 => (if (w 372 3) ≤ l5 then some l3 else (sX13_ofWork w l5 (4 : Int32)).bind (fun r2 => (sX13_isWithin w r2 l1).bind (fun r4 => (if r4 = true then sX13_valuesFor_56 (fun w l1 l2 l3 l5 => sX13_valuesFor_5 n w l1 l2 l3 l5) w l1 l2 l3 l5 (1 : Int32) else (sX13_standsIn w l5).bind (fun r7 => (if r7 = l2 then sX13_valuesFor_56 (fun w l1 l2 l3 l5 => sX13_valuesFor_5 n w l1 l2 l3 l5) w l1 l2 l3 l5 (1 : Int32) else (sX13_goesTo w l5).bind (fun r10 => (if r10 = l2 then sX13_valuesFor_56 (fun w l1 l2 l3 l5 => sX13_valuesFor_5 n w l1 l2 l3 l5) w l1 l2 l3 l5 (1 : Int32) else sX13_valuesFor_56 (fun w l1 l2 l3 l5 => sX13_valuesFor_5 n w l1 l2 l3 l5) w l1 l2 l3 l5 (0 : Int32)))))))))
theorem tX13_valuesFor_5 {X : Cx} {B : Bs} {sz : Nat} {G : Gf} {r : Int64} (hx : Fx X cX13_valuesFor 7 RX13 4 0 0) (hr : Rt X (some .long) 0 0 (RdΨ (.long (r)) G sz)) : ∀ (n : Nat), ∀ (w : Wl) (l1 : Int32) (l2 : Int32) (l3 : Int64) (l5 : Int32) (hW : Wd (xΓ X) B w G) (h : sX13_valuesFor_5 n w l1 l2 l3 l5 = some r), J X 7 G sz 0 0 5 [some (.ref (B.1 + 371)), some (.int l1), some (.int l2), some (.long l3), none, some (.int l5), none] [] := by
  intro n
  induction n with
  | zero => intro w l1 l2 l3 l5 hW h; rw [sX13_valuesFor_5.eq_1] at h; cases h
  | succ n ih =>
    intro w l1 l2 l3 l5 hW h
    rw [sX13_valuesFor_5.eq_2] at h
    refine J_il hx rfl dX13_valuesFor_5 ?_
    refine J_al4 hx rfl rfl dX13_valuesFor_7 ?_
    refine g13_0 hx hW 372 (rfl : kd 371 = 19) fl_X13_7 rfl dX13_valuesFor_8 ?_
    refine J_iconst hx (3 : Int32) dX13_valuesFor_11 rfl ?_
    refine J_iaW hx hW (rfl : kd 372 = 641) (by decide +kernel : idx (3 : Int32) 541 = some 3) dX13_valuesFor_12 ?_
    refine J_icmp_ge hx 84 dX13_valuesFor_13 rfl (fun h1 => ?_) (fun h1 => ?_)
    · replace h := pos h h1
      refine J_ll4 hx rfl rfl dX13_valuesFor_84 ?_
      obtain rfl := Option.some.inj h
      exact J_lretR hx hr dX13_valuesFor_85 (Nat.le_refl 0) (Nat.le_refl 0)
    · replace h := neg h h1
      refine J_al4 hx rfl rfl dX13_valuesFor_16 ?_
      refine J_al4 hx rfl rfl dX13_valuesFor_17 ?_
      refine J_il hx rfl dX13_valuesFor_18 ?_
      refine J_iconst hx (4 : Int32) dX13_valuesFor_20 rfl ?_
      obtain ⟨r2, hr3, h⟩ := bnd h
      refine J_rdV hx (kX13_ofWork  hW hr3) ml_X13_51 lk_X13_ofWork (ci := 11) rfl (hW.obj (rfl : kd 371 = 19) (by decide) (by decide)) (rest := [.ref (B.1 + 371)]) rfl rfl (by decide) (by decide) (Nat.le_of_ble_eq_true rfl) (Nat.le_refl 0) (Nat.le_refl 0) dX13_valuesFor_21 ?_
      refine J_il4 hx rfl rfl dX13_valuesFor_24 ?_
      obtain ⟨r4, hr5, h⟩ := bnd h
      refine J_rdV hx (kX13_isWithin  hW hr5) ml_X13_54 lk_X13_isWithin (ci := 11) rfl (hW.obj (rfl : kd 371 = 19) (by decide) (by decide)) (rest := []) rfl rfl (by decide) (by decide) (Nat.le_of_ble_eq_true rfl) (Nat.le_refl 0) (Nat.le_refl 0) dX13_valuesFor_25 ?_
      refine J_bif_ne hx 51 dX13_valuesFor_28 rfl (fun h6 => ?_) (fun h6 => ?_)
      · replace h := pos h h6
        refine J_iconst hx (1 : Int32) dX13_valuesFor_51 rfl ?_
        refine J_goto hx 56 dX13_valuesFor_52 rfl ?_
        exact tX13_valuesFor_56 hx hr _ ih _ _ _ _ _ _  hW h
      · replace h := neg h (bft h6)
        refine J_al4 hx rfl rfl dX13_valuesFor_31 ?_
        refine J_il hx rfl dX13_valuesFor_32 ?_
        obtain ⟨r7, hr8, h⟩ := bnd h
        refine J_rdV hx (kX13_standsIn  hW hr8) ml_X13_145 lk_X13_standsIn (ci := 11) rfl (hW.obj (rfl : kd 371 = 19) (by decide) (by decide)) (rest := []) rfl rfl (by decide) (by decide) (Nat.le_of_ble_eq_true rfl) (Nat.le_refl 0) (Nat.le_refl 0) dX13_valuesFor_34 ?_
        refine J_il4 hx rfl rfl dX13_valuesFor_37 ?_
        refine J_icmp_eq hx 51 dX13_valuesFor_38 rfl (fun h9 => ?_) (fun h9 => ?_)
        · replace h := pos h h9
          refine J_iconst hx (1 : Int32) dX13_valuesFor_51 rfl ?_
          refine J_goto hx 56 dX13_valuesFor_52 rfl ?_
          exact tX13_valuesFor_56 hx hr _ ih _ _ _ _ _ _  hW h
        · replace h := neg h h9
          refine J_al4 hx rfl rfl dX13_valuesFor_41 ?_
          refine J_il hx rfl dX13_valuesFor_42 ?_
          obtain ⟨r10, hr11, h⟩ := bnd h
          refine J_rdV hx (kX13_goesTo  hW hr11) ml_X13_148 lk_X13_goesTo (ci := 11) rfl (hW.obj (rfl : kd 371 = 19) (by decide) (by decide)) (rest := []) rfl rfl (by decide) (by decide) (Nat.le_of_ble_eq_true rfl) (Nat.le_refl 0) (Nat.le_refl 0) dX13_valuesFor_44 ?_
          refine J_il4 hx rfl rfl dX13_valuesFor_47 ?_
          refine J_icmp_ne hx 55 dX13_valuesFor_48 rfl (fun h12 => ?_) (fun h12 => ?_)
          · replace h := neg h h12
            refine J_iconst hx (0 : Int32) dX13_valuesFor_55 rfl ?_
            exact tX13_valuesFor_56 hx hr _ ih _ _ _ _ _ _  hW h
          · replace h := pos h h12
            refine J_iconst hx (1 : Int32) dX13_valuesFor_51 rfl ?_
            refine J_goto hx 56 dX13_valuesFor_52 rfl ?_
            exact tX13_valuesFor_56 hx hr _ ih _ _ _ _ _ _  hW h
def sX13_valuesFor (w : Wl) (l1 : Int32) (l2 : Int32) : Option Int64 := sX13_valuesFor_5 FU w l1 l2 (0 : Int64) (0 : Int32)
theorem kX13_valuesFor {l : Launch} {Γ : Gl} {B : Bs} {w : Wl} {G : Gf} {sz : Nat} {l1 : Int32} {l2 : Int32} {r : Int64} (hW : Wd Γ B w G) (h : sX13_valuesFor w l1 l2 = some r) : CtR l Γ yX13_valuesFor cX13_valuesFor 7 (some .long) 4 [.ref (B.1 + 371), .int l1, .int l2] G sz (.long (r)) := by
  refine Ct.of rfl (Nat.le_of_ble_eq_true rfl) fun X hx hr hl hΓ hnm => ?_
  subst hl hΓ
  show J X 7 G sz 0 0 0 [some (.ref (B.1 + 371)), some (.int l1), some (.int l2), none, none, none, none] []
  unfold sX13_valuesFor at h
  refine J_lconst hx (0 : Int64) dX13_valuesFor_0 rfl ?_
  refine J_ls4 hx rfl (by decide) (hc_of rfl) rfl dX13_valuesFor_1 ?_
  refine J_iconst hx (0 : Int32) dX13_valuesFor_2 rfl ?_
  refine J_is hx (by decide) (hc_of rfl) rfl dX13_valuesFor_3 ?_
  exact tX13_valuesFor_5 hx hr _ _ _ _ _ _  hW h
theorem dX13_worksRefuse_0 : decode cX13_worksRefuse 0 = .ok (.bipush 8, 2) := by decide +kernel
theorem dX13_worksRefuse_2 : decode cX13_worksRefuse 2 = .ok (.istore_n 3, 1) := by decide +kernel
theorem dX13_worksRefuse_3 : decode cX13_worksRefuse 3 = .ok (.iconst 0, 1) := by decide +kernel
theorem dX13_worksRefuse_4 : decode cX13_worksRefuse 4 = .ok (.istore 4, 2) := by decide +kernel
theorem dX13_worksRefuse_6 : decode cX13_worksRefuse 6 = .ok (.iload 4, 2) := by decide +kernel
theorem dX13_worksRefuse_8 : decode cX13_worksRefuse 8 = .ok (.aload_n 0, 1) := by decide +kernel
theorem dX13_worksRefuse_9 : decode cX13_worksRefuse 9 = .ok (.getfield 7, 3) := by decide +kernel
theorem dX13_worksRefuse_12 : decode cX13_worksRefuse 12 = .ok (.iconst 3, 1) := by decide +kernel
theorem dX13_worksRefuse_13 : decode cX13_worksRefuse 13 = .ok (.iaload, 1) := by decide +kernel
theorem dX13_worksRefuse_14 : decode cX13_worksRefuse 14 = .ok (.if_icmp .ge 65, 3) := by decide +kernel
theorem dX13_worksRefuse_17 : decode cX13_worksRefuse 17 = .ok (.aload_n 0, 1) := by decide +kernel
theorem dX13_worksRefuse_18 : decode cX13_worksRefuse 18 = .ok (.aload_n 0, 1) := by decide +kernel
theorem dX13_worksRefuse_19 : decode cX13_worksRefuse 19 = .ok (.iload 4, 2) := by decide +kernel
theorem dX13_worksRefuse_21 : decode cX13_worksRefuse 21 = .ok (.iconst 4, 1) := by decide +kernel
theorem dX13_worksRefuse_22 : decode cX13_worksRefuse 22 = .ok (.invokevirtual 51, 3) := by decide +kernel
theorem dX13_worksRefuse_25 : decode cX13_worksRefuse 25 = .ok (.iload_n 1, 1) := by decide +kernel
theorem dX13_worksRefuse_26 : decode cX13_worksRefuse 26 = .ok (.invokevirtual 54, 3) := by decide +kernel
theorem dX13_worksRefuse_29 : decode cX13_worksRefuse 29 = .ok (.ifCond .eq 44, 3) := by decide +kernel
theorem dX13_worksRefuse_32 : decode cX13_worksRefuse 32 = .ok (.aload_n 0, 1) := by decide +kernel
theorem dX13_worksRefuse_33 : decode cX13_worksRefuse 33 = .ok (.iload 4, 2) := by decide +kernel
theorem dX13_worksRefuse_35 : decode cX13_worksRefuse 35 = .ok (.iconst 2, 1) := by decide +kernel
theorem dX13_worksRefuse_36 : decode cX13_worksRefuse 36 = .ok (.invokevirtual 51, 3) := by decide +kernel
theorem dX13_worksRefuse_39 : decode cX13_worksRefuse 39 = .ok (.ifCond .ne 7, 3) := by decide +kernel
theorem dX13_worksRefuse_42 : decode cX13_worksRefuse 42 = .ok (.iconst 5, 1) := by decide +kernel
theorem dX13_worksRefuse_43 : decode cX13_worksRefuse 43 = .ok (.goto 10, 3) := by decide +kernel
theorem dX13_worksRefuse_46 : decode cX13_worksRefuse 46 = .ok (.aload_n 0, 1) := by decide +kernel
theorem dX13_worksRefuse_47 : decode cX13_worksRefuse 47 = .ok (.iload 4, 2) := by decide +kernel
theorem dX13_worksRefuse_49 : decode cX13_worksRefuse 49 = .ok (.iload_n 2, 1) := by decide +kernel
theorem dX13_worksRefuse_50 : decode cX13_worksRefuse 50 = .ok (.invokevirtual 151, 3) := by decide +kernel
theorem dX13_worksRefuse_53 : decode cX13_worksRefuse 53 = .ok (.istore 5, 2) := by decide +kernel
theorem dX13_worksRefuse_55 : decode cX13_worksRefuse 55 = .ok (.iload 5, 2) := by decide +kernel
theorem dX13_worksRefuse_57 : decode cX13_worksRefuse 57 = .ok (.ifCond .eq 14, 3) := by decide +kernel
theorem dX13_worksRefuse_60 : decode cX13_worksRefuse 60 = .ok (.iload 5, 2) := by decide +kernel
theorem dX13_worksRefuse_62 : decode cX13_worksRefuse 62 = .ok (.iload_n 3, 1) := by decide +kernel
theorem dX13_worksRefuse_63 : decode cX13_worksRefuse 63 = .ok (.if_icmp .ge 8, 3) := by decide +kernel
theorem dX13_worksRefuse_66 : decode cX13_worksRefuse 66 = .ok (.iload 5, 2) := by decide +kernel
theorem dX13_worksRefuse_68 : decode cX13_worksRefuse 68 = .ok (.goto 4, 3) := by decide +kernel
theorem dX13_worksRefuse_71 : decode cX13_worksRefuse 71 = .ok (.iload_n 3, 1) := by decide +kernel
theorem dX13_worksRefuse_72 : decode cX13_worksRefuse 72 = .ok (.istore_n 3, 1) := by decide +kernel
theorem dX13_worksRefuse_73 : decode cX13_worksRefuse 73 = .ok (.iinc 4 1, 3) := by decide +kernel
theorem dX13_worksRefuse_76 : decode cX13_worksRefuse 76 = .ok (.goto (-70), 3) := by decide +kernel
theorem dX13_worksRefuse_79 : decode cX13_worksRefuse 79 = .ok (.iload_n 3, 1) := by decide +kernel
theorem dX13_worksRefuse_80 : decode cX13_worksRefuse 80 = .ok (.bipush 8, 2) := by decide +kernel
theorem dX13_worksRefuse_82 : decode cX13_worksRefuse 82 = .ok (.if_icmp .ne 7, 3) := by decide +kernel
theorem dX13_worksRefuse_85 : decode cX13_worksRefuse 85 = .ok (.iconst 0, 1) := by decide +kernel
theorem dX13_worksRefuse_86 : decode cX13_worksRefuse 86 = .ok (.goto 4, 3) := by decide +kernel
theorem dX13_worksRefuse_89 : decode cX13_worksRefuse 89 = .ok (.iload_n 3, 1) := by decide +kernel
theorem dX13_worksRefuse_90 : decode cX13_worksRefuse 90 = .ok (.ireturn, 1) := by decide +kernel
def sX13_worksRefuse_53 (k6 : Wl → Int32 → Int32 → Int32 → Int32 → Option Int32) (w : Wl) (l1 : Int32) (l2 : Int32) (l3 : Int32) (l4 : Int32) (s0 : Int32) : Option Int32 := (if s0 = 0 then k6 w l1 l2 l3 (l4 + 1) else (if l3 ≤ s0 then k6 w l1 l2 l3 (l4 + 1) else k6 w l1 l2 s0 (l4 + 1)))
theorem tX13_worksRefuse_53 {X : Cx} {B : Bs} {sz : Nat} {G : Gf} {r : Int32} (hx : Fx X cX13_worksRefuse 6 RX13 2 0 0) (hr : Rt X (some .int) 0 0 (RdΨ (.int (r)) G sz)) (k6 : Wl → Int32 → Int32 → Int32 → Int32 → Option Int32) (hk6 : ∀ (w : Wl) (l1 : Int32) (l2 : Int32) (l3 : Int32) (l4 : Int32) (hW : Wd (xΓ X) B w G) (h : k6 w l1 l2 l3 l4 = some r), J X 6 G sz 0 0 6 [some (.ref (B.1 + 371)), some (.int l1), some (.int l2), some (.int l3), some (.int l4), none] []) : ∀ (w : Wl) (l1 : Int32) (l2 : Int32) (l3 : Int32) (l4 : Int32) (s0 : Int32) (hW : Wd (xΓ X) B w G) (h : sX13_worksRefuse_53 k6  w l1 l2 l3 l4 s0 = some r), J X 6 G sz 0 0 53 [some (.ref (B.1 + 371)), some (.int l1), some (.int l2), some (.int l3), some (.int l4), none] [.int s0] := by
  intro w l1 l2 l3 l4 s0 hW h
  unfold sX13_worksRefuse_53 at h
  refine J_is hx (by decide) (hc_of rfl) rfl dX13_worksRefuse_53 ?_
  refine J_il hx rfl dX13_worksRefuse_55 ?_
  refine J_if_eq hx 71 dX13_worksRefuse_57 rfl (fun h1 => ?_) (fun h1 => ?_)
  · replace h := pos h h1
    refine J_il4 hx rfl rfl dX13_worksRefuse_71 ?_
    refine J_is4 hx rfl (by decide) (hc_of rfl) rfl dX13_worksRefuse_72 ?_
    refine J_iinc hx (v' := (l4 + 1)) rfl rfl (by decide) (hc_of rfl) rfl dX13_worksRefuse_73 ?_
    refine J_goto hx 6 dX13_worksRefuse_76 rfl ?_
    refine J_lw (ls' := [some (.ref (B.1 + 371)), some (.int l1), some (.int l2), some (.int l3), some (.int (l4 + 1)), none]) (lwS (lwS (lwS (lwS (lwS (lwN lwZ)))))) ?_
    exact hk6 _ _ _ _ _  hW h
  · replace h := neg h h1
    refine J_il hx rfl dX13_worksRefuse_60 ?_
    refine J_il4 hx rfl rfl dX13_worksRefuse_62 ?_
    refine J_icmp_ge hx 71 dX13_worksRefuse_63 rfl (fun h2 => ?_) (fun h2 => ?_)
    · replace h := pos h h2
      refine J_il4 hx rfl rfl dX13_worksRefuse_71 ?_
      refine J_is4 hx rfl (by decide) (hc_of rfl) rfl dX13_worksRefuse_72 ?_
      refine J_iinc hx (v' := (l4 + 1)) rfl rfl (by decide) (hc_of rfl) rfl dX13_worksRefuse_73 ?_
      refine J_goto hx 6 dX13_worksRefuse_76 rfl ?_
      refine J_lw (ls' := [some (.ref (B.1 + 371)), some (.int l1), some (.int l2), some (.int l3), some (.int (l4 + 1)), none]) (lwS (lwS (lwS (lwS (lwS (lwN lwZ)))))) ?_
      exact hk6 _ _ _ _ _  hW h
    · replace h := neg h h2
      refine J_il hx rfl dX13_worksRefuse_66 ?_
      refine J_goto hx 72 dX13_worksRefuse_68 rfl ?_
      refine J_is4 hx rfl (by decide) (hc_of rfl) rfl dX13_worksRefuse_72 ?_
      refine J_iinc hx (v' := (l4 + 1)) rfl rfl (by decide) (hc_of rfl) rfl dX13_worksRefuse_73 ?_
      refine J_goto hx 6 dX13_worksRefuse_76 rfl ?_
      refine J_lw (ls' := [some (.ref (B.1 + 371)), some (.int l1), some (.int l2), some (.int s0), some (.int (l4 + 1)), none]) (lwS (lwS (lwS (lwS (lwS (lwN lwZ)))))) ?_
      exact hk6 _ _ _ _ _  hW h
def sX13_worksRefuse_6 : Nat → Wl → Int32 → Int32 → Int32 → Int32 → Option Int32
  | 0, _, _, _, _, _ => none
  | n + 1, w, l1, l2, l3, l4 => (if (w 372 3) ≤ l4 then (if l3 = (8 : Int32) then some (0 : Int32) else some l3) else (sX13_ofWork w l4 (4 : Int32)).bind (fun r3 => (sX13_isWithin w r3 l1).bind (fun r5 => (if r5 = true then (sX13_ofWork w l4 (2 : Int32)).bind (fun r8 => (if r8 = 0 then sX13_worksRefuse_53 (fun w l1 l2 l3 l4 => sX13_worksRefuse_6 n w l1 l2 l3 l4) w l1 l2 l3 l4 (5 : Int32) else (sX13_lenderRefuses w l4 l2).bind (fun r11 => sX13_worksRefuse_53 (fun w l1 l2 l3 l4 => sX13_worksRefuse_6 n w l1 l2 l3 l4) w l1 l2 l3 l4 r11))) else sX13_worksRefuse_6 n w l1 l2 l3 (l4 + 1)))))
theorem tX13_worksRefuse_6 {X : Cx} {B : Bs} {sz : Nat} {G : Gf} {r : Int32} (hx : Fx X cX13_worksRefuse 6 RX13 2 0 0) (hr : Rt X (some .int) 0 0 (RdΨ (.int (r)) G sz)) : ∀ (n : Nat), ∀ (w : Wl) (l1 : Int32) (l2 : Int32) (l3 : Int32) (l4 : Int32) (hW : Wd (xΓ X) B w G) (h : sX13_worksRefuse_6 n w l1 l2 l3 l4 = some r), J X 6 G sz 0 0 6 [some (.ref (B.1 + 371)), some (.int l1), some (.int l2), some (.int l3), some (.int l4), none] [] := by
  intro n
  induction n with
  | zero => intro w l1 l2 l3 l4 hW h; rw [sX13_worksRefuse_6.eq_1] at h; cases h
  | succ n ih =>
    intro w l1 l2 l3 l4 hW h
    rw [sX13_worksRefuse_6.eq_2] at h
    refine J_il hx rfl dX13_worksRefuse_6 ?_
    refine J_al4 hx rfl rfl dX13_worksRefuse_8 ?_
    refine g13_0 hx hW 372 (rfl : kd 371 = 19) fl_X13_7 rfl dX13_worksRefuse_9 ?_
    refine J_iconst hx (3 : Int32) dX13_worksRefuse_12 rfl ?_
    refine J_iaW hx hW (rfl : kd 372 = 641) (by decide +kernel : idx (3 : Int32) 541 = some 3) dX13_worksRefuse_13 ?_
    refine J_icmp_ge hx 79 dX13_worksRefuse_14 rfl (fun h1 => ?_) (fun h1 => ?_)
    · replace h := pos h h1
      refine J_il4 hx rfl rfl dX13_worksRefuse_79 ?_
      refine J_bipush hx (8 : Int32) dX13_worksRefuse_80 rfl ?_
      refine J_icmp_ne hx 89 dX13_worksRefuse_82 rfl (fun h2 => ?_) (fun h2 => ?_)
      · replace h := neg h h2
        refine J_il4 hx rfl rfl dX13_worksRefuse_89 ?_
        exact J_iretR hx hr dX13_worksRefuse_90 (Nat.le_refl 0) (Nat.le_refl 0) (Option.some.inj h)
      · replace h := pos h h2
        refine J_iconst hx (0 : Int32) dX13_worksRefuse_85 rfl ?_
        refine J_goto hx 90 dX13_worksRefuse_86 rfl ?_
        exact J_iretR hx hr dX13_worksRefuse_90 (Nat.le_refl 0) (Nat.le_refl 0) (Option.some.inj h)
    · replace h := neg h h1
      refine J_al4 hx rfl rfl dX13_worksRefuse_17 ?_
      refine J_al4 hx rfl rfl dX13_worksRefuse_18 ?_
      refine J_il hx rfl dX13_worksRefuse_19 ?_
      refine J_iconst hx (4 : Int32) dX13_worksRefuse_21 rfl ?_
      obtain ⟨r3, hr4, h⟩ := bnd h
      refine J_rdV hx (kX13_ofWork  hW hr4) ml_X13_51 lk_X13_ofWork (ci := 11) rfl (hW.obj (rfl : kd 371 = 19) (by decide) (by decide)) (rest := [.ref (B.1 + 371)]) rfl rfl (by decide) (by decide) (Nat.le_of_ble_eq_true rfl) (Nat.le_refl 0) (Nat.le_refl 0) dX13_worksRefuse_22 ?_
      refine J_il4 hx rfl rfl dX13_worksRefuse_25 ?_
      obtain ⟨r5, hr6, h⟩ := bnd h
      refine J_rdV hx (kX13_isWithin  hW hr6) ml_X13_54 lk_X13_isWithin (ci := 11) rfl (hW.obj (rfl : kd 371 = 19) (by decide) (by decide)) (rest := []) rfl rfl (by decide) (by decide) (Nat.le_of_ble_eq_true rfl) (Nat.le_refl 0) (Nat.le_refl 0) dX13_worksRefuse_26 ?_
      refine J_bif_eq hx 73 dX13_worksRefuse_29 rfl (fun h7 => ?_) (fun h7 => ?_)
      · replace h := neg h (bft h7)
        refine J_iinc hx (v' := (l4 + 1)) rfl rfl (by decide) (hc_of rfl) rfl dX13_worksRefuse_73 ?_
        refine J_goto hx 6 dX13_worksRefuse_76 rfl ?_
        exact ih _ _ _ _ _  hW h
      · replace h := pos h h7
        refine J_al4 hx rfl rfl dX13_worksRefuse_32 ?_
        refine J_il hx rfl dX13_worksRefuse_33 ?_
        refine J_iconst hx (2 : Int32) dX13_worksRefuse_35 rfl ?_
        obtain ⟨r8, hr9, h⟩ := bnd h
        refine J_rdV hx (kX13_ofWork  hW hr9) ml_X13_51 lk_X13_ofWork (ci := 11) rfl (hW.obj (rfl : kd 371 = 19) (by decide) (by decide)) (rest := []) rfl rfl (by decide) (by decide) (Nat.le_of_ble_eq_true rfl) (Nat.le_refl 0) (Nat.le_refl 0) dX13_worksRefuse_36 ?_
        refine J_if_ne hx 46 dX13_worksRefuse_39 rfl (fun h10 => ?_) (fun h10 => ?_)
        · replace h := neg h h10
          refine J_al4 hx rfl rfl dX13_worksRefuse_46 ?_
          refine J_il hx rfl dX13_worksRefuse_47 ?_
          refine J_il4 hx rfl rfl dX13_worksRefuse_49 ?_
          obtain ⟨r11, hr12, h⟩ := bnd h
          refine J_rdV hx (kX13_lenderRefuses  hW hr12) ml_X13_151 lk_X13_lenderRefuses (ci := 11) rfl (hW.obj (rfl : kd 371 = 19) (by decide) (by decide)) (rest := []) rfl rfl (by decide) (by decide) (Nat.le_of_ble_eq_true rfl) (Nat.le_refl 0) (Nat.le_refl 0) dX13_worksRefuse_50 ?_
          exact tX13_worksRefuse_53 hx hr _ ih _ _ _ _ _ _  hW h
        · replace h := pos h h10
          refine J_iconst hx (5 : Int32) dX13_worksRefuse_42 rfl ?_
          refine J_goto hx 53 dX13_worksRefuse_43 rfl ?_
          exact tX13_worksRefuse_53 hx hr _ ih _ _ _ _ _ _  hW h
def sX13_worksRefuse (w : Wl) (l1 : Int32) (l2 : Int32) : Option Int32 := sX13_worksRefuse_6 FU w l1 l2 (8 : Int32) (0 : Int32)
theorem kX13_worksRefuse {l : Launch} {Γ : Gl} {B : Bs} {w : Wl} {G : Gf} {sz : Nat} {l1 : Int32} {l2 : Int32} {r : Int32} (hW : Wd Γ B w G) (h : sX13_worksRefuse w l1 l2 = some r) : CtR l Γ yX13_worksRefuse cX13_worksRefuse 6 (some .int) 2 [.ref (B.1 + 371), .int l1, .int l2] G sz (.int (r)) := by
  refine Ct.of rfl (Nat.le_of_ble_eq_true rfl) fun X hx hr hl hΓ hnm => ?_
  subst hl hΓ
  show J X 6 G sz 0 0 0 [some (.ref (B.1 + 371)), some (.int l1), some (.int l2), none, none, none] []
  unfold sX13_worksRefuse at h
  refine J_bipush hx (8 : Int32) dX13_worksRefuse_0 rfl ?_
  refine J_is4 hx rfl (by decide) (hc_of rfl) rfl dX13_worksRefuse_2 ?_
  refine J_iconst hx (0 : Int32) dX13_worksRefuse_3 rfl ?_
  refine J_is hx (by decide) (hc_of rfl) rfl dX13_worksRefuse_4 ?_
  exact tX13_worksRefuse_6 hx hr _ _ _ _ _ _  hW h
theorem dX13_isEscorted_0 : decode cX13_isEscorted 0 = .ok (.iconst 0, 1) := by decide +kernel
theorem dX13_isEscorted_1 : decode cX13_isEscorted 1 = .ok (.istore_n 2, 1) := by decide +kernel
theorem dX13_isEscorted_2 : decode cX13_isEscorted 2 = .ok (.iconst 0, 1) := by decide +kernel
theorem dX13_isEscorted_3 : decode cX13_isEscorted 3 = .ok (.istore_n 3, 1) := by decide +kernel
theorem dX13_isEscorted_4 : decode cX13_isEscorted 4 = .ok (.iload_n 3, 1) := by decide +kernel
theorem dX13_isEscorted_5 : decode cX13_isEscorted 5 = .ok (.aload_n 0, 1) := by decide +kernel
theorem dX13_isEscorted_6 : decode cX13_isEscorted 6 = .ok (.getfield 7, 3) := by decide +kernel
theorem dX13_isEscorted_9 : decode cX13_isEscorted 9 = .ok (.iconst 3, 1) := by decide +kernel
theorem dX13_isEscorted_10 : decode cX13_isEscorted 10 = .ok (.iaload, 1) := by decide +kernel
theorem dX13_isEscorted_11 : decode cX13_isEscorted 11 = .ok (.if_icmp .ge 43, 3) := by decide +kernel
theorem dX13_isEscorted_14 : decode cX13_isEscorted 14 = .ok (.iload_n 2, 1) := by decide +kernel
theorem dX13_isEscorted_15 : decode cX13_isEscorted 15 = .ok (.ifCond .ne 27, 3) := by decide +kernel
theorem dX13_isEscorted_18 : decode cX13_isEscorted 18 = .ok (.aload_n 0, 1) := by decide +kernel
theorem dX13_isEscorted_19 : decode cX13_isEscorted 19 = .ok (.aload_n 0, 1) := by decide +kernel
theorem dX13_isEscorted_20 : decode cX13_isEscorted 20 = .ok (.iload_n 3, 1) := by decide +kernel
theorem dX13_isEscorted_21 : decode cX13_isEscorted 21 = .ok (.iconst 4, 1) := by decide +kernel
theorem dX13_isEscorted_22 : decode cX13_isEscorted 22 = .ok (.invokevirtual 51, 3) := by decide +kernel
theorem dX13_isEscorted_25 : decode cX13_isEscorted 25 = .ok (.iload_n 1, 1) := by decide +kernel
theorem dX13_isEscorted_26 : decode cX13_isEscorted 26 = .ok (.invokevirtual 54, 3) := by decide +kernel
theorem dX13_isEscorted_29 : decode cX13_isEscorted 29 = .ok (.ifCond .eq 17, 3) := by decide +kernel
theorem dX13_isEscorted_32 : decode cX13_isEscorted 32 = .ok (.aload_n 0, 1) := by decide +kernel
theorem dX13_isEscorted_33 : decode cX13_isEscorted 33 = .ok (.iload_n 3, 1) := by decide +kernel
theorem dX13_isEscorted_34 : decode cX13_isEscorted 34 = .ok (.iconst 3, 1) := by decide +kernel
theorem dX13_isEscorted_35 : decode cX13_isEscorted 35 = .ok (.invokevirtual 51, 3) := by decide +kernel
theorem dX13_isEscorted_38 : decode cX13_isEscorted 38 = .ok (.iconst 1, 1) := by decide +kernel
theorem dX13_isEscorted_39 : decode cX13_isEscorted 39 = .ok (.if_icmp .ne 7, 3) := by decide +kernel
theorem dX13_isEscorted_42 : decode cX13_isEscorted 42 = .ok (.iconst 1, 1) := by decide +kernel
theorem dX13_isEscorted_43 : decode cX13_isEscorted 43 = .ok (.goto 4, 3) := by decide +kernel
theorem dX13_isEscorted_46 : decode cX13_isEscorted 46 = .ok (.iconst 0, 1) := by decide +kernel
theorem dX13_isEscorted_47 : decode cX13_isEscorted 47 = .ok (.istore_n 2, 1) := by decide +kernel
theorem dX13_isEscorted_48 : decode cX13_isEscorted 48 = .ok (.iinc 3 1, 3) := by decide +kernel
theorem dX13_isEscorted_51 : decode cX13_isEscorted 51 = .ok (.goto (-47), 3) := by decide +kernel
theorem dX13_isEscorted_54 : decode cX13_isEscorted 54 = .ok (.iload_n 2, 1) := by decide +kernel
theorem dX13_isEscorted_55 : decode cX13_isEscorted 55 = .ok (.ireturn, 1) := by decide +kernel
def sX13_isEscorted_4 : Nat → Wl → Int32 → Int32 → Int32 → Option Bool
  | 0, _, _, _, _ => none
  | n + 1, w, l1, l2, l3 => (if (w 372 3) ≤ l3 then (if l2 = 0 then some false else (if l2 = 1 then some true else none)) else (if l2 = 0 then (sX13_ofWork w l3 (4 : Int32)).bind (fun r5 => (sX13_isWithin w r5 l1).bind (fun r7 => (if r7 = true then (sX13_ofWork w l3 (3 : Int32)).bind (fun r10 => (if r10 = (1 : Int32) then sX13_isEscorted_4 n w l1 (1 : Int32) (l3 + 1) else sX13_isEscorted_4 n w l1 (0 : Int32) (l3 + 1))) else sX13_isEscorted_4 n w l1 (0 : Int32) (l3 + 1)))) else sX13_isEscorted_4 n w l1 (1 : Int32) (l3 + 1)))
theorem tX13_isEscorted_4 {X : Cx} {B : Bs} {sz : Nat} {G : Gf} {r : Bool} (hx : Fx X cX13_isEscorted 4 RX13 2 0 0) (hr : Rt X (some .boolean) 0 0 (RdΨ (.int (bI r)) G sz)) : ∀ (n : Nat), ∀ (w : Wl) (l1 : Int32) (l2 : Int32) (l3 : Int32) (hW : Wd (xΓ X) B w G) (h : sX13_isEscorted_4 n w l1 l2 l3 = some r), J X 4 G sz 0 0 4 [some (.ref (B.1 + 371)), some (.int l1), some (.int l2), some (.int l3)] [] := by
  intro n
  induction n with
  | zero => intro w l1 l2 l3 hW h; rw [sX13_isEscorted_4.eq_1] at h; cases h
  | succ n ih =>
    intro w l1 l2 l3 hW h
    rw [sX13_isEscorted_4.eq_2] at h
    refine J_il4 hx rfl rfl dX13_isEscorted_4 ?_
    refine J_al4 hx rfl rfl dX13_isEscorted_5 ?_
    refine g13_0 hx hW 372 (rfl : kd 371 = 19) fl_X13_7 rfl dX13_isEscorted_6 ?_
    refine J_iconst hx (3 : Int32) dX13_isEscorted_9 rfl ?_
    refine J_iaW hx hW (rfl : kd 372 = 641) (by decide +kernel : idx (3 : Int32) 541 = some 3) dX13_isEscorted_10 ?_
    refine J_icmp_ge hx 54 dX13_isEscorted_11 rfl (fun h1 => ?_) (fun h1 => ?_)
    · replace h := pos h h1
      refine J_il4 hx rfl rfl dX13_isEscorted_54 ?_
      by_cases h2 : l2 = 0
      · replace h := pos h h2
        refine J_val (w := bI false) h2 ?_
        exact J_zretR hx hr dX13_isEscorted_55 (Nat.le_refl 0) (Nat.le_refl 0) (show (bI false) = bI _ from congrArg bI (Option.some.inj h))
      replace h := neg h h2
      obtain ⟨h3, h⟩ := grd h
      refine J_val (w := bI true) h3 ?_
      exact J_zretR hx hr dX13_isEscorted_55 (Nat.le_refl 0) (Nat.le_refl 0) (show (bI true) = bI _ from congrArg bI (Option.some.inj h))
    · replace h := neg h h1
      refine J_il4 hx rfl rfl dX13_isEscorted_14 ?_
      refine J_if_ne hx 42 dX13_isEscorted_15 rfl (fun h4 => ?_) (fun h4 => ?_)
      · replace h := neg h h4
        refine J_iconst hx (1 : Int32) dX13_isEscorted_42 rfl ?_
        refine J_goto hx 47 dX13_isEscorted_43 rfl ?_
        refine J_is4 hx rfl (by decide) (hc_of rfl) rfl dX13_isEscorted_47 ?_
        refine J_iinc hx (v' := (l3 + 1)) rfl rfl (by decide) (hc_of rfl) rfl dX13_isEscorted_48 ?_
        refine J_goto hx 4 dX13_isEscorted_51 rfl ?_
        exact ih _ _ _ _  hW h
      · replace h := pos h h4
        refine J_al4 hx rfl rfl dX13_isEscorted_18 ?_
        refine J_al4 hx rfl rfl dX13_isEscorted_19 ?_
        refine J_il4 hx rfl rfl dX13_isEscorted_20 ?_
        refine J_iconst hx (4 : Int32) dX13_isEscorted_21 rfl ?_
        obtain ⟨r5, hr6, h⟩ := bnd h
        refine J_rdV hx (kX13_ofWork  hW hr6) ml_X13_51 lk_X13_ofWork (ci := 11) rfl (hW.obj (rfl : kd 371 = 19) (by decide) (by decide)) (rest := [.ref (B.1 + 371)]) rfl rfl (by decide) (by decide) (Nat.le_of_ble_eq_true rfl) (Nat.le_refl 0) (Nat.le_refl 0) dX13_isEscorted_22 ?_
        refine J_il4 hx rfl rfl dX13_isEscorted_25 ?_
        obtain ⟨r7, hr8, h⟩ := bnd h
        refine J_rdV hx (kX13_isWithin  hW hr8) ml_X13_54 lk_X13_isWithin (ci := 11) rfl (hW.obj (rfl : kd 371 = 19) (by decide) (by decide)) (rest := []) rfl rfl (by decide) (by decide) (Nat.le_of_ble_eq_true rfl) (Nat.le_refl 0) (Nat.le_refl 0) dX13_isEscorted_26 ?_
        refine J_bif_eq hx 46 dX13_isEscorted_29 rfl (fun h9 => ?_) (fun h9 => ?_)
        · replace h := neg h (bft h9)
          refine J_iconst hx (0 : Int32) dX13_isEscorted_46 rfl ?_
          refine J_is4 hx rfl (by decide) (hc_of rfl) rfl dX13_isEscorted_47 ?_
          refine J_iinc hx (v' := (l3 + 1)) rfl rfl (by decide) (hc_of rfl) rfl dX13_isEscorted_48 ?_
          refine J_goto hx 4 dX13_isEscorted_51 rfl ?_
          exact ih _ _ _ _  hW h
        · replace h := pos h h9
          refine J_al4 hx rfl rfl dX13_isEscorted_32 ?_
          refine J_il4 hx rfl rfl dX13_isEscorted_33 ?_
          refine J_iconst hx (3 : Int32) dX13_isEscorted_34 rfl ?_
          obtain ⟨r10, hr11, h⟩ := bnd h
          refine J_rdV hx (kX13_ofWork  hW hr11) ml_X13_51 lk_X13_ofWork (ci := 11) rfl (hW.obj (rfl : kd 371 = 19) (by decide) (by decide)) (rest := []) rfl rfl (by decide) (by decide) (Nat.le_of_ble_eq_true rfl) (Nat.le_refl 0) (Nat.le_refl 0) dX13_isEscorted_35 ?_
          refine J_iconst hx (1 : Int32) dX13_isEscorted_38 rfl ?_
          refine J_icmp_ne hx 46 dX13_isEscorted_39 rfl (fun h12 => ?_) (fun h12 => ?_)
          · replace h := neg h h12
            refine J_iconst hx (0 : Int32) dX13_isEscorted_46 rfl ?_
            refine J_is4 hx rfl (by decide) (hc_of rfl) rfl dX13_isEscorted_47 ?_
            refine J_iinc hx (v' := (l3 + 1)) rfl rfl (by decide) (hc_of rfl) rfl dX13_isEscorted_48 ?_
            refine J_goto hx 4 dX13_isEscorted_51 rfl ?_
            exact ih _ _ _ _  hW h
          · replace h := pos h h12
            refine J_iconst hx (1 : Int32) dX13_isEscorted_42 rfl ?_
            refine J_goto hx 47 dX13_isEscorted_43 rfl ?_
            refine J_is4 hx rfl (by decide) (hc_of rfl) rfl dX13_isEscorted_47 ?_
            refine J_iinc hx (v' := (l3 + 1)) rfl rfl (by decide) (hc_of rfl) rfl dX13_isEscorted_48 ?_
            refine J_goto hx 4 dX13_isEscorted_51 rfl ?_
            exact ih _ _ _ _  hW h
def sX13_isEscorted (w : Wl) (l1 : Int32) : Option Bool := sX13_isEscorted_4 FU w l1 (0 : Int32) (0 : Int32)
theorem kX13_isEscorted {l : Launch} {Γ : Gl} {B : Bs} {w : Wl} {G : Gf} {sz : Nat} {l1 : Int32} {r : Bool} (hW : Wd Γ B w G) (h : sX13_isEscorted w l1 = some r) : CtR l Γ yX13_isEscorted cX13_isEscorted 4 (some .boolean) 2 [.ref (B.1 + 371), .int l1] G sz (.int (bI r)) := by
  refine Ct.of rfl (Nat.le_of_ble_eq_true rfl) fun X hx hr hl hΓ hnm => ?_
  subst hl hΓ
  show J X 4 G sz 0 0 0 [some (.ref (B.1 + 371)), some (.int l1), none, none] []
  unfold sX13_isEscorted at h
  refine J_iconst hx (0 : Int32) dX13_isEscorted_0 rfl ?_
  refine J_is4 hx rfl (by decide) (hc_of rfl) rfl dX13_isEscorted_1 ?_
  refine J_iconst hx (0 : Int32) dX13_isEscorted_2 rfl ?_
  refine J_is4 hx rfl (by decide) (hc_of rfl) rfl dX13_isEscorted_3 ?_
  exact tX13_isEscorted_4 hx hr _ _ _ _ _  hW h
theorem dX13_reason_0 : decode cX13_reason 0 = .ok (.aload_n 0, 1) := by decide +kernel
theorem dX13_reason_1 : decode cX13_reason 1 = .ok (.iload_n 1, 1) := by decide +kernel
theorem dX13_reason_2 : decode cX13_reason 2 = .ok (.invokevirtual 47, 3) := by decide +kernel
theorem dX13_reason_5 : decode cX13_reason 5 = .ok (.ifCond .eq 5, 3) := by decide +kernel
theorem dX13_reason_8 : decode cX13_reason 8 = .ok (.iconst 1, 1) := by decide +kernel
theorem dX13_reason_9 : decode cX13_reason 9 = .ok (.ireturn, 1) := by decide +kernel
theorem dX13_reason_10 : decode cX13_reason 10 = .ok (.aload_n 0, 1) := by decide +kernel
theorem dX13_reason_11 : decode cX13_reason 11 = .ok (.iload_n 1, 1) := by decide +kernel
theorem dX13_reason_12 : decode cX13_reason 12 = .ok (.iconst 2, 1) := by decide +kernel
theorem dX13_reason_13 : decode cX13_reason 13 = .ok (.invokevirtual 36, 3) := by decide +kernel
theorem dX13_reason_16 : decode cX13_reason 16 = .ok (.iconst (-1), 1) := by decide +kernel
theorem dX13_reason_17 : decode cX13_reason 17 = .ok (.if_icmp .eq 5, 3) := by decide +kernel
theorem dX13_reason_20 : decode cX13_reason 20 = .ok (.iconst 2, 1) := by decide +kernel
theorem dX13_reason_21 : decode cX13_reason 21 = .ok (.ireturn, 1) := by decide +kernel
theorem dX13_reason_22 : decode cX13_reason 22 = .ok (.aload_n 0, 1) := by decide +kernel
theorem dX13_reason_23 : decode cX13_reason 23 = .ok (.iload_n 1, 1) := by decide +kernel
theorem dX13_reason_24 : decode cX13_reason 24 = .ok (.iconst 3, 1) := by decide +kernel
theorem dX13_reason_25 : decode cX13_reason 25 = .ok (.invokevirtual 36, 3) := by decide +kernel
theorem dX13_reason_28 : decode cX13_reason 28 = .ok (.iconst (-1), 1) := by decide +kernel
theorem dX13_reason_29 : decode cX13_reason 29 = .ok (.if_icmp .ne 5, 3) := by decide +kernel
theorem dX13_reason_32 : decode cX13_reason 32 = .ok (.iconst 3, 1) := by decide +kernel
theorem dX13_reason_33 : decode cX13_reason 33 = .ok (.ireturn, 1) := by decide +kernel
theorem dX13_reason_34 : decode cX13_reason 34 = .ok (.aload_n 0, 1) := by decide +kernel
theorem dX13_reason_35 : decode cX13_reason 35 = .ok (.iload_n 1, 1) := by decide +kernel
theorem dX13_reason_36 : decode cX13_reason 36 = .ok (.iconst 3, 1) := by decide +kernel
theorem dX13_reason_37 : decode cX13_reason 37 = .ok (.invokevirtual 36, 3) := by decide +kernel
theorem dX13_reason_40 : decode cX13_reason 40 = .ok (.iload_n 2, 1) := by decide +kernel
theorem dX13_reason_41 : decode cX13_reason 41 = .ok (.if_icmp .eq 19, 3) := by decide +kernel
theorem dX13_reason_44 : decode cX13_reason 44 = .ok (.aload_n 0, 1) := by decide +kernel
theorem dX13_reason_45 : decode cX13_reason 45 = .ok (.aload_n 0, 1) := by decide +kernel
theorem dX13_reason_46 : decode cX13_reason 46 = .ok (.iload_n 1, 1) := by decide +kernel
theorem dX13_reason_47 : decode cX13_reason 47 = .ok (.iconst 3, 1) := by decide +kernel
theorem dX13_reason_48 : decode cX13_reason 48 = .ok (.invokevirtual 36, 3) := by decide +kernel
theorem dX13_reason_51 : decode cX13_reason 51 = .ok (.iconst 5, 1) := by decide +kernel
theorem dX13_reason_52 : decode cX13_reason 52 = .ok (.iload_n 2, 1) := by decide +kernel
theorem dX13_reason_53 : decode cX13_reason 53 = .ok (.iadd, 1) := by decide +kernel
theorem dX13_reason_54 : decode cX13_reason 54 = .ok (.invokevirtual 68, 3) := by decide +kernel
theorem dX13_reason_57 : decode cX13_reason 57 = .ok (.ifCond .ne 5, 3) := by decide +kernel
theorem dX13_reason_60 : decode cX13_reason 60 = .ok (.iconst 4, 1) := by decide +kernel
theorem dX13_reason_61 : decode cX13_reason 61 = .ok (.ireturn, 1) := by decide +kernel
theorem dX13_reason_62 : decode cX13_reason 62 = .ok (.aload_n 0, 1) := by decide +kernel
theorem dX13_reason_63 : decode cX13_reason 63 = .ok (.iload_n 1, 1) := by decide +kernel
theorem dX13_reason_64 : decode cX13_reason 64 = .ok (.iload_n 2, 1) := by decide +kernel
theorem dX13_reason_65 : decode cX13_reason 65 = .ok (.invokevirtual 154, 3) := by decide +kernel
theorem dX13_reason_68 : decode cX13_reason 68 = .ok (.istore 4, 2) := by decide +kernel
theorem dX13_reason_70 : decode cX13_reason 70 = .ok (.iload 4, 2) := by decide +kernel
theorem dX13_reason_72 : decode cX13_reason 72 = .ok (.ifCond .eq 6, 3) := by decide +kernel
theorem dX13_reason_75 : decode cX13_reason 75 = .ok (.iload 4, 2) := by decide +kernel
theorem dX13_reason_77 : decode cX13_reason 77 = .ok (.ireturn, 1) := by decide +kernel
theorem dX13_reason_78 : decode cX13_reason 78 = .ok (.aload_n 0, 1) := by decide +kernel
theorem dX13_reason_79 : decode cX13_reason 79 = .ok (.iload_n 1, 1) := by decide +kernel
theorem dX13_reason_80 : decode cX13_reason 80 = .ok (.iload_n 2, 1) := by decide +kernel
theorem dX13_reason_81 : decode cX13_reason 81 = .ok (.invokevirtual 157, 3) := by decide +kernel
theorem dX13_reason_84 : decode cX13_reason 84 = .ok (.aload_n 0, 1) := by decide +kernel
theorem dX13_reason_85 : decode cX13_reason 85 = .ok (.iload_n 2, 1) := by decide +kernel
theorem dX13_reason_86 : decode cX13_reason 86 = .ok (.iconst 3, 1) := by decide +kernel
theorem dX13_reason_87 : decode cX13_reason 87 = .ok (.invokevirtual 68, 3) := by decide +kernel
theorem dX13_reason_90 : decode cX13_reason 90 = .ok (.i2l, 1) := by decide +kernel
theorem dX13_reason_91 : decode cX13_reason 91 = .ok (.lcmp, 1) := by decide +kernel
theorem dX13_reason_92 : decode cX13_reason 92 = .ok (.ifCond .le 6, 3) := by decide +kernel
theorem dX13_reason_95 : decode cX13_reason 95 = .ok (.bipush 8, 2) := by decide +kernel
theorem dX13_reason_97 : decode cX13_reason 97 = .ok (.ireturn, 1) := by decide +kernel
theorem dX13_reason_98 : decode cX13_reason 98 = .ok (.iload_n 3, 1) := by decide +kernel
theorem dX13_reason_99 : decode cX13_reason 99 = .ok (.iconst (-1), 1) := by decide +kernel
theorem dX13_reason_100 : decode cX13_reason 100 = .ok (.if_icmp .ne 18, 3) := by decide +kernel
theorem dX13_reason_103 : decode cX13_reason 103 = .ok (.aload_n 0, 1) := by decide +kernel
theorem dX13_reason_104 : decode cX13_reason 104 = .ok (.iload_n 1, 1) := by decide +kernel
theorem dX13_reason_105 : decode cX13_reason 105 = .ok (.invokevirtual 161, 3) := by decide +kernel
theorem dX13_reason_108 : decode cX13_reason 108 = .ok (.ifCond .eq 8, 3) := by decide +kernel
theorem dX13_reason_111 : decode cX13_reason 111 = .ok (.bipush 9, 2) := by decide +kernel
theorem dX13_reason_113 : decode cX13_reason 113 = .ok (.goto 4, 3) := by decide +kernel
theorem dX13_reason_116 : decode cX13_reason 116 = .ok (.iconst 0, 1) := by decide +kernel
theorem dX13_reason_117 : decode cX13_reason 117 = .ok (.ireturn, 1) := by decide +kernel
theorem dX13_reason_118 : decode cX13_reason 118 = .ok (.aload_n 0, 1) := by decide +kernel
theorem dX13_reason_119 : decode cX13_reason 119 = .ok (.getfield 7, 3) := by decide +kernel
theorem dX13_reason_122 : decode cX13_reason 122 = .ok (.sipush 137, 3) := by decide +kernel
theorem dX13_reason_125 : decode cX13_reason 125 = .ok (.iconst 2, 1) := by decide +kernel
theorem dX13_reason_126 : decode cX13_reason 126 = .ok (.iload_n 3, 1) := by decide +kernel
theorem dX13_reason_127 : decode cX13_reason 127 = .ok (.imul, 1) := by decide +kernel
theorem dX13_reason_128 : decode cX13_reason 128 = .ok (.iadd, 1) := by decide +kernel
theorem dX13_reason_129 : decode cX13_reason 129 = .ok (.iaload, 1) := by decide +kernel
theorem dX13_reason_130 : decode cX13_reason 130 = .ok (.aload_n 0, 1) := by decide +kernel
theorem dX13_reason_131 : decode cX13_reason 131 = .ok (.iload_n 1, 1) := by decide +kernel
theorem dX13_reason_132 : decode cX13_reason 132 = .ok (.iconst 3, 1) := by decide +kernel
theorem dX13_reason_133 : decode cX13_reason 133 = .ok (.invokevirtual 36, 3) := by decide +kernel
theorem dX13_reason_136 : decode cX13_reason 136 = .ok (.if_icmp .ne 7, 3) := by decide +kernel
theorem dX13_reason_139 : decode cX13_reason 139 = .ok (.iconst 0, 1) := by decide +kernel
theorem dX13_reason_140 : decode cX13_reason 140 = .ok (.goto 5, 3) := by decide +kernel
theorem dX13_reason_143 : decode cX13_reason 143 = .ok (.bipush 10, 2) := by decide +kernel
theorem dX13_reason_145 : decode cX13_reason 145 = .ok (.ireturn, 1) := by decide +kernel
def sX13_reason (w : Wl) (l1 : Int32) (l2 : Int32) (l3 : Int32) : Option Int32 := (sX13_isOpen w l1).bind (fun r1 => (if r1 = true then some (1 : Int32) else (sX13_of w l1 (2 : Int32)).bind (fun r4 => (if r4 = (-1 : Int32) then (sX13_of w l1 (3 : Int32)).bind (fun r7 => (if r7 = (-1 : Int32) then some (3 : Int32) else (if r7 = l2 then some (4 : Int32) else (sX13_ofVenue w r7 ((5 : Int32) + l2)).bind (fun r11 => (if r11 = 0 then some (4 : Int32) else (sX13_worksRefuse w l1 l2).bind (fun r14 => (if r14 = 0 then (sX13_valuesFor w l1 l2).bind (fun r17 => (sX13_ofVenue w l2 (3 : Int32)).bind (fun r19 => (if (lg_cmp r17 r19.toInt64) ≤ 0 then (if l3 = (-1 : Int32) then (sX13_isEscorted w l1).bind (fun r26 => (if r26 = true then some (9 : Int32) else some (0 : Int32))) else (idx ((137 : Int32) + ((2 : Int32) * l3)) 541).bind (fun c23 => (if (w 372 c23) = r7 then some (0 : Int32) else some (10 : Int32)))) else some (8 : Int32)))) else some r14))))))) else some (2 : Int32)))))
theorem kX13_reason {l : Launch} {Γ : Gl} {B : Bs} {w : Wl} {G : Gf} {sz : Nat} {l1 : Int32} {l2 : Int32} {l3 : Int32} {r : Int32} (hW : Wd Γ B w G) (h : sX13_reason w l1 l2 l3 = some r) : CtR l Γ yX13_reason cX13_reason 5 (some .int) 5 [.ref (B.1 + 371), .int l1, .int l2, .int l3] G sz (.int (r)) := by
  refine Ct.of rfl (Nat.le_of_ble_eq_true rfl) fun X hx hr hl hΓ hnm => ?_
  subst hl hΓ
  show J X 5 G sz 0 0 0 [some (.ref (B.1 + 371)), some (.int l1), some (.int l2), some (.int l3), none] []
  unfold sX13_reason at h
  refine J_al4 hx rfl rfl dX13_reason_0 ?_
  refine J_il4 hx rfl rfl dX13_reason_1 ?_
  obtain ⟨r1, hr2, h⟩ := bnd h
  refine J_rdV hx (kX13_isOpen  hW hr2) ml_X13_47 lk_X13_isOpen (ci := 11) rfl (hW.obj (rfl : kd 371 = 19) (by decide) (by decide)) (rest := []) rfl rfl (by decide) (by decide) (Nat.le_of_ble_eq_true rfl) (Nat.le_refl 0) (Nat.le_refl 0) dX13_reason_2 ?_
  refine J_bif_eq hx 10 dX13_reason_5 rfl (fun h3 => ?_) (fun h3 => ?_)
  · replace h := neg h (bft h3)
    refine J_al4 hx rfl rfl dX13_reason_10 ?_
    refine J_il4 hx rfl rfl dX13_reason_11 ?_
    refine J_iconst hx (2 : Int32) dX13_reason_12 rfl ?_
    obtain ⟨r4, hr5, h⟩ := bnd h
    refine J_rdV hx (kX13_of  hW hr5) ml_X13_36 lk_X13_of (ci := 11) rfl (hW.obj (rfl : kd 371 = 19) (by decide) (by decide)) (rest := []) rfl rfl (by decide) (by decide) (Nat.le_of_ble_eq_true rfl) (Nat.le_refl 0) (Nat.le_refl 0) dX13_reason_13 ?_
    refine J_iconst hx (-1 : Int32) dX13_reason_16 rfl ?_
    refine J_icmp_eq hx 22 dX13_reason_17 rfl (fun h6 => ?_) (fun h6 => ?_)
    · replace h := pos h h6
      refine J_al4 hx rfl rfl dX13_reason_22 ?_
      refine J_il4 hx rfl rfl dX13_reason_23 ?_
      refine J_iconst hx (3 : Int32) dX13_reason_24 rfl ?_
      obtain ⟨r7, hr8, h⟩ := bnd h
      refine J_rdV hx (kX13_of  hW hr8) ml_X13_36 lk_X13_of (ci := 11) rfl (hW.obj (rfl : kd 371 = 19) (by decide) (by decide)) (rest := []) rfl rfl (by decide) (by decide) (Nat.le_of_ble_eq_true rfl) (Nat.le_refl 0) (Nat.le_refl 0) dX13_reason_25 ?_
      refine J_iconst hx (-1 : Int32) dX13_reason_28 rfl ?_
      refine J_icmp_ne hx 34 dX13_reason_29 rfl (fun h9 => ?_) (fun h9 => ?_)
      · replace h := neg h h9
        refine J_al4 hx rfl rfl dX13_reason_34 ?_
        refine J_il4 hx rfl rfl dX13_reason_35 ?_
        refine J_iconst hx (3 : Int32) dX13_reason_36 rfl ?_
        refine J_rdV hx (kX13_of  hW hr8) ml_X13_36 lk_X13_of (ci := 11) rfl (hW.obj (rfl : kd 371 = 19) (by decide) (by decide)) (rest := []) rfl rfl (by decide) (by decide) (Nat.le_of_ble_eq_true rfl) (Nat.le_refl 0) (Nat.le_refl 0) dX13_reason_37 ?_
        refine J_il4 hx rfl rfl dX13_reason_40 ?_
        refine J_icmp_eq hx 60 dX13_reason_41 rfl (fun h10 => ?_) (fun h10 => ?_)
        · replace h := pos h h10
          refine J_iconst hx (4 : Int32) dX13_reason_60 rfl ?_
          exact J_iretR hx hr dX13_reason_61 (Nat.le_refl 0) (Nat.le_refl 0) (Option.some.inj h)
        · replace h := neg h h10
          refine J_al4 hx rfl rfl dX13_reason_44 ?_
          refine J_al4 hx rfl rfl dX13_reason_45 ?_
          refine J_il4 hx rfl rfl dX13_reason_46 ?_
          refine J_iconst hx (3 : Int32) dX13_reason_47 rfl ?_
          refine J_rdV hx (kX13_of  hW hr8) ml_X13_36 lk_X13_of (ci := 11) rfl (hW.obj (rfl : kd 371 = 19) (by decide) (by decide)) (rest := [.ref (B.1 + 371)]) rfl rfl (by decide) (by decide) (Nat.le_of_ble_eq_true rfl) (Nat.le_refl 0) (Nat.le_refl 0) dX13_reason_48 ?_
          refine J_iconst hx (5 : Int32) dX13_reason_51 rfl ?_
          refine J_il4 hx rfl rfl dX13_reason_52 ?_
          refine J_iadd hx dX13_reason_53 ?_
          obtain ⟨r11, hr12, h⟩ := bnd h
          refine J_rdV hx (kX13_ofVenue  hW hr12) ml_X13_68 lk_X13_ofVenue (ci := 11) rfl (hW.obj (rfl : kd 371 = 19) (by decide) (by decide)) (rest := []) rfl rfl (by decide) (by decide) (Nat.le_of_ble_eq_true rfl) (Nat.le_refl 0) (Nat.le_refl 0) dX13_reason_54 ?_
          refine J_if_ne hx 62 dX13_reason_57 rfl (fun h13 => ?_) (fun h13 => ?_)
          · replace h := neg h h13
            refine J_al4 hx rfl rfl dX13_reason_62 ?_
            refine J_il4 hx rfl rfl dX13_reason_63 ?_
            refine J_il4 hx rfl rfl dX13_reason_64 ?_
            obtain ⟨r14, hr15, h⟩ := bnd h
            refine J_rdV hx (kX13_worksRefuse  hW hr15) ml_X13_154 lk_X13_worksRefuse (ci := 11) rfl (hW.obj (rfl : kd 371 = 19) (by decide) (by decide)) (rest := []) rfl rfl (by decide) (by decide) (Nat.le_of_ble_eq_true rfl) (Nat.le_refl 0) (Nat.le_refl 0) dX13_reason_65 ?_
            refine J_is hx (by decide) (hc_of rfl) rfl dX13_reason_68 ?_
            refine J_il hx rfl dX13_reason_70 ?_
            refine J_if_eq hx 78 dX13_reason_72 rfl (fun h16 => ?_) (fun h16 => ?_)
            · replace h := pos h h16
              refine J_al4 hx rfl rfl dX13_reason_78 ?_
              refine J_il4 hx rfl rfl dX13_reason_79 ?_
              refine J_il4 hx rfl rfl dX13_reason_80 ?_
              obtain ⟨r17, hr18, h⟩ := bnd h
              refine J_rdV hx (kX13_valuesFor  hW hr18) ml_X13_157 lk_X13_valuesFor (ci := 11) rfl (hW.obj (rfl : kd 371 = 19) (by decide) (by decide)) (rest := []) rfl rfl (by decide) (by decide) (Nat.le_of_ble_eq_true rfl) (Nat.le_refl 0) (Nat.le_refl 0) dX13_reason_81 ?_
              refine J_al4 hx rfl rfl dX13_reason_84 ?_
              refine J_il4 hx rfl rfl dX13_reason_85 ?_
              refine J_iconst hx (3 : Int32) dX13_reason_86 rfl ?_
              obtain ⟨r19, hr20, h⟩ := bnd h
              refine J_rdV hx (kX13_ofVenue  hW hr20) ml_X13_68 lk_X13_ofVenue (ci := 11) rfl (hW.obj (rfl : kd 371 = 19) (by decide) (by decide)) (rest := [.long r17]) rfl rfl (by decide) (by decide) (Nat.le_of_ble_eq_true rfl) (Nat.le_refl 0) (Nat.le_refl 0) dX13_reason_87 ?_
              refine J_i2l hx dX13_reason_90 ?_
              refine J_lcmp hx dX13_reason_91 ?_
              refine J_if_le hx 98 dX13_reason_92 rfl (fun h21 => ?_) (fun h21 => ?_)
              · replace h := pos h h21
                refine J_il4 hx rfl rfl dX13_reason_98 ?_
                refine J_iconst hx (-1 : Int32) dX13_reason_99 rfl ?_
                refine J_icmp_ne hx 118 dX13_reason_100 rfl (fun h22 => ?_) (fun h22 => ?_)
                · replace h := neg h h22
                  refine J_al4 hx rfl rfl dX13_reason_118 ?_
                  refine g13_0 hx hW 372 (rfl : kd 371 = 19) fl_X13_7 rfl dX13_reason_119 ?_
                  refine J_sipush hx (137 : Int32) dX13_reason_122 rfl ?_
                  refine J_iconst hx (2 : Int32) dX13_reason_125 rfl ?_
                  refine J_il4 hx rfl rfl dX13_reason_126 ?_
                  refine J_imul hx dX13_reason_127 ?_
                  refine J_iadd hx dX13_reason_128 ?_
                  obtain ⟨c23, hc24, h⟩ := bnd h
                  refine J_iaW hx hW (rfl : kd 372 = 641) hc24 dX13_reason_129 ?_
                  refine J_al4 hx rfl rfl dX13_reason_130 ?_
                  refine J_il4 hx rfl rfl dX13_reason_131 ?_
                  refine J_iconst hx (3 : Int32) dX13_reason_132 rfl ?_
                  refine J_rdV hx (kX13_of  hW hr8) ml_X13_36 lk_X13_of (ci := 11) rfl (hW.obj (rfl : kd 371 = 19) (by decide) (by decide)) (rest := [.int (w 372 c23)]) rfl rfl (by decide) (by decide) (Nat.le_of_ble_eq_true rfl) (Nat.le_refl 0) (Nat.le_refl 0) dX13_reason_133 ?_
                  refine J_icmp_ne hx 143 dX13_reason_136 rfl (fun h25 => ?_) (fun h25 => ?_)
                  · replace h := neg h h25
                    refine J_bipush hx (10 : Int32) dX13_reason_143 rfl ?_
                    exact J_iretR hx hr dX13_reason_145 (Nat.le_refl 0) (Nat.le_refl 0) (Option.some.inj h)
                  · replace h := pos h h25
                    refine J_iconst hx (0 : Int32) dX13_reason_139 rfl ?_
                    refine J_goto hx 145 dX13_reason_140 rfl ?_
                    exact J_iretR hx hr dX13_reason_145 (Nat.le_refl 0) (Nat.le_refl 0) (Option.some.inj h)
                · replace h := pos h h22
                  refine J_al4 hx rfl rfl dX13_reason_103 ?_
                  refine J_il4 hx rfl rfl dX13_reason_104 ?_
                  obtain ⟨r26, hr27, h⟩ := bnd h
                  refine J_rdV hx (kX13_isEscorted  hW hr27) ml_X13_161 lk_X13_isEscorted (ci := 11) rfl (hW.obj (rfl : kd 371 = 19) (by decide) (by decide)) (rest := []) rfl rfl (by decide) (by decide) (Nat.le_of_ble_eq_true rfl) (Nat.le_refl 0) (Nat.le_refl 0) dX13_reason_105 ?_
                  refine J_bif_eq hx 116 dX13_reason_108 rfl (fun h28 => ?_) (fun h28 => ?_)
                  · replace h := neg h (bft h28)
                    refine J_iconst hx (0 : Int32) dX13_reason_116 rfl ?_
                    exact J_iretR hx hr dX13_reason_117 (Nat.le_refl 0) (Nat.le_refl 0) (Option.some.inj h)
                  · replace h := pos h h28
                    refine J_bipush hx (9 : Int32) dX13_reason_111 rfl ?_
                    refine J_goto hx 117 dX13_reason_113 rfl ?_
                    exact J_iretR hx hr dX13_reason_117 (Nat.le_refl 0) (Nat.le_refl 0) (Option.some.inj h)
              · replace h := neg h h21
                refine J_bipush hx (8 : Int32) dX13_reason_95 rfl ?_
                exact J_iretR hx hr dX13_reason_97 (Nat.le_refl 0) (Nat.le_refl 0) (Option.some.inj h)
            · replace h := neg h h16
              refine J_il hx rfl dX13_reason_75 ?_
              exact J_iretR hx hr dX13_reason_77 (Nat.le_refl 0) (Nat.le_refl 0) (Option.some.inj h)
          · replace h := pos h h13
            refine J_iconst hx (4 : Int32) dX13_reason_60 rfl ?_
            exact J_iretR hx hr dX13_reason_61 (Nat.le_refl 0) (Nat.le_refl 0) (Option.some.inj h)
      · replace h := pos h h9
        refine J_iconst hx (3 : Int32) dX13_reason_32 rfl ?_
        exact J_iretR hx hr dX13_reason_33 (Nat.le_refl 0) (Nat.le_refl 0) (Option.some.inj h)
    · replace h := neg h h6
      refine J_iconst hx (2 : Int32) dX13_reason_20 rfl ?_
      exact J_iretR hx hr dX13_reason_21 (Nat.le_refl 0) (Nat.le_refl 0) (Option.some.inj h)
  · replace h := pos h h3
    refine J_iconst hx (1 : Int32) dX13_reason_8 rfl ?_
    exact J_iretR hx hr dX13_reason_9 (Nat.le_refl 0) (Nat.le_refl 0) (Option.some.inj h)
theorem dX13_isSending_0 : decode cX13_isSending 0 = .ok (.aload_n 0, 1) := by decide +kernel
theorem dX13_isSending_1 : decode cX13_isSending 1 = .ok (.iload_n 1, 1) := by decide +kernel
theorem dX13_isSending_2 : decode cX13_isSending 2 = .ok (.invokevirtual 85, 3) := by decide +kernel
theorem dX13_isSending_5 : decode cX13_isSending 5 = .ok (.ifCond .eq 28, 3) := by decide +kernel
theorem dX13_isSending_8 : decode cX13_isSending 8 = .ok (.aload_n 0, 1) := by decide +kernel
theorem dX13_isSending_9 : decode cX13_isSending 9 = .ok (.iload_n 2, 1) := by decide +kernel
theorem dX13_isSending_10 : decode cX13_isSending 10 = .ok (.invokevirtual 65, 3) := by decide +kernel
theorem dX13_isSending_13 : decode cX13_isSending 13 = .ok (.ifCond .eq 20, 3) := by decide +kernel
theorem dX13_isSending_16 : decode cX13_isSending 16 = .ok (.iload_n 3, 1) := by decide +kernel
theorem dX13_isSending_17 : decode cX13_isSending 17 = .ok (.iconst (-1), 1) := by decide +kernel
theorem dX13_isSending_18 : decode cX13_isSending 18 = .ok (.if_icmp .eq 11, 3) := by decide +kernel
theorem dX13_isSending_21 : decode cX13_isSending 21 = .ok (.aload_n 0, 1) := by decide +kernel
theorem dX13_isSending_22 : decode cX13_isSending 22 = .ok (.iload_n 3, 1) := by decide +kernel
theorem dX13_isSending_23 : decode cX13_isSending 23 = .ok (.invokevirtual 164, 3) := by decide +kernel
theorem dX13_isSending_26 : decode cX13_isSending 26 = .ok (.ifCond .eq 7, 3) := by decide +kernel
theorem dX13_isSending_29 : decode cX13_isSending 29 = .ok (.iconst 1, 1) := by decide +kernel
theorem dX13_isSending_30 : decode cX13_isSending 30 = .ok (.goto 4, 3) := by decide +kernel
theorem dX13_isSending_33 : decode cX13_isSending 33 = .ok (.iconst 0, 1) := by decide +kernel
theorem dX13_isSending_34 : decode cX13_isSending 34 = .ok (.ireturn, 1) := by decide +kernel
def sX13_isSending (w : Wl) (l1 : Int32) (l2 : Int32) (l3 : Int32) : Option Bool := (sX13_isCrate w l1).bind (fun r1 => (if r1 = true then (sX13_isVenue w l2).bind (fun r4 => (if r4 = true then (if l3 = (-1 : Int32) then some true else (sX13_isCourier w l3).bind (fun r8 => (if r8 = true then some true else some false))) else some false)) else some false))
theorem kX13_isSending {l : Launch} {Γ : Gl} {B : Bs} {w : Wl} {G : Gf} {sz : Nat} {l1 : Int32} {l2 : Int32} {l3 : Int32} {r : Bool} (hW : Wd Γ B w G) (h : sX13_isSending w l1 l2 l3 = some r) : CtR l Γ yX13_isSending cX13_isSending 4 (some .boolean) 2 [.ref (B.1 + 371), .int l1, .int l2, .int l3] G sz (.int (bI r)) := by
  refine Ct.of rfl (Nat.le_of_ble_eq_true rfl) fun X hx hr hl hΓ hnm => ?_
  subst hl hΓ
  show J X 4 G sz 0 0 0 [some (.ref (B.1 + 371)), some (.int l1), some (.int l2), some (.int l3)] []
  unfold sX13_isSending at h
  refine J_al4 hx rfl rfl dX13_isSending_0 ?_
  refine J_il4 hx rfl rfl dX13_isSending_1 ?_
  obtain ⟨r1, hr2, h⟩ := bnd h
  refine J_rdV hx (kX13_isCrate  hW hr2) ml_X13_85 lk_X13_isCrate (ci := 11) rfl (hW.obj (rfl : kd 371 = 19) (by decide) (by decide)) (rest := []) rfl rfl (by decide) (by decide) (Nat.le_of_ble_eq_true rfl) (Nat.le_refl 0) (Nat.le_refl 0) dX13_isSending_2 ?_
  refine J_bif_eq hx 33 dX13_isSending_5 rfl (fun h3 => ?_) (fun h3 => ?_)
  · replace h := neg h (bft h3)
    refine J_iconst hx (0 : Int32) dX13_isSending_33 rfl ?_
    exact J_zretR hx hr dX13_isSending_34 (Nat.le_refl 0) (Nat.le_refl 0) (show (0 : Int32) = bI _ from congrArg bI (Option.some.inj h))
  · replace h := pos h h3
    refine J_al4 hx rfl rfl dX13_isSending_8 ?_
    refine J_il4 hx rfl rfl dX13_isSending_9 ?_
    obtain ⟨r4, hr5, h⟩ := bnd h
    refine J_rdV hx (kX13_isVenue  hW hr5) ml_X13_65 lk_X13_isVenue (ci := 11) rfl (hW.obj (rfl : kd 371 = 19) (by decide) (by decide)) (rest := []) rfl rfl (by decide) (by decide) (Nat.le_of_ble_eq_true rfl) (Nat.le_refl 0) (Nat.le_refl 0) dX13_isSending_10 ?_
    refine J_bif_eq hx 33 dX13_isSending_13 rfl (fun h6 => ?_) (fun h6 => ?_)
    · replace h := neg h (bft h6)
      refine J_iconst hx (0 : Int32) dX13_isSending_33 rfl ?_
      exact J_zretR hx hr dX13_isSending_34 (Nat.le_refl 0) (Nat.le_refl 0) (show (0 : Int32) = bI _ from congrArg bI (Option.some.inj h))
    · replace h := pos h h6
      refine J_il4 hx rfl rfl dX13_isSending_16 ?_
      refine J_iconst hx (-1 : Int32) dX13_isSending_17 rfl ?_
      refine J_icmp_eq hx 29 dX13_isSending_18 rfl (fun h7 => ?_) (fun h7 => ?_)
      · replace h := pos h h7
        refine J_iconst hx (1 : Int32) dX13_isSending_29 rfl ?_
        refine J_goto hx 34 dX13_isSending_30 rfl ?_
        exact J_zretR hx hr dX13_isSending_34 (Nat.le_refl 0) (Nat.le_refl 0) (show (1 : Int32) = bI _ from congrArg bI (Option.some.inj h))
      · replace h := neg h h7
        refine J_al4 hx rfl rfl dX13_isSending_21 ?_
        refine J_il4 hx rfl rfl dX13_isSending_22 ?_
        obtain ⟨r8, hr9, h⟩ := bnd h
        refine J_rdV hx (kX13_isCourier  hW hr9) ml_X13_164 lk_X13_isCourier (ci := 11) rfl (hW.obj (rfl : kd 371 = 19) (by decide) (by decide)) (rest := []) rfl rfl (by decide) (by decide) (Nat.le_of_ble_eq_true rfl) (Nat.le_refl 0) (Nat.le_refl 0) dX13_isSending_23 ?_
        refine J_bif_eq hx 33 dX13_isSending_26 rfl (fun h10 => ?_) (fun h10 => ?_)
        · replace h := neg h (bft h10)
          refine J_iconst hx (0 : Int32) dX13_isSending_33 rfl ?_
          exact J_zretR hx hr dX13_isSending_34 (Nat.le_refl 0) (Nat.le_refl 0) (show (0 : Int32) = bI _ from congrArg bI (Option.some.inj h))
        · replace h := pos h h10
          refine J_iconst hx (1 : Int32) dX13_isSending_29 rfl ?_
          refine J_goto hx 34 dX13_isSending_30 rfl ?_
          exact J_zretR hx hr dX13_isSending_34 (Nat.le_refl 0) (Nat.le_refl 0) (show (1 : Int32) = bI _ from congrArg bI (Option.some.inj h))
theorem dX13_notSend_0 : decode cX13_notSend 0 = .ok (.aload_n 0, 1) := by decide +kernel
theorem dX13_notSend_1 : decode cX13_notSend 1 = .ok (.iload_n 1, 1) := by decide +kernel
theorem dX13_notSend_2 : decode cX13_notSend 2 = .ok (.iload_n 2, 1) := by decide +kernel
theorem dX13_notSend_3 : decode cX13_notSend 3 = .ok (.iload_n 3, 1) := by decide +kernel
theorem dX13_notSend_4 : decode cX13_notSend 4 = .ok (.invokevirtual 167, 3) := by decide +kernel
theorem dX13_notSend_7 : decode cX13_notSend 7 = .ok (.ifCond .ne 7, 3) := by decide +kernel
theorem dX13_notSend_10 : decode cX13_notSend 10 = .ok (.iconst 1, 1) := by decide +kernel
theorem dX13_notSend_11 : decode cX13_notSend 11 = .ok (.goto 18, 3) := by decide +kernel
theorem dX13_notSend_14 : decode cX13_notSend 14 = .ok (.aload_n 0, 1) := by decide +kernel
theorem dX13_notSend_15 : decode cX13_notSend 15 = .ok (.iload_n 1, 1) := by decide +kernel
theorem dX13_notSend_16 : decode cX13_notSend 16 = .ok (.iload_n 2, 1) := by decide +kernel
theorem dX13_notSend_17 : decode cX13_notSend 17 = .ok (.iload_n 3, 1) := by decide +kernel
theorem dX13_notSend_18 : decode cX13_notSend 18 = .ok (.invokevirtual 170, 3) := by decide +kernel
theorem dX13_notSend_21 : decode cX13_notSend 21 = .ok (.ifCond .eq 7, 3) := by decide +kernel
theorem dX13_notSend_24 : decode cX13_notSend 24 = .ok (.iconst 2, 1) := by decide +kernel
theorem dX13_notSend_25 : decode cX13_notSend 25 = .ok (.goto 4, 3) := by decide +kernel
theorem dX13_notSend_28 : decode cX13_notSend 28 = .ok (.iconst 0, 1) := by decide +kernel
theorem dX13_notSend_29 : decode cX13_notSend 29 = .ok (.ireturn, 1) := by decide +kernel
def sX13_notSend (w : Wl) (l1 : Int32) (l2 : Int32) (l3 : Int32) : Option Int32 := (sX13_isSending w l1 l2 l3).bind (fun r1 => (if r1 = true then (sX13_reason w l1 l2 l3).bind (fun r4 => (if r4 = 0 then some (0 : Int32) else some (2 : Int32))) else some (1 : Int32)))
theorem kX13_notSend {l : Launch} {Γ : Gl} {B : Bs} {w : Wl} {G : Gf} {sz : Nat} {l1 : Int32} {l2 : Int32} {l3 : Int32} {r : Int32} (hW : Wd Γ B w G) (h : sX13_notSend w l1 l2 l3 = some r) : CtR l Γ yX13_notSend cX13_notSend 4 (some .int) 6 [.ref (B.1 + 371), .int l1, .int l2, .int l3] G sz (.int (r)) := by
  refine Ct.of rfl (Nat.le_of_ble_eq_true rfl) fun X hx hr hl hΓ hnm => ?_
  subst hl hΓ
  show J X 4 G sz 0 0 0 [some (.ref (B.1 + 371)), some (.int l1), some (.int l2), some (.int l3)] []
  unfold sX13_notSend at h
  refine J_al4 hx rfl rfl dX13_notSend_0 ?_
  refine J_il4 hx rfl rfl dX13_notSend_1 ?_
  refine J_il4 hx rfl rfl dX13_notSend_2 ?_
  refine J_il4 hx rfl rfl dX13_notSend_3 ?_
  obtain ⟨r1, hr2, h⟩ := bnd h
  refine J_rdV hx (kX13_isSending  hW hr2) ml_X13_167 lk_X13_isSending (ci := 11) rfl (hW.obj (rfl : kd 371 = 19) (by decide) (by decide)) (rest := []) rfl rfl (by decide) (by decide) (Nat.le_of_ble_eq_true rfl) (Nat.le_refl 0) (Nat.le_refl 0) dX13_notSend_4 ?_
  refine J_bif_ne hx 14 dX13_notSend_7 rfl (fun h3 => ?_) (fun h3 => ?_)
  · replace h := pos h h3
    refine J_al4 hx rfl rfl dX13_notSend_14 ?_
    refine J_il4 hx rfl rfl dX13_notSend_15 ?_
    refine J_il4 hx rfl rfl dX13_notSend_16 ?_
    refine J_il4 hx rfl rfl dX13_notSend_17 ?_
    obtain ⟨r4, hr5, h⟩ := bnd h
    refine J_rdV hx (kX13_reason  hW hr5) ml_X13_170 lk_X13_reason (ci := 11) rfl (hW.obj (rfl : kd 371 = 19) (by decide) (by decide)) (rest := []) rfl rfl (by decide) (by decide) (Nat.le_of_ble_eq_true rfl) (Nat.le_refl 0) (Nat.le_refl 0) dX13_notSend_18 ?_
    refine J_if_eq hx 28 dX13_notSend_21 rfl (fun h6 => ?_) (fun h6 => ?_)
    · replace h := pos h h6
      refine J_iconst hx (0 : Int32) dX13_notSend_28 rfl ?_
      exact J_iretR hx hr dX13_notSend_29 (Nat.le_refl 0) (Nat.le_refl 0) (Option.some.inj h)
    · replace h := neg h h6
      refine J_iconst hx (2 : Int32) dX13_notSend_24 rfl ?_
      refine J_goto hx 29 dX13_notSend_25 rfl ?_
      exact J_iretR hx hr dX13_notSend_29 (Nat.le_refl 0) (Nat.le_refl 0) (Option.some.inj h)
  · replace h := neg h (bft h3)
    refine J_iconst hx (1 : Int32) dX13_notSend_10 rfl ?_
    refine J_goto hx 29 dX13_notSend_11 rfl ?_
    exact J_iretR hx hr dX13_notSend_29 (Nat.le_refl 0) (Nat.le_refl 0) (Option.some.inj h)
theorem dX13_sends_0 : decode cX13_sends 0 = .ok (.aload_n 0, 1) := by decide +kernel
theorem dX13_sends_1 : decode cX13_sends 1 = .ok (.iload_n 1, 1) := by decide +kernel
theorem dX13_sends_2 : decode cX13_sends 2 = .ok (.iconst 5, 1) := by decide +kernel
theorem dX13_sends_3 : decode cX13_sends 3 = .ok (.aload_n 0, 1) := by decide +kernel
theorem dX13_sends_4 : decode cX13_sends 4 = .ok (.getfield 7, 3) := by decide +kernel
theorem dX13_sends_7 : decode cX13_sends 7 = .ok (.iconst 0, 1) := by decide +kernel
theorem dX13_sends_8 : decode cX13_sends 8 = .ok (.iaload, 1) := by decide +kernel
theorem dX13_sends_9 : decode cX13_sends 9 = .ok (.aload_n 0, 1) := by decide +kernel
theorem dX13_sends_10 : decode cX13_sends 10 = .ok (.aload_n 0, 1) := by decide +kernel
theorem dX13_sends_11 : decode cX13_sends 11 = .ok (.iload_n 1, 1) := by decide +kernel
theorem dX13_sends_12 : decode cX13_sends 12 = .ok (.iconst 3, 1) := by decide +kernel
theorem dX13_sends_13 : decode cX13_sends 13 = .ok (.invokevirtual 36, 3) := by decide +kernel
theorem dX13_sends_16 : decode cX13_sends 16 = .ok (.iconst 5, 1) := by decide +kernel
theorem dX13_sends_17 : decode cX13_sends 17 = .ok (.iload_n 2, 1) := by decide +kernel
theorem dX13_sends_18 : decode cX13_sends 18 = .ok (.iadd, 1) := by decide +kernel
theorem dX13_sends_19 : decode cX13_sends 19 = .ok (.invokevirtual 68, 3) := by decide +kernel
theorem dX13_sends_22 : decode cX13_sends 22 = .ok (.iadd, 1) := by decide +kernel
theorem dX13_sends_23 : decode cX13_sends 23 = .ok (.invokevirtual 74, 3) := by decide +kernel
theorem dX13_sends_26 : decode cX13_sends 26 = .ok (.aload_n 0, 1) := by decide +kernel
theorem dX13_sends_27 : decode cX13_sends 27 = .ok (.iload_n 1, 1) := by decide +kernel
theorem dX13_sends_28 : decode cX13_sends 28 = .ok (.iconst 4, 1) := by decide +kernel
theorem dX13_sends_29 : decode cX13_sends 29 = .ok (.iload_n 2, 1) := by decide +kernel
theorem dX13_sends_30 : decode cX13_sends 30 = .ok (.invokevirtual 74, 3) := by decide +kernel
theorem dX13_sends_33 : decode cX13_sends 33 = .ok (.aload_n 0, 1) := by decide +kernel
theorem dX13_sends_34 : decode cX13_sends 34 = .ok (.iload_n 1, 1) := by decide +kernel
theorem dX13_sends_35 : decode cX13_sends 35 = .ok (.iconst 3, 1) := by decide +kernel
theorem dX13_sends_36 : decode cX13_sends 36 = .ok (.iconst (-1), 1) := by decide +kernel
theorem dX13_sends_37 : decode cX13_sends 37 = .ok (.invokevirtual 74, 3) := by decide +kernel
theorem dX13_sends_40 : decode cX13_sends 40 = .ok (.iload_n 3, 1) := by decide +kernel
theorem dX13_sends_41 : decode cX13_sends 41 = .ok (.iconst (-1), 1) := by decide +kernel
theorem dX13_sends_42 : decode cX13_sends 42 = .ok (.if_icmp .eq 31, 3) := by decide +kernel
theorem dX13_sends_45 : decode cX13_sends 45 = .ok (.aload_n 0, 1) := by decide +kernel
theorem dX13_sends_46 : decode cX13_sends 46 = .ok (.getfield 7, 3) := by decide +kernel
theorem dX13_sends_49 : decode cX13_sends 49 = .ok (.sipush 137, 3) := by decide +kernel
theorem dX13_sends_52 : decode cX13_sends 52 = .ok (.iconst 2, 1) := by decide +kernel
theorem dX13_sends_53 : decode cX13_sends 53 = .ok (.iload_n 3, 1) := by decide +kernel
theorem dX13_sends_54 : decode cX13_sends 54 = .ok (.imul, 1) := by decide +kernel
theorem dX13_sends_55 : decode cX13_sends 55 = .ok (.iadd, 1) := by decide +kernel
theorem dX13_sends_56 : decode cX13_sends 56 = .ok (.iconst (-1), 1) := by decide +kernel
theorem dX13_sends_57 : decode cX13_sends 57 = .ok (.iastore, 1) := by decide +kernel
theorem dX13_sends_58 : decode cX13_sends 58 = .ok (.aload_n 0, 1) := by decide +kernel
theorem dX13_sends_59 : decode cX13_sends 59 = .ok (.getfield 7, 3) := by decide +kernel
theorem dX13_sends_62 : decode cX13_sends 62 = .ok (.sipush 137, 3) := by decide +kernel
theorem dX13_sends_65 : decode cX13_sends 65 = .ok (.iconst 2, 1) := by decide +kernel
theorem dX13_sends_66 : decode cX13_sends 66 = .ok (.iload_n 3, 1) := by decide +kernel
theorem dX13_sends_67 : decode cX13_sends 67 = .ok (.imul, 1) := by decide +kernel
theorem dX13_sends_68 : decode cX13_sends 68 = .ok (.iadd, 1) := by decide +kernel
theorem dX13_sends_69 : decode cX13_sends 69 = .ok (.iconst 1, 1) := by decide +kernel
theorem dX13_sends_70 : decode cX13_sends 70 = .ok (.iadd, 1) := by decide +kernel
theorem dX13_sends_71 : decode cX13_sends 71 = .ok (.iload_n 1, 1) := by decide +kernel
theorem dX13_sends_72 : decode cX13_sends 72 = .ok (.iastore, 1) := by decide +kernel
theorem dX13_sends_73 : decode cX13_sends 73 = .ok (.aload_n 0, 1) := by decide +kernel
theorem dX13_sends_74 : decode cX13_sends 74 = .ok (.iload_n 1, 1) := by decide +kernel
theorem dX13_sends_75 : decode cX13_sends 75 = .ok (.iconst 5, 1) := by decide +kernel
theorem dX13_sends_76 : decode cX13_sends 76 = .ok (.invokevirtual 36, 3) := by decide +kernel
theorem dX13_sends_79 : decode cX13_sends 79 = .ok (.ireturn, 1) := by decide +kernel
def sX13_sends (w : Wl) (l1 : Int32) (l2 : Int32) (l3 : Int32) : Option (Int32 × Wl) := (sX13_of w l1 (3 : Int32)).bind (fun r1 => (sX13_ofVenue w r1 ((5 : Int32) + l2)).bind (fun r3 => (sX13_put w l1 (5 : Int32) ((w 372 0) + r3)).bind (fun r5 => (sX13_put r5 l1 (4 : Int32) l2).bind (fun r9 => (sX13_put r9 l1 (3 : Int32) (-1 : Int32)).bind (fun r13 => (if l3 = (-1 : Int32) then (sX13_of r13 l1 (5 : Int32)).bind (fun r18 => some (r18, r13)) else (idx ((137 : Int32) + ((2 : Int32) * l3)) 541).bind (fun c20 => (idx (((137 : Int32) + ((2 : Int32) * l3)) + (1 : Int32)) 541).bind (fun c24 => (sX13_of (wst (wst r13 372 c20 (-1 : Int32)) 372 c24 l1) l1 (5 : Int32)).bind (fun r28 => some (r28, (wst (wst r13 372 c20 (-1 : Int32)) 372 c24 l1)))))))))))
theorem kX13_sends {l : Launch} {Γ : Gl} {B : Bs} {w : Wl} {G : Gf} {sz : Nat} {l1 : Int32} {l2 : Int32} {l3 : Int32} {r : (Int32 × Wl)} (hW : Wd Γ B w G) (h : sX13_sends w l1 l2 l3 = some r) : CtW l Γ yX13_sends cX13_sends 4 (some .int) 1 [.ref (B.1 + 371), .int l1, .int l2, .int l3] G sz B (some (.int (r.1))) r.2 := by
  refine Ct.of rfl (Nat.le_of_ble_eq_true rfl) fun X hx hr hl hΓ hnm => ?_
  subst hl hΓ
  show J X 4 G sz 0 0 0 [some (.ref (B.1 + 371)), some (.int l1), some (.int l2), some (.int l3)] []
  unfold sX13_sends at h
  refine J_al4 hx rfl rfl dX13_sends_0 ?_
  refine J_il4 hx rfl rfl dX13_sends_1 ?_
  refine J_iconst hx (5 : Int32) dX13_sends_2 rfl ?_
  refine J_al4 hx rfl rfl dX13_sends_3 ?_
  refine g13_0 hx hW 372 (rfl : kd 371 = 19) fl_X13_7 rfl dX13_sends_4 ?_
  refine J_iconst hx (0 : Int32) dX13_sends_7 rfl ?_
  refine J_iaW hx hW (rfl : kd 372 = 641) (by decide +kernel : idx (0 : Int32) 541 = some 0) dX13_sends_8 ?_
  refine J_al4 hx rfl rfl dX13_sends_9 ?_
  refine J_al4 hx rfl rfl dX13_sends_10 ?_
  refine J_il4 hx rfl rfl dX13_sends_11 ?_
  refine J_iconst hx (3 : Int32) dX13_sends_12 rfl ?_
  obtain ⟨r1, hr2, h⟩ := bnd h
  refine J_rdV hx (kX13_of  hW hr2) ml_X13_36 lk_X13_of (ci := 11) rfl (hW.obj (rfl : kd 371 = 19) (by decide) (by decide)) (rest := [.ref (B.1 + 371), .int (w 372 0), .int (5 : Int32), .int l1, .ref (B.1 + 371)]) rfl rfl (by decide) (by decide) (Nat.le_of_ble_eq_true rfl) (Nat.le_refl 0) (Nat.le_refl 0) dX13_sends_13 ?_
  refine J_iconst hx (5 : Int32) dX13_sends_16 rfl ?_
  refine J_il4 hx rfl rfl dX13_sends_17 ?_
  refine J_iadd hx dX13_sends_18 ?_
  obtain ⟨r3, hr4, h⟩ := bnd h
  refine J_rdV hx (kX13_ofVenue  hW hr4) ml_X13_68 lk_X13_ofVenue (ci := 11) rfl (hW.obj (rfl : kd 371 = 19) (by decide) (by decide)) (rest := [.int (w 372 0), .int (5 : Int32), .int l1, .ref (B.1 + 371)]) rfl rfl (by decide) (by decide) (Nat.le_of_ble_eq_true rfl) (Nat.le_refl 0) (Nat.le_refl 0) dX13_sends_19 ?_
  refine J_iadd hx dX13_sends_22 ?_
  obtain ⟨r5, hr6, h⟩ := bnd h
  refine J_wrV hx (kX13_put  hW hr6) ml_X13_74 lk_X13_put (ci := 11) rfl (hW.obj (rfl : kd 371 = 19) (by decide) (by decide)) (rest := []) rfl rfl (by decide) (by decide) (Nat.le_of_ble_eq_true rfl) (Nat.le_refl 0) (Nat.le_refl 0) dX13_sends_23 fun G7 hW8 => ?_
  show J X 4 G7 sz 0 0 26 [some (.ref (B.1 + 371)), some (.int l1), some (.int l2), some (.int l3)] []
  refine J_al4 hx rfl rfl dX13_sends_26 ?_
  refine J_il4 hx rfl rfl dX13_sends_27 ?_
  refine J_iconst hx (4 : Int32) dX13_sends_28 rfl ?_
  refine J_il4 hx rfl rfl dX13_sends_29 ?_
  obtain ⟨r9, hr10, h⟩ := bnd h
  refine J_wrV hx (kX13_put  hW8 hr10) ml_X13_74 lk_X13_put (ci := 11) rfl (hW8.obj (rfl : kd 371 = 19) (by decide) (by decide)) (rest := []) rfl rfl (by decide) (by decide) (Nat.le_of_ble_eq_true rfl) (Nat.le_refl 0) (Nat.le_refl 0) dX13_sends_30 fun G11 hW12 => ?_
  show J X 4 G11 sz 0 0 33 [some (.ref (B.1 + 371)), some (.int l1), some (.int l2), some (.int l3)] []
  refine J_al4 hx rfl rfl dX13_sends_33 ?_
  refine J_il4 hx rfl rfl dX13_sends_34 ?_
  refine J_iconst hx (3 : Int32) dX13_sends_35 rfl ?_
  refine J_iconst hx (-1 : Int32) dX13_sends_36 rfl ?_
  obtain ⟨r13, hr14, h⟩ := bnd h
  refine J_wrV hx (kX13_put  hW12 hr14) ml_X13_74 lk_X13_put (ci := 11) rfl (hW12.obj (rfl : kd 371 = 19) (by decide) (by decide)) (rest := []) rfl rfl (by decide) (by decide) (Nat.le_of_ble_eq_true rfl) (Nat.le_refl 0) (Nat.le_refl 0) dX13_sends_37 fun G15 hW16 => ?_
  show J X 4 G15 sz 0 0 40 [some (.ref (B.1 + 371)), some (.int l1), some (.int l2), some (.int l3)] []
  refine J_il4 hx rfl rfl dX13_sends_40 ?_
  refine J_iconst hx (-1 : Int32) dX13_sends_41 rfl ?_
  refine J_icmp_eq hx 73 dX13_sends_42 rfl (fun h17 => ?_) (fun h17 => ?_)
  · replace h := pos h h17
    refine J_al4 hx rfl rfl dX13_sends_73 ?_
    refine J_il4 hx rfl rfl dX13_sends_74 ?_
    refine J_iconst hx (5 : Int32) dX13_sends_75 rfl ?_
    obtain ⟨r18, hr19, h⟩ := bnd h
    refine J_rdV hx (kX13_of  hW16 hr19) ml_X13_36 lk_X13_of (ci := 11) rfl (hW16.obj (rfl : kd 371 = 19) (by decide) (by decide)) (rest := []) rfl rfl (by decide) (by decide) (Nat.le_of_ble_eq_true rfl) (Nat.le_refl 0) (Nat.le_refl 0) dX13_sends_76 ?_
    obtain rfl := Option.some.inj h
    exact J_iretW hx hr hW16 dX13_sends_79 (Nat.le_refl 0) (Nat.le_refl 0)
  · replace h := neg h h17
    refine J_al4 hx rfl rfl dX13_sends_45 ?_
    refine g13_0 hx hW16 372 (rfl : kd 371 = 19) fl_X13_7 rfl dX13_sends_46 ?_
    refine J_sipush hx (137 : Int32) dX13_sends_49 rfl ?_
    refine J_iconst hx (2 : Int32) dX13_sends_52 rfl ?_
    refine J_il4 hx rfl rfl dX13_sends_53 ?_
    refine J_imul hx dX13_sends_54 ?_
    refine J_iadd hx dX13_sends_55 ?_
    refine J_iconst hx (-1 : Int32) dX13_sends_56 rfl ?_
    obtain ⟨c20, hc21, h⟩ := bnd h
    refine J_iaS hx hW16 (rfl : kd 372 = 641) hc21 dX13_sends_57 fun G22 hW23 => ?_
    refine J_al4 hx rfl rfl dX13_sends_58 ?_
    refine g13_0 hx hW23 372 (rfl : kd 371 = 19) fl_X13_7 rfl dX13_sends_59 ?_
    refine J_sipush hx (137 : Int32) dX13_sends_62 rfl ?_
    refine J_iconst hx (2 : Int32) dX13_sends_65 rfl ?_
    refine J_il4 hx rfl rfl dX13_sends_66 ?_
    refine J_imul hx dX13_sends_67 ?_
    refine J_iadd hx dX13_sends_68 ?_
    refine J_iconst hx (1 : Int32) dX13_sends_69 rfl ?_
    refine J_iadd hx dX13_sends_70 ?_
    refine J_il4 hx rfl rfl dX13_sends_71 ?_
    obtain ⟨c24, hc25, h⟩ := bnd h
    refine J_iaS hx hW23 (rfl : kd 372 = 641) hc25 dX13_sends_72 fun G26 hW27 => ?_
    refine J_al4 hx rfl rfl dX13_sends_73 ?_
    refine J_il4 hx rfl rfl dX13_sends_74 ?_
    refine J_iconst hx (5 : Int32) dX13_sends_75 rfl ?_
    obtain ⟨r28, hr29, h⟩ := bnd h
    refine J_rdV hx (kX13_of  hW27 hr29) ml_X13_36 lk_X13_of (ci := 11) rfl (hW27.obj (rfl : kd 371 = 19) (by decide) (by decide)) (rest := []) rfl rfl (by decide) (by decide) (Nat.le_of_ble_eq_true rfl) (Nat.le_refl 0) (Nat.le_refl 0) dX13_sends_76 ?_
    obtain rfl := Option.some.inj h
    exact J_iretW hx hr hW27 dX13_sends_79 (Nat.le_refl 0) (Nat.le_refl 0)
theorem dX13_send_0 : decode cX13_send 0 = .ok (.aload_n 0, 1) := by decide +kernel
theorem dX13_send_1 : decode cX13_send 1 = .ok (.aload_n 0, 1) := by decide +kernel
theorem dX13_send_2 : decode cX13_send 2 = .ok (.iload_n 1, 1) := by decide +kernel
theorem dX13_send_3 : decode cX13_send 3 = .ok (.iload_n 2, 1) := by decide +kernel
theorem dX13_send_4 : decode cX13_send 4 = .ok (.iload_n 3, 1) := by decide +kernel
theorem dX13_send_5 : decode cX13_send 5 = .ok (.invokevirtual 174, 3) := by decide +kernel
theorem dX13_send_8 : decode cX13_send 8 = .ok (.putfield 25, 3) := by decide +kernel
theorem dX13_send_11 : decode cX13_send 11 = .ok (.aload_n 0, 1) := by decide +kernel
theorem dX13_send_12 : decode cX13_send 12 = .ok (.getfield 25, 3) := by decide +kernel
theorem dX13_send_15 : decode cX13_send 15 = .ok (.ifCond .eq 5, 3) := by decide +kernel
theorem dX13_send_18 : decode cX13_send 18 = .ok (.iconst 0, 1) := by decide +kernel
theorem dX13_send_19 : decode cX13_send 19 = .ok (.ireturn, 1) := by decide +kernel
theorem dX13_send_20 : decode cX13_send 20 = .ok (.aload_n 0, 1) := by decide +kernel
theorem dX13_send_21 : decode cX13_send 21 = .ok (.invokevirtual 62, 3) := by decide +kernel
theorem dX13_send_24 : decode cX13_send 24 = .ok (.aload_n 0, 1) := by decide +kernel
theorem dX13_send_25 : decode cX13_send 25 = .ok (.iload_n 1, 1) := by decide +kernel
theorem dX13_send_26 : decode cX13_send 26 = .ok (.iload_n 2, 1) := by decide +kernel
theorem dX13_send_27 : decode cX13_send 27 = .ok (.iload_n 3, 1) := by decide +kernel
theorem dX13_send_28 : decode cX13_send 28 = .ok (.invokevirtual 177, 3) := by decide +kernel
theorem dX13_send_31 : decode cX13_send 31 = .ok (.ireturn, 1) := by decide +kernel
def sX13_send (w : Wl) (l1 : Int32) (l2 : Int32) (l3 : Int32) : Option (Int32 × Wl) := (sX13_notSend w l1 l2 l3).bind (fun r1 => (if ((wst w 371 5 r1) 371 5) = 0 then (sX13_keep (wst w 371 5 r1) ).bind (fun r6 => (sX13_sends r6 l1 l2 l3).bind (fun r10 => some (r10.1, r10.2))) else some ((0 : Int32), (wst w 371 5 r1))))
theorem kX13_send {l : Launch} {Γ : Gl} {B : Bs} {w : Wl} {G : Gf} {sz : Nat} {l1 : Int32} {l2 : Int32} {l3 : Int32} {r : (Int32 × Wl)} (hW : Wd Γ B w G) (h : sX13_send w l1 l2 l3 = some r) : CtW l Γ yX13_send cX13_send 4 (some .int) 7 [.ref (B.1 + 371), .int l1, .int l2, .int l3] G sz B (some (.int (r.1))) r.2 := by
  refine Ct.of rfl (Nat.le_of_ble_eq_true rfl) fun X hx hr hl hΓ hnm => ?_
  subst hl hΓ
  show J X 4 G sz 0 0 0 [some (.ref (B.1 + 371)), some (.int l1), some (.int l2), some (.int l3)] []
  unfold sX13_send at h
  refine J_al4 hx rfl rfl dX13_send_0 ?_
  refine J_al4 hx rfl rfl dX13_send_1 ?_
  refine J_il4 hx rfl rfl dX13_send_2 ?_
  refine J_il4 hx rfl rfl dX13_send_3 ?_
  refine J_il4 hx rfl rfl dX13_send_4 ?_
  obtain ⟨r1, hr2, h⟩ := bnd h
  refine J_rdV hx (kX13_notSend  hW hr2) ml_X13_174 lk_X13_notSend (ci := 11) rfl (hW.obj (rfl : kd 371 = 19) (by decide) (by decide)) (rest := [.ref (B.1 + 371)]) rfl rfl (by decide) (by decide) (Nat.le_of_ble_eq_true rfl) (Nat.le_refl 0) (Nat.le_refl 0) dX13_send_5 ?_
  refine p13_5 hx hW (rfl : kd 371 = 19) fl_X13_25 dX13_send_8 fun G3 hW4 => ?_
  refine J_al4 hx rfl rfl dX13_send_11 ?_
  refine g13_5 hx hW4 (rfl : kd 371 = 19) fl_X13_25 dX13_send_12 ?_
  refine J_if_eq hx 20 dX13_send_15 rfl (fun h5 => ?_) (fun h5 => ?_)
  · replace h := pos h h5
    refine J_al4 hx rfl rfl dX13_send_20 ?_
    obtain ⟨r6, hr7, h⟩ := bnd h
    refine J_wrV hx (kX13_keep  hW4 hr7) ml_X13_62 lk_X13_keep (ci := 11) rfl (hW4.obj (rfl : kd 371 = 19) (by decide) (by decide)) (rest := []) rfl rfl (by decide) (by decide) (Nat.le_of_ble_eq_true rfl) (Nat.le_refl 0) (Nat.le_refl 0) dX13_send_21 fun G8 hW9 => ?_
    show J X 4 G8 sz 0 0 24 [some (.ref (B.1 + 371)), some (.int l1), some (.int l2), some (.int l3)] []
    refine J_al4 hx rfl rfl dX13_send_24 ?_
    refine J_il4 hx rfl rfl dX13_send_25 ?_
    refine J_il4 hx rfl rfl dX13_send_26 ?_
    refine J_il4 hx rfl rfl dX13_send_27 ?_
    obtain ⟨r10, hr11, h⟩ := bnd h
    refine J_wrV hx (kX13_sends  hW9 hr11) ml_X13_177 lk_X13_sends (ci := 11) rfl (hW9.obj (rfl : kd 371 = 19) (by decide) (by decide)) (rest := []) rfl rfl (by decide) (by decide) (Nat.le_of_ble_eq_true rfl) (Nat.le_refl 0) (Nat.le_refl 0) dX13_send_28 fun G12 hW13 => ?_
    show J X 4 G12 sz 0 0 31 [some (.ref (B.1 + 371)), some (.int l1), some (.int l2), some (.int l3)] [.int r10.1]
    obtain rfl := Option.some.inj h
    exact J_iretW hx hr hW13 dX13_send_31 (Nat.le_refl 0) (Nat.le_refl 0)
  · replace h := neg h h5
    refine J_iconst hx (0 : Int32) dX13_send_18 rfl ?_
    obtain rfl := Option.some.inj h
    exact J_iretW hx hr hW4 dX13_send_19 (Nat.le_refl 0) (Nat.le_refl 0)
theorem dX13_arrives_0 : decode cX13_arrives 0 = .ok (.iconst 0, 1) := by decide +kernel
theorem dX13_arrives_1 : decode cX13_arrives 1 = .ok (.istore_n 2, 1) := by decide +kernel
theorem dX13_arrives_2 : decode cX13_arrives 2 = .ok (.iload_n 2, 1) := by decide +kernel
theorem dX13_arrives_3 : decode cX13_arrives 3 = .ok (.aload_n 0, 1) := by decide +kernel
theorem dX13_arrives_4 : decode cX13_arrives 4 = .ok (.getfield 7, 3) := by decide +kernel
theorem dX13_arrives_7 : decode cX13_arrives 7 = .ok (.iconst 4, 1) := by decide +kernel
theorem dX13_arrives_8 : decode cX13_arrives 8 = .ok (.iaload, 1) := by decide +kernel
theorem dX13_arrives_9 : decode cX13_arrives 9 = .ok (.if_icmp .ge 60, 3) := by decide +kernel
theorem dX13_arrives_12 : decode cX13_arrives 12 = .ok (.aload_n 0, 1) := by decide +kernel
theorem dX13_arrives_13 : decode cX13_arrives 13 = .ok (.getfield 7, 3) := by decide +kernel
theorem dX13_arrives_16 : decode cX13_arrives 16 = .ok (.sipush 137, 3) := by decide +kernel
theorem dX13_arrives_19 : decode cX13_arrives 19 = .ok (.iconst 2, 1) := by decide +kernel
theorem dX13_arrives_20 : decode cX13_arrives 20 = .ok (.iload_n 2, 1) := by decide +kernel
theorem dX13_arrives_21 : decode cX13_arrives 21 = .ok (.imul, 1) := by decide +kernel
theorem dX13_arrives_22 : decode cX13_arrives 22 = .ok (.iadd, 1) := by decide +kernel
theorem dX13_arrives_23 : decode cX13_arrives 23 = .ok (.iconst 1, 1) := by decide +kernel
theorem dX13_arrives_24 : decode cX13_arrives 24 = .ok (.iadd, 1) := by decide +kernel
theorem dX13_arrives_25 : decode cX13_arrives 25 = .ok (.iaload, 1) := by decide +kernel
theorem dX13_arrives_26 : decode cX13_arrives 26 = .ok (.iload_n 1, 1) := by decide +kernel
theorem dX13_arrives_27 : decode cX13_arrives 27 = .ok (.if_icmp .ne 36, 3) := by decide +kernel
theorem dX13_arrives_30 : decode cX13_arrives 30 = .ok (.aload_n 0, 1) := by decide +kernel
theorem dX13_arrives_31 : decode cX13_arrives 31 = .ok (.getfield 7, 3) := by decide +kernel
theorem dX13_arrives_34 : decode cX13_arrives 34 = .ok (.sipush 137, 3) := by decide +kernel
theorem dX13_arrives_37 : decode cX13_arrives 37 = .ok (.iconst 2, 1) := by decide +kernel
theorem dX13_arrives_38 : decode cX13_arrives 38 = .ok (.iload_n 2, 1) := by decide +kernel
theorem dX13_arrives_39 : decode cX13_arrives 39 = .ok (.imul, 1) := by decide +kernel
theorem dX13_arrives_40 : decode cX13_arrives 40 = .ok (.iadd, 1) := by decide +kernel
theorem dX13_arrives_41 : decode cX13_arrives 41 = .ok (.aload_n 0, 1) := by decide +kernel
theorem dX13_arrives_42 : decode cX13_arrives 42 = .ok (.iload_n 1, 1) := by decide +kernel
theorem dX13_arrives_43 : decode cX13_arrives 43 = .ok (.iconst 4, 1) := by decide +kernel
theorem dX13_arrives_44 : decode cX13_arrives 44 = .ok (.invokevirtual 36, 3) := by decide +kernel
theorem dX13_arrives_47 : decode cX13_arrives 47 = .ok (.iastore, 1) := by decide +kernel
theorem dX13_arrives_48 : decode cX13_arrives 48 = .ok (.aload_n 0, 1) := by decide +kernel
theorem dX13_arrives_49 : decode cX13_arrives 49 = .ok (.getfield 7, 3) := by decide +kernel
theorem dX13_arrives_52 : decode cX13_arrives 52 = .ok (.sipush 137, 3) := by decide +kernel
theorem dX13_arrives_55 : decode cX13_arrives 55 = .ok (.iconst 2, 1) := by decide +kernel
theorem dX13_arrives_56 : decode cX13_arrives 56 = .ok (.iload_n 2, 1) := by decide +kernel
theorem dX13_arrives_57 : decode cX13_arrives 57 = .ok (.imul, 1) := by decide +kernel
theorem dX13_arrives_58 : decode cX13_arrives 58 = .ok (.iadd, 1) := by decide +kernel
theorem dX13_arrives_59 : decode cX13_arrives 59 = .ok (.iconst 1, 1) := by decide +kernel
theorem dX13_arrives_60 : decode cX13_arrives 60 = .ok (.iadd, 1) := by decide +kernel
theorem dX13_arrives_61 : decode cX13_arrives 61 = .ok (.iconst (-1), 1) := by decide +kernel
theorem dX13_arrives_62 : decode cX13_arrives 62 = .ok (.iastore, 1) := by decide +kernel
theorem dX13_arrives_63 : decode cX13_arrives 63 = .ok (.iinc 2 1, 3) := by decide +kernel
theorem dX13_arrives_66 : decode cX13_arrives 66 = .ok (.goto (-64), 3) := by decide +kernel
theorem dX13_arrives_69 : decode cX13_arrives 69 = .ok (.iconst 0, 1) := by decide +kernel
theorem dX13_arrives_70 : decode cX13_arrives 70 = .ok (.istore_n 2, 1) := by decide +kernel
theorem dX13_arrives_71 : decode cX13_arrives 71 = .ok (.iload_n 2, 1) := by decide +kernel
theorem dX13_arrives_72 : decode cX13_arrives 72 = .ok (.aload_n 0, 1) := by decide +kernel
theorem dX13_arrives_73 : decode cX13_arrives 73 = .ok (.getfield 7, 3) := by decide +kernel
theorem dX13_arrives_76 : decode cX13_arrives 76 = .ok (.iconst 3, 1) := by decide +kernel
theorem dX13_arrives_77 : decode cX13_arrives 77 = .ok (.iaload, 1) := by decide +kernel
theorem dX13_arrives_78 : decode cX13_arrives 78 = .ok (.if_icmp .ge 41, 3) := by decide +kernel
theorem dX13_arrives_81 : decode cX13_arrives 81 = .ok (.aload_n 0, 1) := by decide +kernel
theorem dX13_arrives_82 : decode cX13_arrives 82 = .ok (.iload_n 2, 1) := by decide +kernel
theorem dX13_arrives_83 : decode cX13_arrives 83 = .ok (.iconst 2, 1) := by decide +kernel
theorem dX13_arrives_84 : decode cX13_arrives 84 = .ok (.aload_n 0, 1) := by decide +kernel
theorem dX13_arrives_85 : decode cX13_arrives 85 = .ok (.iload_n 2, 1) := by decide +kernel
theorem dX13_arrives_86 : decode cX13_arrives 86 = .ok (.iconst 2, 1) := by decide +kernel
theorem dX13_arrives_87 : decode cX13_arrives 87 = .ok (.invokevirtual 51, 3) := by decide +kernel
theorem dX13_arrives_90 : decode cX13_arrives 90 = .ok (.aload_n 0, 1) := by decide +kernel
theorem dX13_arrives_91 : decode cX13_arrives 91 = .ok (.aload_n 0, 1) := by decide +kernel
theorem dX13_arrives_92 : decode cX13_arrives 92 = .ok (.iload_n 2, 1) := by decide +kernel
theorem dX13_arrives_93 : decode cX13_arrives 93 = .ok (.iconst 4, 1) := by decide +kernel
theorem dX13_arrives_94 : decode cX13_arrives 94 = .ok (.invokevirtual 51, 3) := by decide +kernel
theorem dX13_arrives_97 : decode cX13_arrives 97 = .ok (.iload_n 1, 1) := by decide +kernel
theorem dX13_arrives_98 : decode cX13_arrives 98 = .ok (.invokevirtual 54, 3) := by decide +kernel
theorem dX13_arrives_101 : decode cX13_arrives 101 = .ok (.ifCond .eq 7, 3) := by decide +kernel
theorem dX13_arrives_104 : decode cX13_arrives 104 = .ok (.iconst 1, 1) := by decide +kernel
theorem dX13_arrives_105 : decode cX13_arrives 105 = .ok (.goto 4, 3) := by decide +kernel
theorem dX13_arrives_108 : decode cX13_arrives 108 = .ok (.iconst 0, 1) := by decide +kernel
theorem dX13_arrives_109 : decode cX13_arrives 109 = .ok (.isub, 1) := by decide +kernel
theorem dX13_arrives_110 : decode cX13_arrives 110 = .ok (.invokevirtual 79, 3) := by decide +kernel
theorem dX13_arrives_113 : decode cX13_arrives 113 = .ok (.iinc 2 1, 3) := by decide +kernel
theorem dX13_arrives_116 : decode cX13_arrives 116 = .ok (.goto (-45), 3) := by decide +kernel
theorem dX13_arrives_119 : decode cX13_arrives 119 = .ok (.aload_n 0, 1) := by decide +kernel
theorem dX13_arrives_120 : decode cX13_arrives 120 = .ok (.iload_n 1, 1) := by decide +kernel
theorem dX13_arrives_121 : decode cX13_arrives 121 = .ok (.iconst 3, 1) := by decide +kernel
theorem dX13_arrives_122 : decode cX13_arrives 122 = .ok (.aload_n 0, 1) := by decide +kernel
theorem dX13_arrives_123 : decode cX13_arrives 123 = .ok (.iload_n 1, 1) := by decide +kernel
theorem dX13_arrives_124 : decode cX13_arrives 124 = .ok (.iconst 4, 1) := by decide +kernel
theorem dX13_arrives_125 : decode cX13_arrives 125 = .ok (.invokevirtual 36, 3) := by decide +kernel
theorem dX13_arrives_128 : decode cX13_arrives 128 = .ok (.invokevirtual 74, 3) := by decide +kernel
theorem dX13_arrives_131 : decode cX13_arrives 131 = .ok (.aload_n 0, 1) := by decide +kernel
theorem dX13_arrives_132 : decode cX13_arrives 132 = .ok (.iload_n 1, 1) := by decide +kernel
theorem dX13_arrives_133 : decode cX13_arrives 133 = .ok (.iconst 4, 1) := by decide +kernel
theorem dX13_arrives_134 : decode cX13_arrives 134 = .ok (.iconst (-1), 1) := by decide +kernel
theorem dX13_arrives_135 : decode cX13_arrives 135 = .ok (.invokevirtual 74, 3) := by decide +kernel
theorem dX13_arrives_138 : decode cX13_arrives 138 = .ok (.aload_n 0, 1) := by decide +kernel
theorem dX13_arrives_139 : decode cX13_arrives 139 = .ok (.iload_n 1, 1) := by decide +kernel
theorem dX13_arrives_140 : decode cX13_arrives 140 = .ok (.iconst 5, 1) := by decide +kernel
theorem dX13_arrives_141 : decode cX13_arrives 141 = .ok (.iconst (-1), 1) := by decide +kernel
theorem dX13_arrives_142 : decode cX13_arrives 142 = .ok (.invokevirtual 74, 3) := by decide +kernel
theorem dX13_arrives_145 : decode cX13_arrives 145 = .ok (.aload_n 0, 1) := by decide +kernel
theorem dX13_arrives_146 : decode cX13_arrives 146 = .ok (.iload_n 1, 1) := by decide +kernel
theorem dX13_arrives_147 : decode cX13_arrives 147 = .ok (.bipush 8, 2) := by decide +kernel
theorem dX13_arrives_149 : decode cX13_arrives 149 = .ok (.aload_n 0, 1) := by decide +kernel
theorem dX13_arrives_150 : decode cX13_arrives 150 = .ok (.getfield 7, 3) := by decide +kernel
theorem dX13_arrives_153 : decode cX13_arrives 153 = .ok (.iconst 0, 1) := by decide +kernel
theorem dX13_arrives_154 : decode cX13_arrives 154 = .ok (.iaload, 1) := by decide +kernel
theorem dX13_arrives_155 : decode cX13_arrives 155 = .ok (.invokevirtual 74, 3) := by decide +kernel
theorem dX13_arrives_158 : decode cX13_arrives 158 = .ok (.aload_n 0, 1) := by decide +kernel
theorem dX13_arrives_159 : decode cX13_arrives 159 = .ok (.getfield 7, 3) := by decide +kernel
theorem dX13_arrives_162 : decode cX13_arrives 162 = .ok (.bipush 7, 2) := by decide +kernel
theorem dX13_arrives_164 : decode cX13_arrives 164 = .ok (.dup2, 1) := by decide +kernel
theorem dX13_arrives_165 : decode cX13_arrives 165 = .ok (.iaload, 1) := by decide +kernel
theorem dX13_arrives_166 : decode cX13_arrives 166 = .ok (.iconst 1, 1) := by decide +kernel
theorem dX13_arrives_167 : decode cX13_arrives 167 = .ok (.iadd, 1) := by decide +kernel
theorem dX13_arrives_168 : decode cX13_arrives 168 = .ok (.iastore, 1) := by decide +kernel
theorem dX13_arrives_169 : decode cX13_arrives 169 = .ok (.return_, 1) := by decide +kernel
def sX13_arrives_71 : Nat → Wl → Int32 → Int32 → Option Wl
  | 0, _, _, _ => none
  | n + 1, w, l1, l2 => (if (w 372 3) ≤ l2 then (sX13_of w l1 (4 : Int32)).bind (fun r2 => (sX13_put w l1 (3 : Int32) r2).bind (fun r4 => (sX13_put r4 l1 (4 : Int32) (-1 : Int32)).bind (fun r8 => (sX13_put r8 l1 (5 : Int32) (-1 : Int32)).bind (fun r12 => (sX13_put r12 l1 (8 : Int32) (r12 372 0)).bind (fun r16 => some (wst r16 372 7 ((r16 372 7) + (1 : Int32)))))))) else (sX13_ofWork w l2 (2 : Int32)).bind (fun r22 => (sX13_ofWork w l2 (4 : Int32)).bind (fun r24 => (sX13_isWithin w r24 l1).bind (fun r26 => (if r26 = true then (sX13_putWork w l2 (2 : Int32) (r22 - (1 : Int32))).bind (fun r33 => sX13_arrives_71 n r33 l1 (l2 + 1)) else (sX13_putWork w l2 (2 : Int32) (r22 - (0 : Int32))).bind (fun r29 => sX13_arrives_71 n r29 l1 (l2 + 1)))))))
theorem tX13_arrives_71 {X : Cx} {B : Bs} {sz : Nat} {r : Wl} (hx : Fx X cX13_arrives 3 RX13 2 0 0) (hr : Rt X none 0 0 (WΨ (xΓ X) B none r sz)) : ∀ (n : Nat), ∀ (w : Wl) (l1 : Int32) (l2 : Int32) {G : Gf} (hW : Wd (xΓ X) B w G) (h : sX13_arrives_71 n w l1 l2 = some r), J X 3 G sz 0 0 71 [some (.ref (B.1 + 371)), some (.int l1), some (.int l2)] [] := by
  intro n
  induction n with
  | zero => intro w l1 l2 G hW h; rw [sX13_arrives_71.eq_1] at h; cases h
  | succ n ih =>
    intro w l1 l2 G hW h
    rw [sX13_arrives_71.eq_2] at h
    refine J_il4 hx rfl rfl dX13_arrives_71 ?_
    refine J_al4 hx rfl rfl dX13_arrives_72 ?_
    refine g13_0 hx hW 372 (rfl : kd 371 = 19) fl_X13_7 rfl dX13_arrives_73 ?_
    refine J_iconst hx (3 : Int32) dX13_arrives_76 rfl ?_
    refine J_iaW hx hW (rfl : kd 372 = 641) (by decide +kernel : idx (3 : Int32) 541 = some 3) dX13_arrives_77 ?_
    refine J_icmp_ge hx 119 dX13_arrives_78 rfl (fun h1 => ?_) (fun h1 => ?_)
    · replace h := pos h h1
      refine J_al4 hx rfl rfl dX13_arrives_119 ?_
      refine J_il4 hx rfl rfl dX13_arrives_120 ?_
      refine J_iconst hx (3 : Int32) dX13_arrives_121 rfl ?_
      refine J_al4 hx rfl rfl dX13_arrives_122 ?_
      refine J_il4 hx rfl rfl dX13_arrives_123 ?_
      refine J_iconst hx (4 : Int32) dX13_arrives_124 rfl ?_
      obtain ⟨r2, hr3, h⟩ := bnd h
      refine J_rdV hx (kX13_of  hW hr3) ml_X13_36 lk_X13_of (ci := 11) rfl (hW.obj (rfl : kd 371 = 19) (by decide) (by decide)) (rest := [.int (3 : Int32), .int l1, .ref (B.1 + 371)]) rfl rfl (by decide) (by decide) (Nat.le_of_ble_eq_true rfl) (Nat.le_refl 0) (Nat.le_refl 0) dX13_arrives_125 ?_
      obtain ⟨r4, hr5, h⟩ := bnd h
      refine J_wrV hx (kX13_put  hW hr5) ml_X13_74 lk_X13_put (ci := 11) rfl (hW.obj (rfl : kd 371 = 19) (by decide) (by decide)) (rest := []) rfl rfl (by decide) (by decide) (Nat.le_of_ble_eq_true rfl) (Nat.le_refl 0) (Nat.le_refl 0) dX13_arrives_128 fun G6 hW7 => ?_
      show J X 3 G6 sz 0 0 131 [some (.ref (B.1 + 371)), some (.int l1), some (.int l2)] []
      refine J_al4 hx rfl rfl dX13_arrives_131 ?_
      refine J_il4 hx rfl rfl dX13_arrives_132 ?_
      refine J_iconst hx (4 : Int32) dX13_arrives_133 rfl ?_
      refine J_iconst hx (-1 : Int32) dX13_arrives_134 rfl ?_
      obtain ⟨r8, hr9, h⟩ := bnd h
      refine J_wrV hx (kX13_put  hW7 hr9) ml_X13_74 lk_X13_put (ci := 11) rfl (hW7.obj (rfl : kd 371 = 19) (by decide) (by decide)) (rest := []) rfl rfl (by decide) (by decide) (Nat.le_of_ble_eq_true rfl) (Nat.le_refl 0) (Nat.le_refl 0) dX13_arrives_135 fun G10 hW11 => ?_
      show J X 3 G10 sz 0 0 138 [some (.ref (B.1 + 371)), some (.int l1), some (.int l2)] []
      refine J_al4 hx rfl rfl dX13_arrives_138 ?_
      refine J_il4 hx rfl rfl dX13_arrives_139 ?_
      refine J_iconst hx (5 : Int32) dX13_arrives_140 rfl ?_
      refine J_iconst hx (-1 : Int32) dX13_arrives_141 rfl ?_
      obtain ⟨r12, hr13, h⟩ := bnd h
      refine J_wrV hx (kX13_put  hW11 hr13) ml_X13_74 lk_X13_put (ci := 11) rfl (hW11.obj (rfl : kd 371 = 19) (by decide) (by decide)) (rest := []) rfl rfl (by decide) (by decide) (Nat.le_of_ble_eq_true rfl) (Nat.le_refl 0) (Nat.le_refl 0) dX13_arrives_142 fun G14 hW15 => ?_
      show J X 3 G14 sz 0 0 145 [some (.ref (B.1 + 371)), some (.int l1), some (.int l2)] []
      refine J_al4 hx rfl rfl dX13_arrives_145 ?_
      refine J_il4 hx rfl rfl dX13_arrives_146 ?_
      refine J_bipush hx (8 : Int32) dX13_arrives_147 rfl ?_
      refine J_al4 hx rfl rfl dX13_arrives_149 ?_
      refine g13_0 hx hW15 372 (rfl : kd 371 = 19) fl_X13_7 rfl dX13_arrives_150 ?_
      refine J_iconst hx (0 : Int32) dX13_arrives_153 rfl ?_
      refine J_iaW hx hW15 (rfl : kd 372 = 641) (by decide +kernel : idx (0 : Int32) 541 = some 0) dX13_arrives_154 ?_
      obtain ⟨r16, hr17, h⟩ := bnd h
      refine J_wrV hx (kX13_put  hW15 hr17) ml_X13_74 lk_X13_put (ci := 11) rfl (hW15.obj (rfl : kd 371 = 19) (by decide) (by decide)) (rest := []) rfl rfl (by decide) (by decide) (Nat.le_of_ble_eq_true rfl) (Nat.le_refl 0) (Nat.le_refl 0) dX13_arrives_155 fun G18 hW19 => ?_
      show J X 3 G18 sz 0 0 158 [some (.ref (B.1 + 371)), some (.int l1), some (.int l2)] []
      refine J_al4 hx rfl rfl dX13_arrives_158 ?_
      refine g13_0 hx hW19 372 (rfl : kd 371 = 19) fl_X13_7 rfl dX13_arrives_159 ?_
      refine J_bipush hx (7 : Int32) dX13_arrives_162 rfl ?_
      refine J_dup2 hx dX13_arrives_164 ?_
      refine J_iaW hx hW19 (rfl : kd 372 = 641) (by decide +kernel : idx (7 : Int32) 541 = some 7) dX13_arrives_165 ?_
      refine J_iconst hx (1 : Int32) dX13_arrives_166 rfl ?_
      refine J_iadd hx dX13_arrives_167 ?_
      refine J_iaS hx hW19 (rfl : kd 372 = 641) (by decide +kernel : idx (7 : Int32) 541 = some 7) dX13_arrives_168 fun G20 hW21 => ?_
      obtain rfl := Option.some.inj h
      exact J_vretW hx hr hW21 dX13_arrives_169 (Nat.le_refl 0) (Nat.le_refl 0)
    · replace h := neg h h1
      refine J_al4 hx rfl rfl dX13_arrives_81 ?_
      refine J_il4 hx rfl rfl dX13_arrives_82 ?_
      refine J_iconst hx (2 : Int32) dX13_arrives_83 rfl ?_
      refine J_al4 hx rfl rfl dX13_arrives_84 ?_
      refine J_il4 hx rfl rfl dX13_arrives_85 ?_
      refine J_iconst hx (2 : Int32) dX13_arrives_86 rfl ?_
      obtain ⟨r22, hr23, h⟩ := bnd h
      refine J_rdV hx (kX13_ofWork  hW hr23) ml_X13_51 lk_X13_ofWork (ci := 11) rfl (hW.obj (rfl : kd 371 = 19) (by decide) (by decide)) (rest := [.int (2 : Int32), .int l2, .ref (B.1 + 371)]) rfl rfl (by decide) (by decide) (Nat.le_of_ble_eq_true rfl) (Nat.le_refl 0) (Nat.le_refl 0) dX13_arrives_87 ?_
      refine J_al4 hx rfl rfl dX13_arrives_90 ?_
      refine J_al4 hx rfl rfl dX13_arrives_91 ?_
      refine J_il4 hx rfl rfl dX13_arrives_92 ?_
      refine J_iconst hx (4 : Int32) dX13_arrives_93 rfl ?_
      obtain ⟨r24, hr25, h⟩ := bnd h
      refine J_rdV hx (kX13_ofWork  hW hr25) ml_X13_51 lk_X13_ofWork (ci := 11) rfl (hW.obj (rfl : kd 371 = 19) (by decide) (by decide)) (rest := [.ref (B.1 + 371), .int r22, .int (2 : Int32), .int l2, .ref (B.1 + 371)]) rfl rfl (by decide) (by decide) (Nat.le_of_ble_eq_true rfl) (Nat.le_refl 0) (Nat.le_refl 0) dX13_arrives_94 ?_
      refine J_il4 hx rfl rfl dX13_arrives_97 ?_
      obtain ⟨r26, hr27, h⟩ := bnd h
      refine J_rdV hx (kX13_isWithin  hW hr27) ml_X13_54 lk_X13_isWithin (ci := 11) rfl (hW.obj (rfl : kd 371 = 19) (by decide) (by decide)) (rest := [.int r22, .int (2 : Int32), .int l2, .ref (B.1 + 371)]) rfl rfl (by decide) (by decide) (Nat.le_of_ble_eq_true rfl) (Nat.le_refl 0) (Nat.le_refl 0) dX13_arrives_98 ?_
      refine J_bif_eq hx 108 dX13_arrives_101 rfl (fun h28 => ?_) (fun h28 => ?_)
      · replace h := neg h (bft h28)
        refine J_iconst hx (0 : Int32) dX13_arrives_108 rfl ?_
        refine J_isub hx dX13_arrives_109 ?_
        obtain ⟨r29, hr30, h⟩ := bnd h
        refine J_wrV hx (kX13_putWork  hW hr30) ml_X13_79 lk_X13_putWork (ci := 11) rfl (hW.obj (rfl : kd 371 = 19) (by decide) (by decide)) (rest := []) rfl rfl (by decide) (by decide) (Nat.le_of_ble_eq_true rfl) (Nat.le_refl 0) (Nat.le_refl 0) dX13_arrives_110 fun G31 hW32 => ?_
        show J X 3 G31 sz 0 0 113 [some (.ref (B.1 + 371)), some (.int l1), some (.int l2)] []
        refine J_iinc hx (v' := (l2 + 1)) rfl rfl (by decide) (hc_of rfl) rfl dX13_arrives_113 ?_
        refine J_goto hx 71 dX13_arrives_116 rfl ?_
        exact ih _ _ _  hW32 h
      · replace h := pos h h28
        refine J_iconst hx (1 : Int32) dX13_arrives_104 rfl ?_
        refine J_goto hx 109 dX13_arrives_105 rfl ?_
        refine J_isub hx dX13_arrives_109 ?_
        obtain ⟨r33, hr34, h⟩ := bnd h
        refine J_wrV hx (kX13_putWork  hW hr34) ml_X13_79 lk_X13_putWork (ci := 11) rfl (hW.obj (rfl : kd 371 = 19) (by decide) (by decide)) (rest := []) rfl rfl (by decide) (by decide) (Nat.le_of_ble_eq_true rfl) (Nat.le_refl 0) (Nat.le_refl 0) dX13_arrives_110 fun G35 hW36 => ?_
        show J X 3 G35 sz 0 0 113 [some (.ref (B.1 + 371)), some (.int l1), some (.int l2)] []
        refine J_iinc hx (v' := (l2 + 1)) rfl rfl (by decide) (hc_of rfl) rfl dX13_arrives_113 ?_
        refine J_goto hx 71 dX13_arrives_116 rfl ?_
        exact ih _ _ _  hW36 h
def sX13_arrives_2 : Nat → Wl → Int32 → Int32 → Option Wl
  | 0, _, _, _ => none
  | n + 1, w, l1, l2 => (if (w 372 4) ≤ l2 then sX13_arrives_71 FU w l1 (0 : Int32) else (idx (((137 : Int32) + ((2 : Int32) * l2)) + (1 : Int32)) 541).bind (fun c2 => (if (w 372 c2) = l1 then (sX13_of w l1 (4 : Int32)).bind (fun r5 => (idx ((137 : Int32) + ((2 : Int32) * l2)) 541).bind (fun c7 => sX13_arrives_2 n (wst (wst w 372 c7 r5) 372 c2 (-1 : Int32)) l1 (l2 + 1))) else sX13_arrives_2 n w l1 (l2 + 1))))
theorem tX13_arrives_2 {X : Cx} {B : Bs} {sz : Nat} {r : Wl} (hx : Fx X cX13_arrives 3 RX13 2 0 0) (hr : Rt X none 0 0 (WΨ (xΓ X) B none r sz)) : ∀ (n : Nat), ∀ (w : Wl) (l1 : Int32) (l2 : Int32) {G : Gf} (hW : Wd (xΓ X) B w G) (h : sX13_arrives_2 n w l1 l2 = some r), J X 3 G sz 0 0 2 [some (.ref (B.1 + 371)), some (.int l1), some (.int l2)] [] := by
  intro n
  induction n with
  | zero => intro w l1 l2 G hW h; rw [sX13_arrives_2.eq_1] at h; cases h
  | succ n ih =>
    intro w l1 l2 G hW h
    rw [sX13_arrives_2.eq_2] at h
    refine J_il4 hx rfl rfl dX13_arrives_2 ?_
    refine J_al4 hx rfl rfl dX13_arrives_3 ?_
    refine g13_0 hx hW 372 (rfl : kd 371 = 19) fl_X13_7 rfl dX13_arrives_4 ?_
    refine J_iconst hx (4 : Int32) dX13_arrives_7 rfl ?_
    refine J_iaW hx hW (rfl : kd 372 = 641) (by decide +kernel : idx (4 : Int32) 541 = some 4) dX13_arrives_8 ?_
    refine J_icmp_ge hx 69 dX13_arrives_9 rfl (fun h1 => ?_) (fun h1 => ?_)
    · replace h := pos h h1
      refine J_iconst hx (0 : Int32) dX13_arrives_69 rfl ?_
      refine J_is4 hx rfl (by decide) (hc_of rfl) rfl dX13_arrives_70 ?_
      exact tX13_arrives_71 hx hr _ _ _ _  hW h
    · replace h := neg h h1
      refine J_al4 hx rfl rfl dX13_arrives_12 ?_
      refine g13_0 hx hW 372 (rfl : kd 371 = 19) fl_X13_7 rfl dX13_arrives_13 ?_
      refine J_sipush hx (137 : Int32) dX13_arrives_16 rfl ?_
      refine J_iconst hx (2 : Int32) dX13_arrives_19 rfl ?_
      refine J_il4 hx rfl rfl dX13_arrives_20 ?_
      refine J_imul hx dX13_arrives_21 ?_
      refine J_iadd hx dX13_arrives_22 ?_
      refine J_iconst hx (1 : Int32) dX13_arrives_23 rfl ?_
      refine J_iadd hx dX13_arrives_24 ?_
      obtain ⟨c2, hc3, h⟩ := bnd h
      refine J_iaW hx hW (rfl : kd 372 = 641) hc3 dX13_arrives_25 ?_
      refine J_il4 hx rfl rfl dX13_arrives_26 ?_
      refine J_icmp_ne hx 63 dX13_arrives_27 rfl (fun h4 => ?_) (fun h4 => ?_)
      · replace h := neg h h4
        refine J_iinc hx (v' := (l2 + 1)) rfl rfl (by decide) (hc_of rfl) rfl dX13_arrives_63 ?_
        refine J_goto hx 2 dX13_arrives_66 rfl ?_
        exact ih _ _ _  hW h
      · replace h := pos h h4
        refine J_al4 hx rfl rfl dX13_arrives_30 ?_
        refine g13_0 hx hW 372 (rfl : kd 371 = 19) fl_X13_7 rfl dX13_arrives_31 ?_
        refine J_sipush hx (137 : Int32) dX13_arrives_34 rfl ?_
        refine J_iconst hx (2 : Int32) dX13_arrives_37 rfl ?_
        refine J_il4 hx rfl rfl dX13_arrives_38 ?_
        refine J_imul hx dX13_arrives_39 ?_
        refine J_iadd hx dX13_arrives_40 ?_
        refine J_al4 hx rfl rfl dX13_arrives_41 ?_
        refine J_il4 hx rfl rfl dX13_arrives_42 ?_
        refine J_iconst hx (4 : Int32) dX13_arrives_43 rfl ?_
        obtain ⟨r5, hr6, h⟩ := bnd h
        refine J_rdV hx (kX13_of  hW hr6) ml_X13_36 lk_X13_of (ci := 11) rfl (hW.obj (rfl : kd 371 = 19) (by decide) (by decide)) (rest := [.int ((137 : Int32) + ((2 : Int32) * l2)), .ref (B.1 + 372)]) rfl rfl (by decide) (by decide) (Nat.le_of_ble_eq_true rfl) (Nat.le_refl 0) (Nat.le_refl 0) dX13_arrives_44 ?_
        obtain ⟨c7, hc8, h⟩ := bnd h
        refine J_iaS hx hW (rfl : kd 372 = 641) hc8 dX13_arrives_47 fun G9 hW10 => ?_
        refine J_al4 hx rfl rfl dX13_arrives_48 ?_
        refine g13_0 hx hW10 372 (rfl : kd 371 = 19) fl_X13_7 rfl dX13_arrives_49 ?_
        refine J_sipush hx (137 : Int32) dX13_arrives_52 rfl ?_
        refine J_iconst hx (2 : Int32) dX13_arrives_55 rfl ?_
        refine J_il4 hx rfl rfl dX13_arrives_56 ?_
        refine J_imul hx dX13_arrives_57 ?_
        refine J_iadd hx dX13_arrives_58 ?_
        refine J_iconst hx (1 : Int32) dX13_arrives_59 rfl ?_
        refine J_iadd hx dX13_arrives_60 ?_
        refine J_iconst hx (-1 : Int32) dX13_arrives_61 rfl ?_
        refine J_iaS hx hW10 (rfl : kd 372 = 641) hc3 dX13_arrives_62 fun G11 hW12 => ?_
        refine J_iinc hx (v' := (l2 + 1)) rfl rfl (by decide) (hc_of rfl) rfl dX13_arrives_63 ?_
        refine J_goto hx 2 dX13_arrives_66 rfl ?_
        exact ih _ _ _  hW12 h
def sX13_arrives (w : Wl) (l1 : Int32) : Option Wl := sX13_arrives_2 FU w l1 (0 : Int32)
theorem kX13_arrives {l : Launch} {Γ : Gl} {B : Bs} {w : Wl} {G : Gf} {sz : Nat} {l1 : Int32} {r : Wl} (hW : Wd Γ B w G) (h : sX13_arrives w l1 = some r) : CtW l Γ yX13_arrives cX13_arrives 3 none 2 [.ref (B.1 + 371), .int l1] G sz B none r := by
  refine Ct.of rfl (Nat.le_of_ble_eq_true rfl) fun X hx hr hl hΓ hnm => ?_
  subst hl hΓ
  show J X 3 G sz 0 0 0 [some (.ref (B.1 + 371)), some (.int l1), none] []
  unfold sX13_arrives at h
  refine J_iconst hx (0 : Int32) dX13_arrives_0 rfl ?_
  refine J_is4 hx rfl (by decide) (hc_of rfl) rfl dX13_arrives_1 ?_
  exact tX13_arrives_2 hx hr _ _ _ _  hW h
theorem dX13_note_0 : decode cX13_note 0 = .ok (.sipush 253, 3) := by decide +kernel
theorem dX13_note_3 : decode cX13_note 3 = .ok (.bipush 18, 2) := by decide +kernel
theorem dX13_note_5 : decode cX13_note 5 = .ok (.iload_n 1, 1) := by decide +kernel
theorem dX13_note_6 : decode cX13_note 6 = .ok (.imul, 1) := by decide +kernel
theorem dX13_note_7 : decode cX13_note 7 = .ok (.iadd, 1) := by decide +kernel
theorem dX13_note_8 : decode cX13_note 8 = .ok (.bipush 8, 2) := by decide +kernel
theorem dX13_note_10 : decode cX13_note 10 = .ok (.iadd, 1) := by decide +kernel
theorem dX13_note_11 : decode cX13_note 11 = .ok (.istore_n 3, 1) := by decide +kernel
theorem dX13_note_12 : decode cX13_note 12 = .ok (.bipush 9, 2) := by decide +kernel
theorem dX13_note_14 : decode cX13_note 14 = .ok (.istore 4, 2) := by decide +kernel
theorem dX13_note_16 : decode cX13_note 16 = .ok (.iload 4, 2) := by decide +kernel
theorem dX13_note_18 : decode cX13_note 18 = .ok (.ifCond .le 29, 3) := by decide +kernel
theorem dX13_note_21 : decode cX13_note 21 = .ok (.aload_n 0, 1) := by decide +kernel
theorem dX13_note_22 : decode cX13_note 22 = .ok (.getfield 7, 3) := by decide +kernel
theorem dX13_note_25 : decode cX13_note 25 = .ok (.iload_n 3, 1) := by decide +kernel
theorem dX13_note_26 : decode cX13_note 26 = .ok (.iload 4, 2) := by decide +kernel
theorem dX13_note_28 : decode cX13_note 28 = .ok (.iadd, 1) := by decide +kernel
theorem dX13_note_29 : decode cX13_note 29 = .ok (.aload_n 0, 1) := by decide +kernel
theorem dX13_note_30 : decode cX13_note 30 = .ok (.getfield 7, 3) := by decide +kernel
theorem dX13_note_33 : decode cX13_note 33 = .ok (.iload_n 3, 1) := by decide +kernel
theorem dX13_note_34 : decode cX13_note 34 = .ok (.iload 4, 2) := by decide +kernel
theorem dX13_note_36 : decode cX13_note 36 = .ok (.iadd, 1) := by decide +kernel
theorem dX13_note_37 : decode cX13_note 37 = .ok (.iconst 1, 1) := by decide +kernel
theorem dX13_note_38 : decode cX13_note 38 = .ok (.isub, 1) := by decide +kernel
theorem dX13_note_39 : decode cX13_note 39 = .ok (.iaload, 1) := by decide +kernel
theorem dX13_note_40 : decode cX13_note 40 = .ok (.iastore, 1) := by decide +kernel
theorem dX13_note_41 : decode cX13_note 41 = .ok (.iinc 4 (-1), 3) := by decide +kernel
theorem dX13_note_44 : decode cX13_note 44 = .ok (.goto (-28), 3) := by decide +kernel
theorem dX13_note_47 : decode cX13_note 47 = .ok (.aload_n 0, 1) := by decide +kernel
theorem dX13_note_48 : decode cX13_note 48 = .ok (.getfield 7, 3) := by decide +kernel
theorem dX13_note_51 : decode cX13_note 51 = .ok (.iload_n 3, 1) := by decide +kernel
theorem dX13_note_52 : decode cX13_note 52 = .ok (.iload_n 2, 1) := by decide +kernel
theorem dX13_note_53 : decode cX13_note 53 = .ok (.iastore, 1) := by decide +kernel
theorem dX13_note_54 : decode cX13_note 54 = .ok (.aload_n 0, 1) := by decide +kernel
theorem dX13_note_55 : decode cX13_note 55 = .ok (.iload_n 1, 1) := by decide +kernel
theorem dX13_note_56 : decode cX13_note 56 = .ok (.bipush 7, 2) := by decide +kernel
theorem dX13_note_58 : decode cX13_note 58 = .ok (.aload_n 0, 1) := by decide +kernel
theorem dX13_note_59 : decode cX13_note 59 = .ok (.iload_n 1, 1) := by decide +kernel
theorem dX13_note_60 : decode cX13_note 60 = .ok (.bipush 7, 2) := by decide +kernel
theorem dX13_note_62 : decode cX13_note 62 = .ok (.invokevirtual 51, 3) := by decide +kernel
theorem dX13_note_65 : decode cX13_note 65 = .ok (.bipush 10, 2) := by decide +kernel
theorem dX13_note_67 : decode cX13_note 67 = .ok (.if_icmp .ne 8, 3) := by decide +kernel
theorem dX13_note_70 : decode cX13_note 70 = .ok (.bipush 10, 2) := by decide +kernel
theorem dX13_note_72 : decode cX13_note 72 = .ok (.goto 12, 3) := by decide +kernel
theorem dX13_note_75 : decode cX13_note 75 = .ok (.aload_n 0, 1) := by decide +kernel
theorem dX13_note_76 : decode cX13_note 76 = .ok (.iload_n 1, 1) := by decide +kernel
theorem dX13_note_77 : decode cX13_note 77 = .ok (.bipush 7, 2) := by decide +kernel
theorem dX13_note_79 : decode cX13_note 79 = .ok (.invokevirtual 51, 3) := by decide +kernel
theorem dX13_note_82 : decode cX13_note 82 = .ok (.iconst 1, 1) := by decide +kernel
theorem dX13_note_83 : decode cX13_note 83 = .ok (.iadd, 1) := by decide +kernel
theorem dX13_note_84 : decode cX13_note 84 = .ok (.invokevirtual 79, 3) := by decide +kernel
theorem dX13_note_87 : decode cX13_note 87 = .ok (.return_, 1) := by decide +kernel
def sX13_note_16 : Nat → Wl → Int32 → Int32 → Int32 → Int32 → Option Wl
  | 0, _, _, _, _, _ => none
  | n + 1, w, l1, l2, l3, l4 => (if l4 ≤ 0 then (idx l3 541).bind (fun c2 => (sX13_ofWork (wst w 372 c2 l2) l1 (7 : Int32)).bind (fun r6 => (if r6 = (10 : Int32) then (sX13_putWork (wst w 372 c2 l2) l1 (7 : Int32) (10 : Int32)).bind (fun r13 => some r13) else (sX13_putWork (wst w 372 c2 l2) l1 (7 : Int32) (r6 + (1 : Int32))).bind (fun r9 => some r9)))) else (idx ((l3 + l4) - (1 : Int32)) 541).bind (fun c17 => (idx (l3 + l4) 541).bind (fun c19 => sX13_note_16 n (wst w 372 c19 (w 372 c17)) l1 l2 l3 (l4 + (-1)))))
theorem tX13_note_16 {X : Cx} {B : Bs} {sz : Nat} {r : Wl} (hx : Fx X cX13_note 5 RX13 1 0 0) (hr : Rt X none 0 0 (WΨ (xΓ X) B none r sz)) : ∀ (n : Nat), ∀ (w : Wl) (l1 : Int32) (l2 : Int32) (l3 : Int32) (l4 : Int32) {G : Gf} (hW : Wd (xΓ X) B w G) (h : sX13_note_16 n w l1 l2 l3 l4 = some r), J X 5 G sz 0 0 16 [some (.ref (B.1 + 371)), some (.int l1), some (.int l2), some (.int l3), some (.int l4)] [] := by
  intro n
  induction n with
  | zero => intro w l1 l2 l3 l4 G hW h; rw [sX13_note_16.eq_1] at h; cases h
  | succ n ih =>
    intro w l1 l2 l3 l4 G hW h
    rw [sX13_note_16.eq_2] at h
    refine J_il hx rfl dX13_note_16 ?_
    refine J_if_le hx 47 dX13_note_18 rfl (fun h1 => ?_) (fun h1 => ?_)
    · replace h := pos h h1
      refine J_al4 hx rfl rfl dX13_note_47 ?_
      refine g13_0 hx hW 372 (rfl : kd 371 = 19) fl_X13_7 rfl dX13_note_48 ?_
      refine J_il4 hx rfl rfl dX13_note_51 ?_
      refine J_il4 hx rfl rfl dX13_note_52 ?_
      obtain ⟨c2, hc3, h⟩ := bnd h
      refine J_iaS hx hW (rfl : kd 372 = 641) hc3 dX13_note_53 fun G4 hW5 => ?_
      refine J_al4 hx rfl rfl dX13_note_54 ?_
      refine J_il4 hx rfl rfl dX13_note_55 ?_
      refine J_bipush hx (7 : Int32) dX13_note_56 rfl ?_
      refine J_al4 hx rfl rfl dX13_note_58 ?_
      refine J_il4 hx rfl rfl dX13_note_59 ?_
      refine J_bipush hx (7 : Int32) dX13_note_60 rfl ?_
      obtain ⟨r6, hr7, h⟩ := bnd h
      refine J_rdV hx (kX13_ofWork  hW5 hr7) ml_X13_51 lk_X13_ofWork (ci := 11) rfl (hW5.obj (rfl : kd 371 = 19) (by decide) (by decide)) (rest := [.int (7 : Int32), .int l1, .ref (B.1 + 371)]) rfl rfl (by decide) (by decide) (Nat.le_of_ble_eq_true rfl) (Nat.le_refl 0) (Nat.le_refl 0) dX13_note_62 ?_
      refine J_bipush hx (10 : Int32) dX13_note_65 rfl ?_
      refine J_icmp_ne hx 75 dX13_note_67 rfl (fun h8 => ?_) (fun h8 => ?_)
      · replace h := neg h h8
        refine J_al4 hx rfl rfl dX13_note_75 ?_
        refine J_il4 hx rfl rfl dX13_note_76 ?_
        refine J_bipush hx (7 : Int32) dX13_note_77 rfl ?_
        refine J_rdV hx (kX13_ofWork  hW5 hr7) ml_X13_51 lk_X13_ofWork (ci := 11) rfl (hW5.obj (rfl : kd 371 = 19) (by decide) (by decide)) (rest := [.int (7 : Int32), .int l1, .ref (B.1 + 371)]) rfl rfl (by decide) (by decide) (Nat.le_of_ble_eq_true rfl) (Nat.le_refl 0) (Nat.le_refl 0) dX13_note_79 ?_
        refine J_iconst hx (1 : Int32) dX13_note_82 rfl ?_
        refine J_iadd hx dX13_note_83 ?_
        obtain ⟨r9, hr10, h⟩ := bnd h
        refine J_wrV hx (kX13_putWork  hW5 hr10) ml_X13_79 lk_X13_putWork (ci := 11) rfl (hW5.obj (rfl : kd 371 = 19) (by decide) (by decide)) (rest := []) rfl rfl (by decide) (by decide) (Nat.le_of_ble_eq_true rfl) (Nat.le_refl 0) (Nat.le_refl 0) dX13_note_84 fun G11 hW12 => ?_
        show J X 5 G11 sz 0 0 87 [some (.ref (B.1 + 371)), some (.int l1), some (.int l2), some (.int l3), some (.int l4)] []
        obtain rfl := Option.some.inj h
        exact J_vretW hx hr hW12 dX13_note_87 (Nat.le_refl 0) (Nat.le_refl 0)
      · replace h := pos h h8
        refine J_bipush hx (10 : Int32) dX13_note_70 rfl ?_
        refine J_goto hx 84 dX13_note_72 rfl ?_
        obtain ⟨r13, hr14, h⟩ := bnd h
        refine J_wrV hx (kX13_putWork  hW5 hr14) ml_X13_79 lk_X13_putWork (ci := 11) rfl (hW5.obj (rfl : kd 371 = 19) (by decide) (by decide)) (rest := []) rfl rfl (by decide) (by decide) (Nat.le_of_ble_eq_true rfl) (Nat.le_refl 0) (Nat.le_refl 0) dX13_note_84 fun G15 hW16 => ?_
        show J X 5 G15 sz 0 0 87 [some (.ref (B.1 + 371)), some (.int l1), some (.int l2), some (.int l3), some (.int l4)] []
        obtain rfl := Option.some.inj h
        exact J_vretW hx hr hW16 dX13_note_87 (Nat.le_refl 0) (Nat.le_refl 0)
    · replace h := neg h h1
      refine J_al4 hx rfl rfl dX13_note_21 ?_
      refine g13_0 hx hW 372 (rfl : kd 371 = 19) fl_X13_7 rfl dX13_note_22 ?_
      refine J_il4 hx rfl rfl dX13_note_25 ?_
      refine J_il hx rfl dX13_note_26 ?_
      refine J_iadd hx dX13_note_28 ?_
      refine J_al4 hx rfl rfl dX13_note_29 ?_
      refine g13_0 hx hW 372 (rfl : kd 371 = 19) fl_X13_7 rfl dX13_note_30 ?_
      refine J_il4 hx rfl rfl dX13_note_33 ?_
      refine J_il hx rfl dX13_note_34 ?_
      refine J_iadd hx dX13_note_36 ?_
      refine J_iconst hx (1 : Int32) dX13_note_37 rfl ?_
      refine J_isub hx dX13_note_38 ?_
      obtain ⟨c17, hc18, h⟩ := bnd h
      refine J_iaW hx hW (rfl : kd 372 = 641) hc18 dX13_note_39 ?_
      obtain ⟨c19, hc20, h⟩ := bnd h
      refine J_iaS hx hW (rfl : kd 372 = 641) hc20 dX13_note_40 fun G21 hW22 => ?_
      refine J_iinc hx (v' := (l4 + (-1))) rfl (iinc_m1 _) (by decide) (hc_of rfl) rfl dX13_note_41 ?_
      refine J_goto hx 16 dX13_note_44 rfl ?_
      exact ih _ _ _ _ _  hW22 h
def sX13_note (w : Wl) (l1 : Int32) (l2 : Int32) : Option Wl := sX13_note_16 FU w l1 l2 (((253 : Int32) + ((18 : Int32) * l1)) + (8 : Int32)) (9 : Int32)
theorem kX13_note {l : Launch} {Γ : Gl} {B : Bs} {w : Wl} {G : Gf} {sz : Nat} {l1 : Int32} {l2 : Int32} {r : Wl} (hW : Wd Γ B w G) (h : sX13_note w l1 l2 = some r) : CtW l Γ yX13_note cX13_note 5 none 1 [.ref (B.1 + 371), .int l1, .int l2] G sz B none r := by
  refine Ct.of rfl (Nat.le_of_ble_eq_true rfl) fun X hx hr hl hΓ hnm => ?_
  subst hl hΓ
  show J X 5 G sz 0 0 0 [some (.ref (B.1 + 371)), some (.int l1), some (.int l2), none, none] []
  unfold sX13_note at h
  refine J_sipush hx (253 : Int32) dX13_note_0 rfl ?_
  refine J_bipush hx (18 : Int32) dX13_note_3 rfl ?_
  refine J_il4 hx rfl rfl dX13_note_5 ?_
  refine J_imul hx dX13_note_6 ?_
  refine J_iadd hx dX13_note_7 ?_
  refine J_bipush hx (8 : Int32) dX13_note_8 rfl ?_
  refine J_iadd hx dX13_note_10 ?_
  refine J_is4 hx rfl (by decide) (hc_of rfl) rfl dX13_note_11 ?_
  refine J_bipush hx (9 : Int32) dX13_note_12 rfl ?_
  refine J_is hx (by decide) (hc_of rfl) rfl dX13_note_14 ?_
  exact tX13_note_16 hx hr _ _ _ _ _ _  hW h
theorem dX13_pays_0 : decode cX13_pays 0 = .ok (.aload_n 0, 1) := by decide +kernel
theorem dX13_pays_1 : decode cX13_pays 1 = .ok (.iload_n 1, 1) := by decide +kernel
theorem dX13_pays_2 : decode cX13_pays 2 = .ok (.invokevirtual 145, 3) := by decide +kernel
theorem dX13_pays_5 : decode cX13_pays 5 = .ok (.istore_n 2, 1) := by decide +kernel
theorem dX13_pays_6 : decode cX13_pays 6 = .ok (.iload_n 2, 1) := by decide +kernel
theorem dX13_pays_7 : decode cX13_pays 7 = .ok (.iconst (-1), 1) := by decide +kernel
theorem dX13_pays_8 : decode cX13_pays 8 = .ok (.if_icmp .ne 14, 3) := by decide +kernel
theorem dX13_pays_11 : decode cX13_pays 11 = .ok (.aload_n 0, 1) := by decide +kernel
theorem dX13_pays_12 : decode cX13_pays 12 = .ok (.getfield 7, 3) := by decide +kernel
theorem dX13_pays_15 : decode cX13_pays 15 = .ok (.bipush 8, 2) := by decide +kernel
theorem dX13_pays_17 : decode cX13_pays 17 = .ok (.iaload, 1) := by decide +kernel
theorem dX13_pays_18 : decode cX13_pays 18 = .ok (.i2l, 1) := by decide +kernel
theorem dX13_pays_19 : decode cX13_pays 19 = .ok (.goto 10, 3) := by decide +kernel
theorem dX13_pays_22 : decode cX13_pays 22 = .ok (.aload_n 0, 1) := by decide +kernel
theorem dX13_pays_23 : decode cX13_pays 23 = .ok (.iload_n 2, 1) := by decide +kernel
theorem dX13_pays_24 : decode cX13_pays 24 = .ok (.iconst 2, 1) := by decide +kernel
theorem dX13_pays_25 : decode cX13_pays 25 = .ok (.invokevirtual 68, 3) := by decide +kernel
theorem dX13_pays_28 : decode cX13_pays 28 = .ok (.i2l, 1) := by decide +kernel
theorem dX13_pays_29 : decode cX13_pays 29 = .ok (.lstore_n 3, 1) := by decide +kernel
theorem dX13_pays_30 : decode cX13_pays 30 = .ok (.lload_n 3, 1) := by decide +kernel
theorem dX13_pays_31 : decode cX13_pays 31 = .ok (.aload_n 0, 1) := by decide +kernel
theorem dX13_pays_32 : decode cX13_pays 32 = .ok (.iload_n 1, 1) := by decide +kernel
theorem dX13_pays_33 : decode cX13_pays 33 = .ok (.iconst 1, 1) := by decide +kernel
theorem dX13_pays_34 : decode cX13_pays 34 = .ok (.invokevirtual 51, 3) := by decide +kernel
theorem dX13_pays_37 : decode cX13_pays 37 = .ok (.i2l, 1) := by decide +kernel
theorem dX13_pays_38 : decode cX13_pays 38 = .ok (.lmul, 1) := by decide +kernel
theorem dX13_pays_39 : decode cX13_pays 39 = .ok (.ldc2_w 180, 3) := by decide +kernel
theorem dX13_pays_42 : decode cX13_pays 42 = .ok (.ldiv, 1) := by decide +kernel
theorem dX13_pays_43 : decode cX13_pays 43 = .ok (.l2i, 1) := by decide +kernel
theorem dX13_pays_44 : decode cX13_pays 44 = .ok (.istore 5, 2) := by decide +kernel
theorem dX13_pays_46 : decode cX13_pays 46 = .ok (.aload_n 0, 1) := by decide +kernel
theorem dX13_pays_47 : decode cX13_pays 47 = .ok (.iload_n 1, 1) := by decide +kernel
theorem dX13_pays_48 : decode cX13_pays 48 = .ok (.iload_n 2, 1) := by decide +kernel
theorem dX13_pays_49 : decode cX13_pays 49 = .ok (.iconst (-1), 1) := by decide +kernel
theorem dX13_pays_50 : decode cX13_pays 50 = .ok (.if_icmp .ne 8, 3) := by decide +kernel
theorem dX13_pays_53 : decode cX13_pays 53 = .ok (.bipush 8, 2) := by decide +kernel
theorem dX13_pays_55 : decode cX13_pays 55 = .ok (.goto 4, 3) := by decide +kernel
theorem dX13_pays_58 : decode cX13_pays 58 = .ok (.iload_n 2, 1) := by decide +kernel
theorem dX13_pays_59 : decode cX13_pays 59 = .ok (.invokevirtual 182, 3) := by decide +kernel
theorem dX13_pays_62 : decode cX13_pays 62 = .ok (.aload_n 0, 1) := by decide +kernel
theorem dX13_pays_63 : decode cX13_pays 63 = .ok (.iload_n 1, 1) := by decide +kernel
theorem dX13_pays_64 : decode cX13_pays 64 = .ok (.bipush 6, 2) := by decide +kernel
theorem dX13_pays_66 : decode cX13_pays 66 = .ok (.aload_n 0, 1) := by decide +kernel
theorem dX13_pays_67 : decode cX13_pays 67 = .ok (.iload_n 1, 1) := by decide +kernel
theorem dX13_pays_68 : decode cX13_pays 68 = .ok (.bipush 6, 2) := by decide +kernel
theorem dX13_pays_70 : decode cX13_pays 70 = .ok (.invokevirtual 51, 3) := by decide +kernel
theorem dX13_pays_73 : decode cX13_pays 73 = .ok (.iload 5, 2) := by decide +kernel
theorem dX13_pays_75 : decode cX13_pays 75 = .ok (.iadd, 1) := by decide +kernel
theorem dX13_pays_76 : decode cX13_pays 76 = .ok (.invokevirtual 79, 3) := by decide +kernel
theorem dX13_pays_79 : decode cX13_pays 79 = .ok (.aload_n 0, 1) := by decide +kernel
theorem dX13_pays_80 : decode cX13_pays 80 = .ok (.getfield 7, 3) := by decide +kernel
theorem dX13_pays_83 : decode cX13_pays 83 = .ok (.iconst 5, 1) := by decide +kernel
theorem dX13_pays_84 : decode cX13_pays 84 = .ok (.dup2, 1) := by decide +kernel
theorem dX13_pays_85 : decode cX13_pays 85 = .ok (.iaload, 1) := by decide +kernel
theorem dX13_pays_86 : decode cX13_pays 86 = .ok (.iload 5, 2) := by decide +kernel
theorem dX13_pays_88 : decode cX13_pays 88 = .ok (.iadd, 1) := by decide +kernel
theorem dX13_pays_89 : decode cX13_pays 89 = .ok (.iastore, 1) := by decide +kernel
theorem dX13_pays_90 : decode cX13_pays 90 = .ok (.aload_n 0, 1) := by decide +kernel
theorem dX13_pays_91 : decode cX13_pays 91 = .ok (.getfield 7, 3) := by decide +kernel
theorem dX13_pays_94 : decode cX13_pays 94 = .ok (.iload_n 2, 1) := by decide +kernel
theorem dX13_pays_95 : decode cX13_pays 95 = .ok (.iconst (-1), 1) := by decide +kernel
theorem dX13_pays_96 : decode cX13_pays 96 = .ok (.if_icmp .ne 8, 3) := by decide +kernel
theorem dX13_pays_99 : decode cX13_pays 99 = .ok (.bipush 6, 2) := by decide +kernel
theorem dX13_pays_101 : decode cX13_pays 101 = .ok (.goto 12, 3) := by decide +kernel
theorem dX13_pays_104 : decode cX13_pays 104 = .ok (.bipush 9, 2) := by decide +kernel
theorem dX13_pays_106 : decode cX13_pays 106 = .ok (.bipush 13, 2) := by decide +kernel
theorem dX13_pays_108 : decode cX13_pays 108 = .ok (.iload_n 2, 1) := by decide +kernel
theorem dX13_pays_109 : decode cX13_pays 109 = .ok (.imul, 1) := by decide +kernel
theorem dX13_pays_110 : decode cX13_pays 110 = .ok (.iadd, 1) := by decide +kernel
theorem dX13_pays_111 : decode cX13_pays 111 = .ok (.iconst 4, 1) := by decide +kernel
theorem dX13_pays_112 : decode cX13_pays 112 = .ok (.iadd, 1) := by decide +kernel
theorem dX13_pays_113 : decode cX13_pays 113 = .ok (.dup2, 1) := by decide +kernel
theorem dX13_pays_114 : decode cX13_pays 114 = .ok (.iaload, 1) := by decide +kernel
theorem dX13_pays_115 : decode cX13_pays 115 = .ok (.iload 5, 2) := by decide +kernel
theorem dX13_pays_117 : decode cX13_pays 117 = .ok (.iadd, 1) := by decide +kernel
theorem dX13_pays_118 : decode cX13_pays 118 = .ok (.iastore, 1) := by decide +kernel
theorem dX13_pays_119 : decode cX13_pays 119 = .ok (.return_, 1) := by decide +kernel
def sX13_pays_59 (w : Wl) (l1 : Int32) (l2 : Int32) (l5 : Int32) (s1 : Int32) (s2 : Int32) : Option Wl := (sX13_note w s1 s2).bind (fun r1 => (sX13_ofWork r1 l1 (6 : Int32)).bind (fun r5 => (sX13_putWork r1 l1 (6 : Int32) (r5 + l5)).bind (fun r7 => (if l2 = (-1 : Int32) then some (wst (wst r7 372 5 ((r7 372 5) + l5)) 372 6 (((wst r7 372 5 ((r7 372 5) + l5)) 372 6) + l5)) else (idx (((9 : Int32) + ((13 : Int32) * l2)) + (4 : Int32)) 541).bind (fun c14 => some (wst (wst r7 372 5 ((r7 372 5) + l5)) 372 c14 (((wst r7 372 5 ((r7 372 5) + l5)) 372 c14) + l5)))))))
theorem tX13_pays_59 {X : Cx} {B : Bs} {sz : Nat} {r : Wl} (hx : Fx X cX13_pays 6 RX13 4 0 0) (hr : Rt X none 0 0 (WΨ (xΓ X) B none r sz)) : ∀ (w : Wl) (l1 : Int32) (l2 : Int32) (l5 : Int32) (s1 : Int32) (s2 : Int32) {G : Gf} (hW : Wd (xΓ X) B w G) (h : sX13_pays_59  w l1 l2 l5 s1 s2 = some r), J X 6 G sz 0 0 59 [some (.ref (B.1 + 371)), some (.int l1), some (.int l2), none, none, some (.int l5)] [.int s2, .int s1, .ref (B.1 + 371)] := by
  intro w l1 l2 l5 s1 s2 G hW h
  unfold sX13_pays_59 at h
  obtain ⟨r1, hr2, h⟩ := bnd h
  refine J_wrV hx (kX13_note  hW hr2) ml_X13_182 lk_X13_note (ci := 11) rfl (hW.obj (rfl : kd 371 = 19) (by decide) (by decide)) (rest := []) rfl rfl (by decide) (by decide) (Nat.le_of_ble_eq_true rfl) (Nat.le_refl 0) (Nat.le_refl 0) dX13_pays_59 fun G3 hW4 => ?_
  show J X 6 G3 sz 0 0 62 [some (.ref (B.1 + 371)), some (.int l1), some (.int l2), none, none, some (.int l5)] []
  refine J_al4 hx rfl rfl dX13_pays_62 ?_
  refine J_il4 hx rfl rfl dX13_pays_63 ?_
  refine J_bipush hx (6 : Int32) dX13_pays_64 rfl ?_
  refine J_al4 hx rfl rfl dX13_pays_66 ?_
  refine J_il4 hx rfl rfl dX13_pays_67 ?_
  refine J_bipush hx (6 : Int32) dX13_pays_68 rfl ?_
  obtain ⟨r5, hr6, h⟩ := bnd h
  refine J_rdV hx (kX13_ofWork  hW4 hr6) ml_X13_51 lk_X13_ofWork (ci := 11) rfl (hW4.obj (rfl : kd 371 = 19) (by decide) (by decide)) (rest := [.int (6 : Int32), .int l1, .ref (B.1 + 371)]) rfl rfl (by decide) (by decide) (Nat.le_of_ble_eq_true rfl) (Nat.le_refl 0) (Nat.le_refl 0) dX13_pays_70 ?_
  refine J_il hx rfl dX13_pays_73 ?_
  refine J_iadd hx dX13_pays_75 ?_
  obtain ⟨r7, hr8, h⟩ := bnd h
  refine J_wrV hx (kX13_putWork  hW4 hr8) ml_X13_79 lk_X13_putWork (ci := 11) rfl (hW4.obj (rfl : kd 371 = 19) (by decide) (by decide)) (rest := []) rfl rfl (by decide) (by decide) (Nat.le_of_ble_eq_true rfl) (Nat.le_refl 0) (Nat.le_refl 0) dX13_pays_76 fun G9 hW10 => ?_
  show J X 6 G9 sz 0 0 79 [some (.ref (B.1 + 371)), some (.int l1), some (.int l2), none, none, some (.int l5)] []
  refine J_al4 hx rfl rfl dX13_pays_79 ?_
  refine g13_0 hx hW10 372 (rfl : kd 371 = 19) fl_X13_7 rfl dX13_pays_80 ?_
  refine J_iconst hx (5 : Int32) dX13_pays_83 rfl ?_
  refine J_dup2 hx dX13_pays_84 ?_
  refine J_iaW hx hW10 (rfl : kd 372 = 641) (by decide +kernel : idx (5 : Int32) 541 = some 5) dX13_pays_85 ?_
  refine J_il hx rfl dX13_pays_86 ?_
  refine J_iadd hx dX13_pays_88 ?_
  refine J_iaS hx hW10 (rfl : kd 372 = 641) (by decide +kernel : idx (5 : Int32) 541 = some 5) dX13_pays_89 fun G11 hW12 => ?_
  refine J_al4 hx rfl rfl dX13_pays_90 ?_
  refine g13_0 hx hW12 372 (rfl : kd 371 = 19) fl_X13_7 rfl dX13_pays_91 ?_
  refine J_il4 hx rfl rfl dX13_pays_94 ?_
  refine J_iconst hx (-1 : Int32) dX13_pays_95 rfl ?_
  refine J_icmp_ne hx 104 dX13_pays_96 rfl (fun h13 => ?_) (fun h13 => ?_)
  · replace h := neg h h13
    refine J_bipush hx (9 : Int32) dX13_pays_104 rfl ?_
    refine J_bipush hx (13 : Int32) dX13_pays_106 rfl ?_
    refine J_il4 hx rfl rfl dX13_pays_108 ?_
    refine J_imul hx dX13_pays_109 ?_
    refine J_iadd hx dX13_pays_110 ?_
    refine J_iconst hx (4 : Int32) dX13_pays_111 rfl ?_
    refine J_iadd hx dX13_pays_112 ?_
    refine J_dup2 hx dX13_pays_113 ?_
    obtain ⟨c14, hc15, h⟩ := bnd h
    refine J_iaW hx hW12 (rfl : kd 372 = 641) hc15 dX13_pays_114 ?_
    refine J_il hx rfl dX13_pays_115 ?_
    refine J_iadd hx dX13_pays_117 ?_
    refine J_iaS hx hW12 (rfl : kd 372 = 641) hc15 dX13_pays_118 fun G16 hW17 => ?_
    obtain rfl := Option.some.inj h
    exact J_vretW hx hr hW17 dX13_pays_119 (Nat.le_refl 0) (Nat.le_refl 0)
  · replace h := pos h h13
    refine J_bipush hx (6 : Int32) dX13_pays_99 rfl ?_
    refine J_goto hx 113 dX13_pays_101 rfl ?_
    refine J_dup2 hx dX13_pays_113 ?_
    refine J_iaW hx hW12 (rfl : kd 372 = 641) (by decide +kernel : idx (6 : Int32) 541 = some 6) dX13_pays_114 ?_
    refine J_il hx rfl dX13_pays_115 ?_
    refine J_iadd hx dX13_pays_117 ?_
    refine J_iaS hx hW12 (rfl : kd 372 = 641) (by decide +kernel : idx (6 : Int32) 541 = some 6) dX13_pays_118 fun G18 hW19 => ?_
    obtain rfl := Option.some.inj h
    exact J_vretW hx hr hW19 dX13_pays_119 (Nat.le_refl 0) (Nat.le_refl 0)
def sX13_pays_29 (w : Wl) (l1 : Int32) (l2 : Int32) (s0 : Int64) : Option Wl := (sX13_ofWork w l1 (1 : Int32)).bind (fun r1 => (if l2 = (-1 : Int32) then sX13_pays_59 w l1 l2 (((s0 * r1.toInt64) / (10000 : Int64)).toInt32) l1 (8 : Int32) else sX13_pays_59 w l1 l2 (((s0 * r1.toInt64) / (10000 : Int64)).toInt32) l1 l2))
theorem tX13_pays_29 {X : Cx} {B : Bs} {sz : Nat} {r : Wl} (hx : Fx X cX13_pays 6 RX13 4 0 0) (hr : Rt X none 0 0 (WΨ (xΓ X) B none r sz)) : ∀ (w : Wl) (l1 : Int32) (l2 : Int32) (s0 : Int64) {G : Gf} (hW : Wd (xΓ X) B w G) (h : sX13_pays_29  w l1 l2 s0 = some r), J X 6 G sz 0 0 29 [some (.ref (B.1 + 371)), some (.int l1), some (.int l2), none, none, none] [.long s0] := by
  intro w l1 l2 s0 G hW h
  unfold sX13_pays_29 at h
  refine J_ls4 hx rfl (by decide) (hc_of rfl) rfl dX13_pays_29 ?_
  refine J_ll4 hx rfl rfl dX13_pays_30 ?_
  refine J_al4 hx rfl rfl dX13_pays_31 ?_
  refine J_il4 hx rfl rfl dX13_pays_32 ?_
  refine J_iconst hx (1 : Int32) dX13_pays_33 rfl ?_
  obtain ⟨r1, hr2, h⟩ := bnd h
  refine J_rdV hx (kX13_ofWork  hW hr2) ml_X13_51 lk_X13_ofWork (ci := 11) rfl (hW.obj (rfl : kd 371 = 19) (by decide) (by decide)) (rest := [.long s0]) rfl rfl (by decide) (by decide) (Nat.le_of_ble_eq_true rfl) (Nat.le_refl 0) (Nat.le_refl 0) dX13_pays_34 ?_
  refine J_i2l hx dX13_pays_37 ?_
  refine J_lmul hx dX13_pays_38 ?_
  refine J_ldc2 hx cn_X13_180 dX13_pays_39 ?_
  refine J_ldiv hx (by decide) dX13_pays_42 ?_
  refine J_l2i hx dX13_pays_43 ?_
  refine J_is hx (by decide) (hc_of rfl) rfl dX13_pays_44 ?_
  refine J_al4 hx rfl rfl dX13_pays_46 ?_
  refine J_il4 hx rfl rfl dX13_pays_47 ?_
  refine J_il4 hx rfl rfl dX13_pays_48 ?_
  refine J_iconst hx (-1 : Int32) dX13_pays_49 rfl ?_
  refine J_icmp_ne hx 58 dX13_pays_50 rfl (fun h3 => ?_) (fun h3 => ?_)
  · replace h := neg h h3
    refine J_il4 hx rfl rfl dX13_pays_58 ?_
    refine J_lw (ls' := [some (.ref (B.1 + 371)), some (.int l1), some (.int l2), none, none, some (.int ((s0 * r1.toInt64) / (10000 : Int64)).toInt32)]) (lwS (lwS (lwS (lwN (lwN (lwS lwZ)))))) ?_
    exact tX13_pays_59 hx hr _ _ _ _ _ _  hW h
  · replace h := pos h h3
    refine J_bipush hx (8 : Int32) dX13_pays_53 rfl ?_
    refine J_goto hx 59 dX13_pays_55 rfl ?_
    refine J_lw (ls' := [some (.ref (B.1 + 371)), some (.int l1), some (.int l2), none, none, some (.int ((s0 * r1.toInt64) / (10000 : Int64)).toInt32)]) (lwS (lwS (lwS (lwN (lwN (lwS lwZ)))))) ?_
    exact tX13_pays_59 hx hr _ _ _ _ _ _  hW h
def sX13_pays (w : Wl) (l1 : Int32) : Option Wl := (sX13_standsIn w l1).bind (fun r1 => (if r1 = (-1 : Int32) then sX13_pays_29 w l1 r1 ((w 372 8).toInt64) else (sX13_ofVenue w r1 (2 : Int32)).bind (fun r4 => sX13_pays_29 w l1 r1 r4.toInt64)))
theorem kX13_pays {l : Launch} {Γ : Gl} {B : Bs} {w : Wl} {G : Gf} {sz : Nat} {l1 : Int32} {r : Wl} (hW : Wd Γ B w G) (h : sX13_pays w l1 = some r) : CtW l Γ yX13_pays cX13_pays 6 none 4 [.ref (B.1 + 371), .int l1] G sz B none r := by
  refine Ct.of rfl (Nat.le_of_ble_eq_true rfl) fun X hx hr hl hΓ hnm => ?_
  subst hl hΓ
  show J X 6 G sz 0 0 0 [some (.ref (B.1 + 371)), some (.int l1), none, none, none, none] []
  unfold sX13_pays at h
  refine J_al4 hx rfl rfl dX13_pays_0 ?_
  refine J_il4 hx rfl rfl dX13_pays_1 ?_
  obtain ⟨r1, hr2, h⟩ := bnd h
  refine J_rdV hx (kX13_standsIn  hW hr2) ml_X13_145 lk_X13_standsIn (ci := 11) rfl (hW.obj (rfl : kd 371 = 19) (by decide) (by decide)) (rest := []) rfl rfl (by decide) (by decide) (Nat.le_of_ble_eq_true rfl) (Nat.le_refl 0) (Nat.le_refl 0) dX13_pays_2 ?_
  refine J_is4 hx rfl (by decide) (hc_of rfl) rfl dX13_pays_5 ?_
  refine J_il4 hx rfl rfl dX13_pays_6 ?_
  refine J_iconst hx (-1 : Int32) dX13_pays_7 rfl ?_
  refine J_icmp_ne hx 22 dX13_pays_8 rfl (fun h3 => ?_) (fun h3 => ?_)
  · replace h := neg h h3
    refine J_al4 hx rfl rfl dX13_pays_22 ?_
    refine J_il4 hx rfl rfl dX13_pays_23 ?_
    refine J_iconst hx (2 : Int32) dX13_pays_24 rfl ?_
    obtain ⟨r4, hr5, h⟩ := bnd h
    refine J_rdV hx (kX13_ofVenue  hW hr5) ml_X13_68 lk_X13_ofVenue (ci := 11) rfl (hW.obj (rfl : kd 371 = 19) (by decide) (by decide)) (rest := []) rfl rfl (by decide) (by decide) (Nat.le_of_ble_eq_true rfl) (Nat.le_refl 0) (Nat.le_refl 0) dX13_pays_25 ?_
    refine J_i2l hx dX13_pays_28 ?_
    exact tX13_pays_29 hx hr _ _ _ _  hW h
  · replace h := pos h h3
    refine J_al4 hx rfl rfl dX13_pays_11 ?_
    refine g13_0 hx hW 372 (rfl : kd 371 = 19) fl_X13_7 rfl dX13_pays_12 ?_
    refine J_bipush hx (8 : Int32) dX13_pays_15 rfl ?_
    refine J_iaW hx hW (rfl : kd 372 = 641) (by decide +kernel : idx (8 : Int32) 541 = some 8) dX13_pays_17 ?_
    refine J_i2l hx dX13_pays_18 ?_
    refine J_goto hx 29 dX13_pays_19 rfl ?_
    exact tX13_pays_29 hx hr _ _ _ _  hW h
theorem dX13_hour_0 : decode cX13_hour 0 = .ok (.iconst 0, 1) := by decide +kernel
theorem dX13_hour_1 : decode cX13_hour 1 = .ok (.istore_n 1, 1) := by decide +kernel
theorem dX13_hour_2 : decode cX13_hour 2 = .ok (.aload_n 0, 1) := by decide +kernel
theorem dX13_hour_3 : decode cX13_hour 3 = .ok (.getfield 7, 3) := by decide +kernel
theorem dX13_hour_6 : decode cX13_hour 6 = .ok (.iconst 0, 1) := by decide +kernel
theorem dX13_hour_7 : decode cX13_hour 7 = .ok (.dup2, 1) := by decide +kernel
theorem dX13_hour_8 : decode cX13_hour 8 = .ok (.iaload, 1) := by decide +kernel
theorem dX13_hour_9 : decode cX13_hour 9 = .ok (.iconst 1, 1) := by decide +kernel
theorem dX13_hour_10 : decode cX13_hour 10 = .ok (.iadd, 1) := by decide +kernel
theorem dX13_hour_11 : decode cX13_hour 11 = .ok (.iastore, 1) := by decide +kernel
theorem dX13_hour_12 : decode cX13_hour 12 = .ok (.iconst 0, 1) := by decide +kernel
theorem dX13_hour_13 : decode cX13_hour 13 = .ok (.istore_n 2, 1) := by decide +kernel
theorem dX13_hour_14 : decode cX13_hour 14 = .ok (.iload_n 2, 1) := by decide +kernel
theorem dX13_hour_15 : decode cX13_hour 15 = .ok (.aload_n 0, 1) := by decide +kernel
theorem dX13_hour_16 : decode cX13_hour 16 = .ok (.getfield 7, 3) := by decide +kernel
theorem dX13_hour_19 : decode cX13_hour 19 = .ok (.iconst 2, 1) := by decide +kernel
theorem dX13_hour_20 : decode cX13_hour 20 = .ok (.iaload, 1) := by decide +kernel
theorem dX13_hour_21 : decode cX13_hour 21 = .ok (.if_icmp .ge 52, 3) := by decide +kernel
theorem dX13_hour_24 : decode cX13_hour 24 = .ok (.aload_n 0, 1) := by decide +kernel
theorem dX13_hour_25 : decode cX13_hour 25 = .ok (.iload_n 2, 1) := by decide +kernel
theorem dX13_hour_26 : decode cX13_hour 26 = .ok (.iconst 3, 1) := by decide +kernel
theorem dX13_hour_27 : decode cX13_hour 27 = .ok (.invokevirtual 36, 3) := by decide +kernel
theorem dX13_hour_30 : decode cX13_hour 30 = .ok (.iconst (-1), 1) := by decide +kernel
theorem dX13_hour_31 : decode cX13_hour 31 = .ok (.if_icmp .ne 36, 3) := by decide +kernel
theorem dX13_hour_34 : decode cX13_hour 34 = .ok (.aload_n 0, 1) := by decide +kernel
theorem dX13_hour_35 : decode cX13_hour 35 = .ok (.iload_n 2, 1) := by decide +kernel
theorem dX13_hour_36 : decode cX13_hour 36 = .ok (.iconst 2, 1) := by decide +kernel
theorem dX13_hour_37 : decode cX13_hour 37 = .ok (.invokevirtual 36, 3) := by decide +kernel
theorem dX13_hour_40 : decode cX13_hour 40 = .ok (.iconst (-1), 1) := by decide +kernel
theorem dX13_hour_41 : decode cX13_hour 41 = .ok (.if_icmp .ne 26, 3) := by decide +kernel
theorem dX13_hour_44 : decode cX13_hour 44 = .ok (.aload_n 0, 1) := by decide +kernel
theorem dX13_hour_45 : decode cX13_hour 45 = .ok (.iload_n 2, 1) := by decide +kernel
theorem dX13_hour_46 : decode cX13_hour 46 = .ok (.iconst 5, 1) := by decide +kernel
theorem dX13_hour_47 : decode cX13_hour 47 = .ok (.invokevirtual 36, 3) := by decide +kernel
theorem dX13_hour_50 : decode cX13_hour 50 = .ok (.aload_n 0, 1) := by decide +kernel
theorem dX13_hour_51 : decode cX13_hour 51 = .ok (.getfield 7, 3) := by decide +kernel
theorem dX13_hour_54 : decode cX13_hour 54 = .ok (.iconst 0, 1) := by decide +kernel
theorem dX13_hour_55 : decode cX13_hour 55 = .ok (.iaload, 1) := by decide +kernel
theorem dX13_hour_56 : decode cX13_hour 56 = .ok (.if_icmp .ne 11, 3) := by decide +kernel
theorem dX13_hour_59 : decode cX13_hour 59 = .ok (.aload_n 0, 1) := by decide +kernel
theorem dX13_hour_60 : decode cX13_hour 60 = .ok (.iload_n 2, 1) := by decide +kernel
theorem dX13_hour_61 : decode cX13_hour 61 = .ok (.invokevirtual 186, 3) := by decide +kernel
theorem dX13_hour_64 : decode cX13_hour 64 = .ok (.iinc 1 1, 3) := by decide +kernel
theorem dX13_hour_67 : decode cX13_hour 67 = .ok (.iinc 2 1, 3) := by decide +kernel
theorem dX13_hour_70 : decode cX13_hour 70 = .ok (.goto (-56), 3) := by decide +kernel
theorem dX13_hour_73 : decode cX13_hour 73 = .ok (.iconst 0, 1) := by decide +kernel
theorem dX13_hour_74 : decode cX13_hour 74 = .ok (.istore_n 2, 1) := by decide +kernel
theorem dX13_hour_75 : decode cX13_hour 75 = .ok (.iload_n 2, 1) := by decide +kernel
theorem dX13_hour_76 : decode cX13_hour 76 = .ok (.aload_n 0, 1) := by decide +kernel
theorem dX13_hour_77 : decode cX13_hour 77 = .ok (.getfield 7, 3) := by decide +kernel
theorem dX13_hour_80 : decode cX13_hour 80 = .ok (.iconst 3, 1) := by decide +kernel
theorem dX13_hour_81 : decode cX13_hour 81 = .ok (.iaload, 1) := by decide +kernel
theorem dX13_hour_82 : decode cX13_hour 82 = .ok (.if_icmp .ge 26, 3) := by decide +kernel
theorem dX13_hour_85 : decode cX13_hour 85 = .ok (.aload_n 0, 1) := by decide +kernel
theorem dX13_hour_86 : decode cX13_hour 86 = .ok (.getfield 7, 3) := by decide +kernel
theorem dX13_hour_89 : decode cX13_hour 89 = .ok (.iconst 0, 1) := by decide +kernel
theorem dX13_hour_90 : decode cX13_hour 90 = .ok (.iaload, 1) := by decide +kernel
theorem dX13_hour_91 : decode cX13_hour 91 = .ok (.bipush 24, 2) := by decide +kernel
theorem dX13_hour_93 : decode cX13_hour 93 = .ok (.irem, 1) := by decide +kernel
theorem dX13_hour_94 : decode cX13_hour 94 = .ok (.ifCond .ne 14, 3) := by decide +kernel
theorem dX13_hour_97 : decode cX13_hour 97 = .ok (.aload_n 0, 1) := by decide +kernel
theorem dX13_hour_98 : decode cX13_hour 98 = .ok (.iload_n 2, 1) := by decide +kernel
theorem dX13_hour_99 : decode cX13_hour 99 = .ok (.invokevirtual 190, 3) := by decide +kernel
theorem dX13_hour_102 : decode cX13_hour 102 = .ok (.iinc 2 1, 3) := by decide +kernel
theorem dX13_hour_105 : decode cX13_hour 105 = .ok (.goto (-30), 3) := by decide +kernel
theorem dX13_hour_108 : decode cX13_hour 108 = .ok (.iload_n 1, 1) := by decide +kernel
theorem dX13_hour_109 : decode cX13_hour 109 = .ok (.ireturn, 1) := by decide +kernel
def sX13_hour_75 : Nat → Wl → Int32 → Int32 → Option (Int32 × Wl)
  | 0, _, _, _ => none
  | n + 1, w, l1, l2 => (if (w 372 3) ≤ l2 then some (l1, w) else (if ((w 372 0) - ((w 372 0) / (24 : Int32)) * (24 : Int32)) = 0 then (sX13_pays w l2).bind (fun r3 => sX13_hour_75 n r3 l1 (l2 + 1)) else some (l1, w)))
theorem tX13_hour_75 {X : Cx} {B : Bs} {sz : Nat} {r : (Int32 × Wl)} (hx : Fx X cX13_hour 3 RX13 5 0 0) (hr : Rt X (some .int) 0 0 (WΨ (xΓ X) B (some (.int (r.1))) r.2 sz)) : ∀ (n : Nat), ∀ (w : Wl) (l1 : Int32) (l2 : Int32) {G : Gf} (hW : Wd (xΓ X) B w G) (h : sX13_hour_75 n w l1 l2 = some r), J X 3 G sz 0 0 75 [some (.ref (B.1 + 371)), some (.int l1), some (.int l2)] [] := by
  intro n
  induction n with
  | zero => intro w l1 l2 G hW h; rw [sX13_hour_75.eq_1] at h; cases h
  | succ n ih =>
    intro w l1 l2 G hW h
    rw [sX13_hour_75.eq_2] at h
    refine J_il4 hx rfl rfl dX13_hour_75 ?_
    refine J_al4 hx rfl rfl dX13_hour_76 ?_
    refine g13_0 hx hW 372 (rfl : kd 371 = 19) fl_X13_7 rfl dX13_hour_77 ?_
    refine J_iconst hx (3 : Int32) dX13_hour_80 rfl ?_
    refine J_iaW hx hW (rfl : kd 372 = 641) (by decide +kernel : idx (3 : Int32) 541 = some 3) dX13_hour_81 ?_
    refine J_icmp_ge hx 108 dX13_hour_82 rfl (fun h1 => ?_) (fun h1 => ?_)
    · replace h := pos h h1
      refine J_il4 hx rfl rfl dX13_hour_108 ?_
      obtain rfl := Option.some.inj h
      exact J_iretW hx hr hW dX13_hour_109 (Nat.le_refl 0) (Nat.le_refl 0)
    · replace h := neg h h1
      refine J_al4 hx rfl rfl dX13_hour_85 ?_
      refine g13_0 hx hW 372 (rfl : kd 371 = 19) fl_X13_7 rfl dX13_hour_86 ?_
      refine J_iconst hx (0 : Int32) dX13_hour_89 rfl ?_
      refine J_iaW hx hW (rfl : kd 372 = 641) (by decide +kernel : idx (0 : Int32) 541 = some 0) dX13_hour_90 ?_
      refine J_bipush hx (24 : Int32) dX13_hour_91 rfl ?_
      refine J_irem hx (by decide) dX13_hour_93 ?_
      refine J_if_ne hx 108 dX13_hour_94 rfl (fun h2 => ?_) (fun h2 => ?_)
      · replace h := neg h h2
        refine J_il4 hx rfl rfl dX13_hour_108 ?_
        obtain rfl := Option.some.inj h
        exact J_iretW hx hr hW dX13_hour_109 (Nat.le_refl 0) (Nat.le_refl 0)
      · replace h := pos h h2
        refine J_al4 hx rfl rfl dX13_hour_97 ?_
        refine J_il4 hx rfl rfl dX13_hour_98 ?_
        obtain ⟨r3, hr4, h⟩ := bnd h
        refine J_wrV hx (kX13_pays  hW hr4) ml_X13_190 lk_X13_pays (ci := 11) rfl (hW.obj (rfl : kd 371 = 19) (by decide) (by decide)) (rest := []) rfl rfl (by decide) (by decide) (Nat.le_of_ble_eq_true rfl) (Nat.le_refl 0) (Nat.le_refl 0) dX13_hour_99 fun G5 hW6 => ?_
        show J X 3 G5 sz 0 0 102 [some (.ref (B.1 + 371)), some (.int l1), some (.int l2)] []
        refine J_iinc hx (v' := (l2 + 1)) rfl rfl (by decide) (hc_of rfl) rfl dX13_hour_102 ?_
        refine J_goto hx 75 dX13_hour_105 rfl ?_
        exact ih _ _ _  hW6 h
def sX13_hour_14 : Nat → Wl → Int32 → Int32 → Option (Int32 × Wl)
  | 0, _, _, _ => none
  | n + 1, w, l1, l2 => (if (w 372 2) ≤ l2 then sX13_hour_75 FU w l1 (0 : Int32) else (sX13_of w l2 (3 : Int32)).bind (fun r2 => (if r2 = (-1 : Int32) then (sX13_of w l2 (2 : Int32)).bind (fun r5 => (if r5 = (-1 : Int32) then (sX13_of w l2 (5 : Int32)).bind (fun r8 => (if r8 = (w 372 0) then (sX13_arrives w l2).bind (fun r11 => sX13_hour_14 n r11 (l1 + 1) (l2 + 1)) else sX13_hour_14 n w l1 (l2 + 1))) else sX13_hour_14 n w l1 (l2 + 1))) else sX13_hour_14 n w l1 (l2 + 1))))
theorem tX13_hour_14 {X : Cx} {B : Bs} {sz : Nat} {r : (Int32 × Wl)} (hx : Fx X cX13_hour 3 RX13 5 0 0) (hr : Rt X (some .int) 0 0 (WΨ (xΓ X) B (some (.int (r.1))) r.2 sz)) : ∀ (n : Nat), ∀ (w : Wl) (l1 : Int32) (l2 : Int32) {G : Gf} (hW : Wd (xΓ X) B w G) (h : sX13_hour_14 n w l1 l2 = some r), J X 3 G sz 0 0 14 [some (.ref (B.1 + 371)), some (.int l1), some (.int l2)] [] := by
  intro n
  induction n with
  | zero => intro w l1 l2 G hW h; rw [sX13_hour_14.eq_1] at h; cases h
  | succ n ih =>
    intro w l1 l2 G hW h
    rw [sX13_hour_14.eq_2] at h
    refine J_il4 hx rfl rfl dX13_hour_14 ?_
    refine J_al4 hx rfl rfl dX13_hour_15 ?_
    refine g13_0 hx hW 372 (rfl : kd 371 = 19) fl_X13_7 rfl dX13_hour_16 ?_
    refine J_iconst hx (2 : Int32) dX13_hour_19 rfl ?_
    refine J_iaW hx hW (rfl : kd 372 = 641) (by decide +kernel : idx (2 : Int32) 541 = some 2) dX13_hour_20 ?_
    refine J_icmp_ge hx 73 dX13_hour_21 rfl (fun h1 => ?_) (fun h1 => ?_)
    · replace h := pos h h1
      refine J_iconst hx (0 : Int32) dX13_hour_73 rfl ?_
      refine J_is4 hx rfl (by decide) (hc_of rfl) rfl dX13_hour_74 ?_
      exact tX13_hour_75 hx hr _ _ _ _  hW h
    · replace h := neg h h1
      refine J_al4 hx rfl rfl dX13_hour_24 ?_
      refine J_il4 hx rfl rfl dX13_hour_25 ?_
      refine J_iconst hx (3 : Int32) dX13_hour_26 rfl ?_
      obtain ⟨r2, hr3, h⟩ := bnd h
      refine J_rdV hx (kX13_of  hW hr3) ml_X13_36 lk_X13_of (ci := 11) rfl (hW.obj (rfl : kd 371 = 19) (by decide) (by decide)) (rest := []) rfl rfl (by decide) (by decide) (Nat.le_of_ble_eq_true rfl) (Nat.le_refl 0) (Nat.le_refl 0) dX13_hour_27 ?_
      refine J_iconst hx (-1 : Int32) dX13_hour_30 rfl ?_
      refine J_icmp_ne hx 67 dX13_hour_31 rfl (fun h4 => ?_) (fun h4 => ?_)
      · replace h := neg h h4
        refine J_iinc hx (v' := (l2 + 1)) rfl rfl (by decide) (hc_of rfl) rfl dX13_hour_67 ?_
        refine J_goto hx 14 dX13_hour_70 rfl ?_
        exact ih _ _ _  hW h
      · replace h := pos h h4
        refine J_al4 hx rfl rfl dX13_hour_34 ?_
        refine J_il4 hx rfl rfl dX13_hour_35 ?_
        refine J_iconst hx (2 : Int32) dX13_hour_36 rfl ?_
        obtain ⟨r5, hr6, h⟩ := bnd h
        refine J_rdV hx (kX13_of  hW hr6) ml_X13_36 lk_X13_of (ci := 11) rfl (hW.obj (rfl : kd 371 = 19) (by decide) (by decide)) (rest := []) rfl rfl (by decide) (by decide) (Nat.le_of_ble_eq_true rfl) (Nat.le_refl 0) (Nat.le_refl 0) dX13_hour_37 ?_
        refine J_iconst hx (-1 : Int32) dX13_hour_40 rfl ?_
        refine J_icmp_ne hx 67 dX13_hour_41 rfl (fun h7 => ?_) (fun h7 => ?_)
        · replace h := neg h h7
          refine J_iinc hx (v' := (l2 + 1)) rfl rfl (by decide) (hc_of rfl) rfl dX13_hour_67 ?_
          refine J_goto hx 14 dX13_hour_70 rfl ?_
          exact ih _ _ _  hW h
        · replace h := pos h h7
          refine J_al4 hx rfl rfl dX13_hour_44 ?_
          refine J_il4 hx rfl rfl dX13_hour_45 ?_
          refine J_iconst hx (5 : Int32) dX13_hour_46 rfl ?_
          obtain ⟨r8, hr9, h⟩ := bnd h
          refine J_rdV hx (kX13_of  hW hr9) ml_X13_36 lk_X13_of (ci := 11) rfl (hW.obj (rfl : kd 371 = 19) (by decide) (by decide)) (rest := []) rfl rfl (by decide) (by decide) (Nat.le_of_ble_eq_true rfl) (Nat.le_refl 0) (Nat.le_refl 0) dX13_hour_47 ?_
          refine J_al4 hx rfl rfl dX13_hour_50 ?_
          refine g13_0 hx hW 372 (rfl : kd 371 = 19) fl_X13_7 rfl dX13_hour_51 ?_
          refine J_iconst hx (0 : Int32) dX13_hour_54 rfl ?_
          refine J_iaW hx hW (rfl : kd 372 = 641) (by decide +kernel : idx (0 : Int32) 541 = some 0) dX13_hour_55 ?_
          refine J_icmp_ne hx 67 dX13_hour_56 rfl (fun h10 => ?_) (fun h10 => ?_)
          · replace h := neg h h10
            refine J_iinc hx (v' := (l2 + 1)) rfl rfl (by decide) (hc_of rfl) rfl dX13_hour_67 ?_
            refine J_goto hx 14 dX13_hour_70 rfl ?_
            exact ih _ _ _  hW h
          · replace h := pos h h10
            refine J_al4 hx rfl rfl dX13_hour_59 ?_
            refine J_il4 hx rfl rfl dX13_hour_60 ?_
            obtain ⟨r11, hr12, h⟩ := bnd h
            refine J_wrV hx (kX13_arrives  hW hr12) ml_X13_186 lk_X13_arrives (ci := 11) rfl (hW.obj (rfl : kd 371 = 19) (by decide) (by decide)) (rest := []) rfl rfl (by decide) (by decide) (Nat.le_of_ble_eq_true rfl) (Nat.le_refl 0) (Nat.le_refl 0) dX13_hour_61 fun G13 hW14 => ?_
            show J X 3 G13 sz 0 0 64 [some (.ref (B.1 + 371)), some (.int l1), some (.int l2)] []
            refine J_iinc hx (v' := (l1 + 1)) rfl rfl (by decide) (hc_of rfl) rfl dX13_hour_64 ?_
            refine J_iinc hx (v' := (l2 + 1)) rfl rfl (by decide) (hc_of rfl) rfl dX13_hour_67 ?_
            refine J_goto hx 14 dX13_hour_70 rfl ?_
            exact ih _ _ _  hW14 h
def sX13_hour (w : Wl) : Option (Int32 × Wl) := sX13_hour_14 FU (wst w 372 0 ((w 372 0) + (1 : Int32))) (0 : Int32) (0 : Int32)
theorem kX13_hour {l : Launch} {Γ : Gl} {B : Bs} {w : Wl} {G : Gf} {sz : Nat} {r : (Int32 × Wl)} (hW : Wd Γ B w G) (h : sX13_hour w  = some r) : CtW l Γ yX13_hour cX13_hour 3 (some .int) 5 [.ref (B.1 + 371)] G sz B (some (.int (r.1))) r.2 := by
  refine Ct.of rfl (Nat.le_of_ble_eq_true rfl) fun X hx hr hl hΓ hnm => ?_
  subst hl hΓ
  show J X 3 G sz 0 0 0 [some (.ref (B.1 + 371)), none, none] []
  unfold sX13_hour at h
  refine J_iconst hx (0 : Int32) dX13_hour_0 rfl ?_
  refine J_is4 hx rfl (by decide) (hc_of rfl) rfl dX13_hour_1 ?_
  refine J_al4 hx rfl rfl dX13_hour_2 ?_
  refine g13_0 hx hW 372 (rfl : kd 371 = 19) fl_X13_7 rfl dX13_hour_3 ?_
  refine J_iconst hx (0 : Int32) dX13_hour_6 rfl ?_
  refine J_dup2 hx dX13_hour_7 ?_
  refine J_iaW hx hW (rfl : kd 372 = 641) (by decide +kernel : idx (0 : Int32) 541 = some 0) dX13_hour_8 ?_
  refine J_iconst hx (1 : Int32) dX13_hour_9 rfl ?_
  refine J_iadd hx dX13_hour_10 ?_
  refine J_iaS hx hW (rfl : kd 372 = 641) (by decide +kernel : idx (0 : Int32) 541 = some 0) dX13_hour_11 fun G1 hW2 => ?_
  refine J_iconst hx (0 : Int32) dX13_hour_12 rfl ?_
  refine J_is4 hx rfl (by decide) (hc_of rfl) rfl dX13_hour_13 ?_
  exact tX13_hour_14 hx hr _ _ _ _  hW2 h
theorem dX13_notAdvance_0 : decode cX13_notAdvance 0 = .ok (.iload_n 0, 1) := by decide +kernel
theorem dX13_notAdvance_1 : decode cX13_notAdvance 1 = .ok (.iconst 1, 1) := by decide +kernel
theorem dX13_notAdvance_2 : decode cX13_notAdvance 2 = .ok (.sipush 240, 3) := by decide +kernel
theorem dX13_notAdvance_5 : decode cX13_notAdvance 5 = .ok (.invokestatic 32, 3) := by decide +kernel
theorem dX13_notAdvance_8 : decode cX13_notAdvance 8 = .ok (.ifCond .eq 7, 3) := by decide +kernel
theorem dX13_notAdvance_11 : decode cX13_notAdvance 11 = .ok (.iconst 0, 1) := by decide +kernel
theorem dX13_notAdvance_12 : decode cX13_notAdvance 12 = .ok (.goto 4, 3) := by decide +kernel
theorem dX13_notAdvance_15 : decode cX13_notAdvance 15 = .ok (.iconst 1, 1) := by decide +kernel
theorem dX13_notAdvance_16 : decode cX13_notAdvance 16 = .ok (.ireturn, 1) := by decide +kernel
def sX13_notAdvance (w : Wl) (l0 : Int32) : Option Int32 := (sX13_in w l0 (1 : Int32) (240 : Int32)).bind (fun r1 => (if r1 = true then some (0 : Int32) else some (1 : Int32)))
theorem kX13_notAdvance {l : Launch} {Γ : Gl} {B : Bs} {w : Wl} {G : Gf} {sz : Nat} {l0 : Int32} {r : Int32} (hW : Wd Γ B w G) (h : sX13_notAdvance w l0 = some r) : CtR l Γ yX13_notAdvance cX13_notAdvance 1 (some .int) 1 [.int l0] G sz (.int (r)) := by
  refine Ct.of rfl (Nat.le_of_ble_eq_true rfl) fun X hx hr hl hΓ hnm => ?_
  subst hl hΓ
  show J X 1 G sz 0 0 0 [some (.int l0)] []
  unfold sX13_notAdvance at h
  refine J_il4 hx rfl rfl dX13_notAdvance_0 ?_
  refine J_iconst hx (1 : Int32) dX13_notAdvance_1 rfl ?_
  refine J_sipush hx (240 : Int32) dX13_notAdvance_2 rfl ?_
  obtain ⟨r1, hr2, h⟩ := bnd h
  refine J_rdS hx (kX13_in  hW hr2) ml_X13_32 lk_X13_in (rest := []) rfl rfl (by decide) (by decide) (Nat.le_of_ble_eq_true rfl) (Nat.le_refl 0) (Nat.le_refl 0) dX13_notAdvance_5 ?_
  refine J_bif_eq hx 15 dX13_notAdvance_8 rfl (fun h3 => ?_) (fun h3 => ?_)
  · replace h := neg h (bft h3)
    refine J_iconst hx (1 : Int32) dX13_notAdvance_15 rfl ?_
    exact J_iretR hx hr dX13_notAdvance_16 (Nat.le_refl 0) (Nat.le_refl 0) (Option.some.inj h)
  · replace h := pos h h3
    refine J_iconst hx (0 : Int32) dX13_notAdvance_11 rfl ?_
    refine J_goto hx 16 dX13_notAdvance_12 rfl ?_
    exact J_iretR hx hr dX13_notAdvance_16 (Nat.le_refl 0) (Nat.le_refl 0) (Option.some.inj h)
theorem dX13_advances_0 : decode cX13_advances 0 = .ok (.iconst 0, 1) := by decide +kernel
theorem dX13_advances_1 : decode cX13_advances 1 = .ok (.istore_n 2, 1) := by decide +kernel
theorem dX13_advances_2 : decode cX13_advances 2 = .ok (.iconst 0, 1) := by decide +kernel
theorem dX13_advances_3 : decode cX13_advances 3 = .ok (.istore_n 3, 1) := by decide +kernel
theorem dX13_advances_4 : decode cX13_advances 4 = .ok (.iload_n 3, 1) := by decide +kernel
theorem dX13_advances_5 : decode cX13_advances 5 = .ok (.iload_n 1, 1) := by decide +kernel
theorem dX13_advances_6 : decode cX13_advances 6 = .ok (.if_icmp .ge 16, 3) := by decide +kernel
theorem dX13_advances_9 : decode cX13_advances 9 = .ok (.iload_n 2, 1) := by decide +kernel
theorem dX13_advances_10 : decode cX13_advances 10 = .ok (.aload_n 0, 1) := by decide +kernel
theorem dX13_advances_11 : decode cX13_advances 11 = .ok (.invokevirtual 193, 3) := by decide +kernel
theorem dX13_advances_14 : decode cX13_advances 14 = .ok (.iadd, 1) := by decide +kernel
theorem dX13_advances_15 : decode cX13_advances 15 = .ok (.istore_n 2, 1) := by decide +kernel
theorem dX13_advances_16 : decode cX13_advances 16 = .ok (.iinc 3 1, 3) := by decide +kernel
theorem dX13_advances_19 : decode cX13_advances 19 = .ok (.goto (-15), 3) := by decide +kernel
theorem dX13_advances_22 : decode cX13_advances 22 = .ok (.iload_n 2, 1) := by decide +kernel
theorem dX13_advances_23 : decode cX13_advances 23 = .ok (.ireturn, 1) := by decide +kernel
def sX13_advances_4 : Nat → Wl → Int32 → Int32 → Int32 → Option (Int32 × Wl)
  | 0, _, _, _, _ => none
  | n + 1, w, l1, l2, l3 => (if l1 ≤ l3 then some (l2, w) else (sX13_hour w ).bind (fun r2 => sX13_advances_4 n r2.2 l1 (l2 + r2.1) (l3 + 1)))
theorem tX13_advances_4 {X : Cx} {B : Bs} {sz : Nat} {r : (Int32 × Wl)} (hx : Fx X cX13_advances 4 RX13 6 0 0) (hr : Rt X (some .int) 0 0 (WΨ (xΓ X) B (some (.int (r.1))) r.2 sz)) : ∀ (n : Nat), ∀ (w : Wl) (l1 : Int32) (l2 : Int32) (l3 : Int32) {G : Gf} (hW : Wd (xΓ X) B w G) (h : sX13_advances_4 n w l1 l2 l3 = some r), J X 4 G sz 0 0 4 [some (.ref (B.1 + 371)), some (.int l1), some (.int l2), some (.int l3)] [] := by
  intro n
  induction n with
  | zero => intro w l1 l2 l3 G hW h; rw [sX13_advances_4.eq_1] at h; cases h
  | succ n ih =>
    intro w l1 l2 l3 G hW h
    rw [sX13_advances_4.eq_2] at h
    refine J_il4 hx rfl rfl dX13_advances_4 ?_
    refine J_il4 hx rfl rfl dX13_advances_5 ?_
    refine J_icmp_ge hx 22 dX13_advances_6 rfl (fun h1 => ?_) (fun h1 => ?_)
    · replace h := pos h h1
      refine J_il4 hx rfl rfl dX13_advances_22 ?_
      obtain rfl := Option.some.inj h
      exact J_iretW hx hr hW dX13_advances_23 (Nat.le_refl 0) (Nat.le_refl 0)
    · replace h := neg h h1
      refine J_il4 hx rfl rfl dX13_advances_9 ?_
      refine J_al4 hx rfl rfl dX13_advances_10 ?_
      obtain ⟨r2, hr3, h⟩ := bnd h
      refine J_wrV hx (kX13_hour  hW hr3) ml_X13_193 lk_X13_hour (ci := 11) rfl (hW.obj (rfl : kd 371 = 19) (by decide) (by decide)) (rest := [.int l2]) rfl rfl (by decide) (by decide) (Nat.le_of_ble_eq_true rfl) (Nat.le_refl 0) (Nat.le_refl 0) dX13_advances_11 fun G4 hW5 => ?_
      show J X 4 G4 sz 0 0 14 [some (.ref (B.1 + 371)), some (.int l1), some (.int l2), some (.int l3)] [.int r2.1, .int l2]
      refine J_iadd hx dX13_advances_14 ?_
      refine J_is4 hx rfl (by decide) (hc_of rfl) rfl dX13_advances_15 ?_
      refine J_iinc hx (v' := (l3 + 1)) rfl rfl (by decide) (hc_of rfl) rfl dX13_advances_16 ?_
      refine J_goto hx 4 dX13_advances_19 rfl ?_
      exact ih _ _ _ _  hW5 h
def sX13_advances (w : Wl) (l1 : Int32) : Option (Int32 × Wl) := sX13_advances_4 FU w l1 (0 : Int32) (0 : Int32)
theorem kX13_advances {l : Launch} {Γ : Gl} {B : Bs} {w : Wl} {G : Gf} {sz : Nat} {l1 : Int32} {r : (Int32 × Wl)} (hW : Wd Γ B w G) (h : sX13_advances w l1 = some r) : CtW l Γ yX13_advances cX13_advances 4 (some .int) 6 [.ref (B.1 + 371), .int l1] G sz B (some (.int (r.1))) r.2 := by
  refine Ct.of rfl (Nat.le_of_ble_eq_true rfl) fun X hx hr hl hΓ hnm => ?_
  subst hl hΓ
  show J X 4 G sz 0 0 0 [some (.ref (B.1 + 371)), some (.int l1), none, none] []
  unfold sX13_advances at h
  refine J_iconst hx (0 : Int32) dX13_advances_0 rfl ?_
  refine J_is4 hx rfl (by decide) (hc_of rfl) rfl dX13_advances_1 ?_
  refine J_iconst hx (0 : Int32) dX13_advances_2 rfl ?_
  refine J_is4 hx rfl (by decide) (hc_of rfl) rfl dX13_advances_3 ?_
  exact tX13_advances_4 hx hr _ _ _ _ _  hW h
theorem dX13_advance_0 : decode cX13_advance 0 = .ok (.aload_n 0, 1) := by decide +kernel
theorem dX13_advance_1 : decode cX13_advance 1 = .ok (.iload_n 1, 1) := by decide +kernel
theorem dX13_advance_2 : decode cX13_advance 2 = .ok (.invokestatic 197, 3) := by decide +kernel
theorem dX13_advance_5 : decode cX13_advance 5 = .ok (.putfield 25, 3) := by decide +kernel
theorem dX13_advance_8 : decode cX13_advance 8 = .ok (.aload_n 0, 1) := by decide +kernel
theorem dX13_advance_9 : decode cX13_advance 9 = .ok (.getfield 25, 3) := by decide +kernel
theorem dX13_advance_12 : decode cX13_advance 12 = .ok (.ifCond .eq 5, 3) := by decide +kernel
theorem dX13_advance_15 : decode cX13_advance 15 = .ok (.iconst 0, 1) := by decide +kernel
theorem dX13_advance_16 : decode cX13_advance 16 = .ok (.ireturn, 1) := by decide +kernel
theorem dX13_advance_17 : decode cX13_advance 17 = .ok (.aload_n 0, 1) := by decide +kernel
theorem dX13_advance_18 : decode cX13_advance 18 = .ok (.invokevirtual 62, 3) := by decide +kernel
theorem dX13_advance_21 : decode cX13_advance 21 = .ok (.aload_n 0, 1) := by decide +kernel
theorem dX13_advance_22 : decode cX13_advance 22 = .ok (.iload_n 1, 1) := by decide +kernel
theorem dX13_advance_23 : decode cX13_advance 23 = .ok (.invokevirtual 200, 3) := by decide +kernel
theorem dX13_advance_26 : decode cX13_advance 26 = .ok (.ireturn, 1) := by decide +kernel
def sX13_advance (w : Wl) (l1 : Int32) : Option (Int32 × Wl) := (sX13_notAdvance w l1).bind (fun r1 => (if ((wst w 371 5 r1) 371 5) = 0 then (sX13_keep (wst w 371 5 r1) ).bind (fun r6 => (sX13_advances r6 l1).bind (fun r10 => some (r10.1, r10.2))) else some ((0 : Int32), (wst w 371 5 r1))))
theorem kX13_advance {l : Launch} {Γ : Gl} {B : Bs} {w : Wl} {G : Gf} {sz : Nat} {l1 : Int32} {r : (Int32 × Wl)} (hW : Wd Γ B w G) (h : sX13_advance w l1 = some r) : CtW l Γ yX13_advance cX13_advance 2 (some .int) 7 [.ref (B.1 + 371), .int l1] G sz B (some (.int (r.1))) r.2 := by
  refine Ct.of rfl (Nat.le_of_ble_eq_true rfl) fun X hx hr hl hΓ hnm => ?_
  subst hl hΓ
  show J X 2 G sz 0 0 0 [some (.ref (B.1 + 371)), some (.int l1)] []
  unfold sX13_advance at h
  refine J_al4 hx rfl rfl dX13_advance_0 ?_
  refine J_il4 hx rfl rfl dX13_advance_1 ?_
  obtain ⟨r1, hr2, h⟩ := bnd h
  refine J_rdS hx (kX13_notAdvance  hW hr2) ml_X13_197 lk_X13_notAdvance (rest := [.ref (B.1 + 371)]) rfl rfl (by decide) (by decide) (Nat.le_of_ble_eq_true rfl) (Nat.le_refl 0) (Nat.le_refl 0) dX13_advance_2 ?_
  refine p13_5 hx hW (rfl : kd 371 = 19) fl_X13_25 dX13_advance_5 fun G3 hW4 => ?_
  refine J_al4 hx rfl rfl dX13_advance_8 ?_
  refine g13_5 hx hW4 (rfl : kd 371 = 19) fl_X13_25 dX13_advance_9 ?_
  refine J_if_eq hx 17 dX13_advance_12 rfl (fun h5 => ?_) (fun h5 => ?_)
  · replace h := pos h h5
    refine J_al4 hx rfl rfl dX13_advance_17 ?_
    obtain ⟨r6, hr7, h⟩ := bnd h
    refine J_wrV hx (kX13_keep  hW4 hr7) ml_X13_62 lk_X13_keep (ci := 11) rfl (hW4.obj (rfl : kd 371 = 19) (by decide) (by decide)) (rest := []) rfl rfl (by decide) (by decide) (Nat.le_of_ble_eq_true rfl) (Nat.le_refl 0) (Nat.le_refl 0) dX13_advance_18 fun G8 hW9 => ?_
    show J X 2 G8 sz 0 0 21 [some (.ref (B.1 + 371)), some (.int l1)] []
    refine J_al4 hx rfl rfl dX13_advance_21 ?_
    refine J_il4 hx rfl rfl dX13_advance_22 ?_
    obtain ⟨r10, hr11, h⟩ := bnd h
    refine J_wrV hx (kX13_advances  hW9 hr11) ml_X13_200 lk_X13_advances (ci := 11) rfl (hW9.obj (rfl : kd 371 = 19) (by decide) (by decide)) (rest := []) rfl rfl (by decide) (by decide) (Nat.le_of_ble_eq_true rfl) (Nat.le_refl 0) (Nat.le_refl 0) dX13_advance_23 fun G12 hW13 => ?_
    show J X 2 G12 sz 0 0 26 [some (.ref (B.1 + 371)), some (.int l1)] [.int r10.1]
    obtain rfl := Option.some.inj h
    exact J_iretW hx hr hW13 dX13_advance_26 (Nat.le_refl 0) (Nat.le_refl 0)
  · replace h := neg h h5
    refine J_iconst hx (0 : Int32) dX13_advance_15 rfl ?_
    obtain rfl := Option.some.inj h
    exact J_iretW hx hr hW4 dX13_advance_16 (Nat.le_refl 0) (Nat.le_refl 0)
theorem dX13_refusal_0 : decode cX13_refusal 0 = .ok (.aload_n 0, 1) := by decide +kernel
theorem dX13_refusal_1 : decode cX13_refusal 1 = .ok (.aload_n 0, 1) := by decide +kernel
theorem dX13_refusal_2 : decode cX13_refusal 2 = .ok (.iload_n 1, 1) := by decide +kernel
theorem dX13_refusal_3 : decode cX13_refusal 3 = .ok (.iload_n 2, 1) := by decide +kernel
theorem dX13_refusal_4 : decode cX13_refusal 4 = .ok (.iload_n 3, 1) := by decide +kernel
theorem dX13_refusal_5 : decode cX13_refusal 5 = .ok (.invokevirtual 167, 3) := by decide +kernel
theorem dX13_refusal_8 : decode cX13_refusal 8 = .ok (.ifCond .eq 7, 3) := by decide +kernel
theorem dX13_refusal_11 : decode cX13_refusal 11 = .ok (.iconst 0, 1) := by decide +kernel
theorem dX13_refusal_12 : decode cX13_refusal 12 = .ok (.goto 4, 3) := by decide +kernel
theorem dX13_refusal_15 : decode cX13_refusal 15 = .ok (.iconst 1, 1) := by decide +kernel
theorem dX13_refusal_16 : decode cX13_refusal 16 = .ok (.putfield 25, 3) := by decide +kernel
theorem dX13_refusal_19 : decode cX13_refusal 19 = .ok (.aload_n 0, 1) := by decide +kernel
theorem dX13_refusal_20 : decode cX13_refusal 20 = .ok (.getfield 25, 3) := by decide +kernel
theorem dX13_refusal_23 : decode cX13_refusal 23 = .ok (.ifCond .eq 7, 3) := by decide +kernel
theorem dX13_refusal_26 : decode cX13_refusal 26 = .ok (.iconst 0, 1) := by decide +kernel
theorem dX13_refusal_27 : decode cX13_refusal 27 = .ok (.goto 10, 3) := by decide +kernel
theorem dX13_refusal_30 : decode cX13_refusal 30 = .ok (.aload_n 0, 1) := by decide +kernel
theorem dX13_refusal_31 : decode cX13_refusal 31 = .ok (.iload_n 1, 1) := by decide +kernel
theorem dX13_refusal_32 : decode cX13_refusal 32 = .ok (.iload_n 2, 1) := by decide +kernel
theorem dX13_refusal_33 : decode cX13_refusal 33 = .ok (.iload_n 3, 1) := by decide +kernel
theorem dX13_refusal_34 : decode cX13_refusal 34 = .ok (.invokevirtual 170, 3) := by decide +kernel
theorem dX13_refusal_37 : decode cX13_refusal 37 = .ok (.ireturn, 1) := by decide +kernel
def sX13_refusal_16 (w : Wl) (l1 : Int32) (l2 : Int32) (l3 : Int32) (s1 : Int32) : Option (Int32 × Wl) := (if ((wst w 371 5 s1) 371 5) = 0 then (sX13_reason (wst w 371 5 s1) l1 l2 l3).bind (fun r4 => some (r4, (wst w 371 5 s1))) else some ((0 : Int32), (wst w 371 5 s1)))
theorem tX13_refusal_16 {X : Cx} {B : Bs} {sz : Nat} {r : (Int32 × Wl)} (hx : Fx X cX13_refusal 4 RX13 6 0 0) (hr : Rt X (some .int) 0 0 (WΨ (xΓ X) B (some (.int (r.1))) r.2 sz)) : ∀ (w : Wl) (l1 : Int32) (l2 : Int32) (l3 : Int32) (s1 : Int32) {G : Gf} (hW : Wd (xΓ X) B w G) (h : sX13_refusal_16  w l1 l2 l3 s1 = some r), J X 4 G sz 0 0 16 [some (.ref (B.1 + 371)), some (.int l1), some (.int l2), some (.int l3)] [.int s1, .ref (B.1 + 371)] := by
  intro w l1 l2 l3 s1 G hW h
  unfold sX13_refusal_16 at h
  refine p13_5 hx hW (rfl : kd 371 = 19) fl_X13_25 dX13_refusal_16 fun G1 hW2 => ?_
  refine J_al4 hx rfl rfl dX13_refusal_19 ?_
  refine g13_5 hx hW2 (rfl : kd 371 = 19) fl_X13_25 dX13_refusal_20 ?_
  refine J_if_eq hx 30 dX13_refusal_23 rfl (fun h3 => ?_) (fun h3 => ?_)
  · replace h := pos h h3
    refine J_al4 hx rfl rfl dX13_refusal_30 ?_
    refine J_il4 hx rfl rfl dX13_refusal_31 ?_
    refine J_il4 hx rfl rfl dX13_refusal_32 ?_
    refine J_il4 hx rfl rfl dX13_refusal_33 ?_
    obtain ⟨r4, hr5, h⟩ := bnd h
    refine J_rdV hx (kX13_reason  hW2 hr5) ml_X13_170 lk_X13_reason (ci := 11) rfl (hW2.obj (rfl : kd 371 = 19) (by decide) (by decide)) (rest := []) rfl rfl (by decide) (by decide) (Nat.le_of_ble_eq_true rfl) (Nat.le_refl 0) (Nat.le_refl 0) dX13_refusal_34 ?_
    obtain rfl := Option.some.inj h
    exact J_iretW hx hr hW2 dX13_refusal_37 (Nat.le_refl 0) (Nat.le_refl 0)
  · replace h := neg h h3
    refine J_iconst hx (0 : Int32) dX13_refusal_26 rfl ?_
    refine J_goto hx 37 dX13_refusal_27 rfl ?_
    obtain rfl := Option.some.inj h
    exact J_iretW hx hr hW2 dX13_refusal_37 (Nat.le_refl 0) (Nat.le_refl 0)
def sX13_refusal (w : Wl) (l1 : Int32) (l2 : Int32) (l3 : Int32) : Option (Int32 × Wl) := (sX13_isSending w l1 l2 l3).bind (fun r1 => (if r1 = true then sX13_refusal_16 w l1 l2 l3 (0 : Int32) else sX13_refusal_16 w l1 l2 l3 (1 : Int32)))
theorem kX13_refusal {l : Launch} {Γ : Gl} {B : Bs} {w : Wl} {G : Gf} {sz : Nat} {l1 : Int32} {l2 : Int32} {l3 : Int32} {r : (Int32 × Wl)} (hW : Wd Γ B w G) (h : sX13_refusal w l1 l2 l3 = some r) : CtW l Γ yX13_refusal cX13_refusal 4 (some .int) 6 [.ref (B.1 + 371), .int l1, .int l2, .int l3] G sz B (some (.int (r.1))) r.2 := by
  refine Ct.of rfl (Nat.le_of_ble_eq_true rfl) fun X hx hr hl hΓ hnm => ?_
  subst hl hΓ
  show J X 4 G sz 0 0 0 [some (.ref (B.1 + 371)), some (.int l1), some (.int l2), some (.int l3)] []
  unfold sX13_refusal at h
  refine J_al4 hx rfl rfl dX13_refusal_0 ?_
  refine J_al4 hx rfl rfl dX13_refusal_1 ?_
  refine J_il4 hx rfl rfl dX13_refusal_2 ?_
  refine J_il4 hx rfl rfl dX13_refusal_3 ?_
  refine J_il4 hx rfl rfl dX13_refusal_4 ?_
  obtain ⟨r1, hr2, h⟩ := bnd h
  refine J_rdV hx (kX13_isSending  hW hr2) ml_X13_167 lk_X13_isSending (ci := 11) rfl (hW.obj (rfl : kd 371 = 19) (by decide) (by decide)) (rest := [.ref (B.1 + 371)]) rfl rfl (by decide) (by decide) (Nat.le_of_ble_eq_true rfl) (Nat.le_refl 0) (Nat.le_refl 0) dX13_refusal_5 ?_
  refine J_bif_eq hx 15 dX13_refusal_8 rfl (fun h3 => ?_) (fun h3 => ?_)
  · replace h := neg h (bft h3)
    refine J_iconst hx (1 : Int32) dX13_refusal_15 rfl ?_
    exact tX13_refusal_16 hx hr _ _ _ _ _  hW h
  · replace h := pos h h3
    refine J_iconst hx (0 : Int32) dX13_refusal_11 rfl ?_
    refine J_goto hx 16 dX13_refusal_12 rfl ?_
    exact tX13_refusal_16 hx hr _ _ _ _ _  hW h
theorem dX13_cratesBelow_0 : decode cX13_cratesBelow 0 = .ok (.iconst (-1), 1) := by decide +kernel
theorem dX13_cratesBelow_1 : decode cX13_cratesBelow 1 = .ok (.istore_n 2, 1) := by decide +kernel
theorem dX13_cratesBelow_2 : decode cX13_cratesBelow 2 = .ok (.iconst 0, 1) := by decide +kernel
theorem dX13_cratesBelow_3 : decode cX13_cratesBelow 3 = .ok (.istore_n 3, 1) := by decide +kernel
theorem dX13_cratesBelow_4 : decode cX13_cratesBelow 4 = .ok (.iload_n 3, 1) := by decide +kernel
theorem dX13_cratesBelow_5 : decode cX13_cratesBelow 5 = .ok (.aload_n 0, 1) := by decide +kernel
theorem dX13_cratesBelow_6 : decode cX13_cratesBelow 6 = .ok (.getfield 7, 3) := by decide +kernel
theorem dX13_cratesBelow_9 : decode cX13_cratesBelow 9 = .ok (.iconst 2, 1) := by decide +kernel
theorem dX13_cratesBelow_10 : decode cX13_cratesBelow 10 = .ok (.iaload, 1) := by decide +kernel
theorem dX13_cratesBelow_11 : decode cX13_cratesBelow 11 = .ok (.if_icmp .ge 26, 3) := by decide +kernel
theorem dX13_cratesBelow_14 : decode cX13_cratesBelow 14 = .ok (.iload_n 2, 1) := by decide +kernel
theorem dX13_cratesBelow_15 : decode cX13_cratesBelow 15 = .ok (.aload_n 0, 1) := by decide +kernel
theorem dX13_cratesBelow_16 : decode cX13_cratesBelow 16 = .ok (.iload_n 3, 1) := by decide +kernel
theorem dX13_cratesBelow_17 : decode cX13_cratesBelow 17 = .ok (.iload_n 1, 1) := by decide +kernel
theorem dX13_cratesBelow_18 : decode cX13_cratesBelow 18 = .ok (.invokevirtual 54, 3) := by decide +kernel
theorem dX13_cratesBelow_21 : decode cX13_cratesBelow 21 = .ok (.ifCond .eq 7, 3) := by decide +kernel
theorem dX13_cratesBelow_24 : decode cX13_cratesBelow 24 = .ok (.iconst 1, 1) := by decide +kernel
theorem dX13_cratesBelow_25 : decode cX13_cratesBelow 25 = .ok (.goto 4, 3) := by decide +kernel
theorem dX13_cratesBelow_28 : decode cX13_cratesBelow 28 = .ok (.iconst 0, 1) := by decide +kernel
theorem dX13_cratesBelow_29 : decode cX13_cratesBelow 29 = .ok (.iadd, 1) := by decide +kernel
theorem dX13_cratesBelow_30 : decode cX13_cratesBelow 30 = .ok (.istore_n 2, 1) := by decide +kernel
theorem dX13_cratesBelow_31 : decode cX13_cratesBelow 31 = .ok (.iinc 3 1, 3) := by decide +kernel
theorem dX13_cratesBelow_34 : decode cX13_cratesBelow 34 = .ok (.goto (-30), 3) := by decide +kernel
theorem dX13_cratesBelow_37 : decode cX13_cratesBelow 37 = .ok (.iload_n 2, 1) := by decide +kernel
theorem dX13_cratesBelow_38 : decode cX13_cratesBelow 38 = .ok (.ireturn, 1) := by decide +kernel
def sX13_cratesBelow_4 : Nat → Wl → Int32 → Int32 → Int32 → Option Int32
  | 0, _, _, _, _ => none
  | n + 1, w, l1, l2, l3 => (if (w 372 2) ≤ l3 then some l2 else (sX13_isWithin w l3 l1).bind (fun r2 => (if r2 = true then sX13_cratesBelow_4 n w l1 (l2 + (1 : Int32)) (l3 + 1) else sX13_cratesBelow_4 n w l1 (l2 + (0 : Int32)) (l3 + 1))))
theorem tX13_cratesBelow_4 {X : Cx} {B : Bs} {sz : Nat} {G : Gf} {r : Int32} (hx : Fx X cX13_cratesBelow 4 RX13 2 0 0) (hr : Rt X (some .int) 0 0 (RdΨ (.int (r)) G sz)) : ∀ (n : Nat), ∀ (w : Wl) (l1 : Int32) (l2 : Int32) (l3 : Int32) (hW : Wd (xΓ X) B w G) (h : sX13_cratesBelow_4 n w l1 l2 l3 = some r), J X 4 G sz 0 0 4 [some (.ref (B.1 + 371)), some (.int l1), some (.int l2), some (.int l3)] [] := by
  intro n
  induction n with
  | zero => intro w l1 l2 l3 hW h; rw [sX13_cratesBelow_4.eq_1] at h; cases h
  | succ n ih =>
    intro w l1 l2 l3 hW h
    rw [sX13_cratesBelow_4.eq_2] at h
    refine J_il4 hx rfl rfl dX13_cratesBelow_4 ?_
    refine J_al4 hx rfl rfl dX13_cratesBelow_5 ?_
    refine g13_0 hx hW 372 (rfl : kd 371 = 19) fl_X13_7 rfl dX13_cratesBelow_6 ?_
    refine J_iconst hx (2 : Int32) dX13_cratesBelow_9 rfl ?_
    refine J_iaW hx hW (rfl : kd 372 = 641) (by decide +kernel : idx (2 : Int32) 541 = some 2) dX13_cratesBelow_10 ?_
    refine J_icmp_ge hx 37 dX13_cratesBelow_11 rfl (fun h1 => ?_) (fun h1 => ?_)
    · replace h := pos h h1
      refine J_il4 hx rfl rfl dX13_cratesBelow_37 ?_
      exact J_iretR hx hr dX13_cratesBelow_38 (Nat.le_refl 0) (Nat.le_refl 0) (Option.some.inj h)
    · replace h := neg h h1
      refine J_il4 hx rfl rfl dX13_cratesBelow_14 ?_
      refine J_al4 hx rfl rfl dX13_cratesBelow_15 ?_
      refine J_il4 hx rfl rfl dX13_cratesBelow_16 ?_
      refine J_il4 hx rfl rfl dX13_cratesBelow_17 ?_
      obtain ⟨r2, hr3, h⟩ := bnd h
      refine J_rdV hx (kX13_isWithin  hW hr3) ml_X13_54 lk_X13_isWithin (ci := 11) rfl (hW.obj (rfl : kd 371 = 19) (by decide) (by decide)) (rest := [.int l2]) rfl rfl (by decide) (by decide) (Nat.le_of_ble_eq_true rfl) (Nat.le_refl 0) (Nat.le_refl 0) dX13_cratesBelow_18 ?_
      refine J_bif_eq hx 28 dX13_cratesBelow_21 rfl (fun h4 => ?_) (fun h4 => ?_)
      · replace h := neg h (bft h4)
        refine J_iconst hx (0 : Int32) dX13_cratesBelow_28 rfl ?_
        refine J_iadd hx dX13_cratesBelow_29 ?_
        refine J_is4 hx rfl (by decide) (hc_of rfl) rfl dX13_cratesBelow_30 ?_
        refine J_iinc hx (v' := (l3 + 1)) rfl rfl (by decide) (hc_of rfl) rfl dX13_cratesBelow_31 ?_
        refine J_goto hx 4 dX13_cratesBelow_34 rfl ?_
        exact ih _ _ _ _  hW h
      · replace h := pos h h4
        refine J_iconst hx (1 : Int32) dX13_cratesBelow_24 rfl ?_
        refine J_goto hx 29 dX13_cratesBelow_25 rfl ?_
        refine J_iadd hx dX13_cratesBelow_29 ?_
        refine J_is4 hx rfl (by decide) (hc_of rfl) rfl dX13_cratesBelow_30 ?_
        refine J_iinc hx (v' := (l3 + 1)) rfl rfl (by decide) (hc_of rfl) rfl dX13_cratesBelow_31 ?_
        refine J_goto hx 4 dX13_cratesBelow_34 rfl ?_
        exact ih _ _ _ _  hW h
def sX13_cratesBelow (w : Wl) (l1 : Int32) : Option Int32 := sX13_cratesBelow_4 FU w l1 (-1 : Int32) (0 : Int32)
theorem kX13_cratesBelow {l : Launch} {Γ : Gl} {B : Bs} {w : Wl} {G : Gf} {sz : Nat} {l1 : Int32} {r : Int32} (hW : Wd Γ B w G) (h : sX13_cratesBelow w l1 = some r) : CtR l Γ yX13_cratesBelow cX13_cratesBelow 4 (some .int) 2 [.ref (B.1 + 371), .int l1] G sz (.int (r)) := by
  refine Ct.of rfl (Nat.le_of_ble_eq_true rfl) fun X hx hr hl hΓ hnm => ?_
  subst hl hΓ
  show J X 4 G sz 0 0 0 [some (.ref (B.1 + 371)), some (.int l1), none, none] []
  unfold sX13_cratesBelow at h
  refine J_iconst hx (-1 : Int32) dX13_cratesBelow_0 rfl ?_
  refine J_is4 hx rfl (by decide) (hc_of rfl) rfl dX13_cratesBelow_1 ?_
  refine J_iconst hx (0 : Int32) dX13_cratesBelow_2 rfl ?_
  refine J_is4 hx rfl (by decide) (hc_of rfl) rfl dX13_cratesBelow_3 ?_
  exact tX13_cratesBelow_4 hx hr _ _ _ _ _  hW h
theorem dX13_crateOf_0 : decode cX13_crateOf 0 = .ok (.aload_n 0, 1) := by decide +kernel
theorem dX13_crateOf_1 : decode cX13_crateOf 1 = .ok (.iload_n 1, 1) := by decide +kernel
theorem dX13_crateOf_2 : decode cX13_crateOf 2 = .ok (.invokevirtual 44, 3) := by decide +kernel
theorem dX13_crateOf_5 : decode cX13_crateOf 5 = .ok (.istore_n 3, 1) := by decide +kernel
theorem dX13_crateOf_6 : decode cX13_crateOf 6 = .ok (.iload_n 2, 1) := by decide +kernel
theorem dX13_crateOf_7 : decode cX13_crateOf 7 = .ok (.tableswitch 210 0 12 #[65, 65, 65, 72, 74, 85, 96, 121, 146, 166, 190, 197, 203], 65) := by decide +kernel
theorem dX13_crateOf_72 : decode cX13_crateOf 72 = .ok (.aload_n 0, 1) := by decide +kernel
theorem dX13_crateOf_73 : decode cX13_crateOf 73 = .ok (.iload_n 1, 1) := by decide +kernel
theorem dX13_crateOf_74 : decode cX13_crateOf 74 = .ok (.iload_n 2, 1) := by decide +kernel
theorem dX13_crateOf_75 : decode cX13_crateOf 75 = .ok (.invokevirtual 36, 3) := by decide +kernel
theorem dX13_crateOf_78 : decode cX13_crateOf 78 = .ok (.ireturn, 1) := by decide +kernel
theorem dX13_crateOf_79 : decode cX13_crateOf 79 = .ok (.iload_n 3, 1) := by decide +kernel
theorem dX13_crateOf_80 : decode cX13_crateOf 80 = .ok (.ireturn, 1) := by decide +kernel
theorem dX13_crateOf_81 : decode cX13_crateOf 81 = .ok (.aload_n 0, 1) := by decide +kernel
theorem dX13_crateOf_82 : decode cX13_crateOf 82 = .ok (.aload_n 0, 1) := by decide +kernel
theorem dX13_crateOf_83 : decode cX13_crateOf 83 = .ok (.iload_n 1, 1) := by decide +kernel
theorem dX13_crateOf_84 : decode cX13_crateOf 84 = .ok (.invokevirtual 40, 3) := by decide +kernel
theorem dX13_crateOf_87 : decode cX13_crateOf 87 = .ok (.iconst 4, 1) := by decide +kernel
theorem dX13_crateOf_88 : decode cX13_crateOf 88 = .ok (.invokevirtual 36, 3) := by decide +kernel
theorem dX13_crateOf_91 : decode cX13_crateOf 91 = .ok (.ireturn, 1) := by decide +kernel
theorem dX13_crateOf_92 : decode cX13_crateOf 92 = .ok (.aload_n 0, 1) := by decide +kernel
theorem dX13_crateOf_93 : decode cX13_crateOf 93 = .ok (.aload_n 0, 1) := by decide +kernel
theorem dX13_crateOf_94 : decode cX13_crateOf 94 = .ok (.iload_n 1, 1) := by decide +kernel
theorem dX13_crateOf_95 : decode cX13_crateOf 95 = .ok (.invokevirtual 40, 3) := by decide +kernel
theorem dX13_crateOf_98 : decode cX13_crateOf 98 = .ok (.iconst 5, 1) := by decide +kernel
theorem dX13_crateOf_99 : decode cX13_crateOf 99 = .ok (.invokevirtual 36, 3) := by decide +kernel
theorem dX13_crateOf_102 : decode cX13_crateOf 102 = .ok (.ireturn, 1) := by decide +kernel
theorem dX13_crateOf_103 : decode cX13_crateOf 103 = .ok (.aload_n 0, 1) := by decide +kernel
theorem dX13_crateOf_104 : decode cX13_crateOf 104 = .ok (.iload_n 1, 1) := by decide +kernel
theorem dX13_crateOf_105 : decode cX13_crateOf 105 = .ok (.invokevirtual 47, 3) := by decide +kernel
theorem dX13_crateOf_108 : decode cX13_crateOf 108 = .ok (.ifCond .eq 12, 3) := by decide +kernel
theorem dX13_crateOf_111 : decode cX13_crateOf 111 = .ok (.aload_n 0, 1) := by decide +kernel
theorem dX13_crateOf_112 : decode cX13_crateOf 112 = .ok (.iload_n 3, 1) := by decide +kernel
theorem dX13_crateOf_113 : decode cX13_crateOf 113 = .ok (.iconst 0, 1) := by decide +kernel
theorem dX13_crateOf_114 : decode cX13_crateOf 114 = .ok (.invokevirtual 68, 3) := by decide +kernel
theorem dX13_crateOf_117 : decode cX13_crateOf 117 = .ok (.goto 10, 3) := by decide +kernel
theorem dX13_crateOf_120 : decode cX13_crateOf 120 = .ok (.aload_n 0, 1) := by decide +kernel
theorem dX13_crateOf_121 : decode cX13_crateOf 121 = .ok (.iload_n 1, 1) := by decide +kernel
theorem dX13_crateOf_122 : decode cX13_crateOf 122 = .ok (.bipush 6, 2) := by decide +kernel
theorem dX13_crateOf_124 : decode cX13_crateOf 124 = .ok (.invokevirtual 36, 3) := by decide +kernel
theorem dX13_crateOf_127 : decode cX13_crateOf 127 = .ok (.ireturn, 1) := by decide +kernel
theorem dX13_crateOf_128 : decode cX13_crateOf 128 = .ok (.aload_n 0, 1) := by decide +kernel
theorem dX13_crateOf_129 : decode cX13_crateOf 129 = .ok (.iload_n 1, 1) := by decide +kernel
theorem dX13_crateOf_130 : decode cX13_crateOf 130 = .ok (.invokevirtual 47, 3) := by decide +kernel
theorem dX13_crateOf_133 : decode cX13_crateOf 133 = .ok (.ifCond .eq 12, 3) := by decide +kernel
theorem dX13_crateOf_136 : decode cX13_crateOf 136 = .ok (.aload_n 0, 1) := by decide +kernel
theorem dX13_crateOf_137 : decode cX13_crateOf 137 = .ok (.iload_n 3, 1) := by decide +kernel
theorem dX13_crateOf_138 : decode cX13_crateOf 138 = .ok (.iconst 1, 1) := by decide +kernel
theorem dX13_crateOf_139 : decode cX13_crateOf 139 = .ok (.invokevirtual 68, 3) := by decide +kernel
theorem dX13_crateOf_142 : decode cX13_crateOf 142 = .ok (.goto 10, 3) := by decide +kernel
theorem dX13_crateOf_145 : decode cX13_crateOf 145 = .ok (.aload_n 0, 1) := by decide +kernel
theorem dX13_crateOf_146 : decode cX13_crateOf 146 = .ok (.iload_n 1, 1) := by decide +kernel
theorem dX13_crateOf_147 : decode cX13_crateOf 147 = .ok (.bipush 7, 2) := by decide +kernel
theorem dX13_crateOf_149 : decode cX13_crateOf 149 = .ok (.invokevirtual 36, 3) := by decide +kernel
theorem dX13_crateOf_152 : decode cX13_crateOf 152 = .ok (.ireturn, 1) := by decide +kernel
theorem dX13_crateOf_153 : decode cX13_crateOf 153 = .ok (.aload_n 0, 1) := by decide +kernel
theorem dX13_crateOf_154 : decode cX13_crateOf 154 = .ok (.iload_n 1, 1) := by decide +kernel
theorem dX13_crateOf_155 : decode cX13_crateOf 155 = .ok (.invokevirtual 47, 3) := by decide +kernel
theorem dX13_crateOf_158 : decode cX13_crateOf 158 = .ok (.ifCond .eq 7, 3) := by decide +kernel
theorem dX13_crateOf_161 : decode cX13_crateOf 161 = .ok (.iconst (-1), 1) := by decide +kernel
theorem dX13_crateOf_162 : decode cX13_crateOf 162 = .ok (.goto 10, 3) := by decide +kernel
theorem dX13_crateOf_165 : decode cX13_crateOf 165 = .ok (.aload_n 0, 1) := by decide +kernel
theorem dX13_crateOf_166 : decode cX13_crateOf 166 = .ok (.iload_n 1, 1) := by decide +kernel
theorem dX13_crateOf_167 : decode cX13_crateOf 167 = .ok (.bipush 8, 2) := by decide +kernel
theorem dX13_crateOf_169 : decode cX13_crateOf 169 = .ok (.invokevirtual 36, 3) := by decide +kernel
theorem dX13_crateOf_172 : decode cX13_crateOf 172 = .ok (.ireturn, 1) := by decide +kernel
theorem dX13_crateOf_173 : decode cX13_crateOf 173 = .ok (.aload_n 0, 1) := by decide +kernel
theorem dX13_crateOf_174 : decode cX13_crateOf 174 = .ok (.iload_n 1, 1) := by decide +kernel
theorem dX13_crateOf_175 : decode cX13_crateOf 175 = .ok (.invokevirtual 47, 3) := by decide +kernel
theorem dX13_crateOf_178 : decode cX13_crateOf 178 = .ok (.ifCond .ne 8, 3) := by decide +kernel
theorem dX13_crateOf_181 : decode cX13_crateOf 181 = .ok (.iload_n 3, 1) := by decide +kernel
theorem dX13_crateOf_182 : decode cX13_crateOf 182 = .ok (.iconst (-1), 1) := by decide +kernel
theorem dX13_crateOf_183 : decode cX13_crateOf 183 = .ok (.if_icmp .ne 7, 3) := by decide +kernel
theorem dX13_crateOf_186 : decode cX13_crateOf 186 = .ok (.iconst (-1), 1) := by decide +kernel
theorem dX13_crateOf_187 : decode cX13_crateOf 187 = .ok (.goto 9, 3) := by decide +kernel
theorem dX13_crateOf_190 : decode cX13_crateOf 190 = .ok (.aload_n 0, 1) := by decide +kernel
theorem dX13_crateOf_191 : decode cX13_crateOf 191 = .ok (.iload_n 1, 1) := by decide +kernel
theorem dX13_crateOf_192 : decode cX13_crateOf 192 = .ok (.iload_n 3, 1) := by decide +kernel
theorem dX13_crateOf_193 : decode cX13_crateOf 193 = .ok (.invokevirtual 91, 3) := by decide +kernel
theorem dX13_crateOf_196 : decode cX13_crateOf 196 = .ok (.ireturn, 1) := by decide +kernel
theorem dX13_crateOf_197 : decode cX13_crateOf 197 = .ok (.aload_n 0, 1) := by decide +kernel
theorem dX13_crateOf_198 : decode cX13_crateOf 198 = .ok (.iload_n 1, 1) := by decide +kernel
theorem dX13_crateOf_199 : decode cX13_crateOf 199 = .ok (.iconst 0, 1) := by decide +kernel
theorem dX13_crateOf_200 : decode cX13_crateOf 200 = .ok (.invokevirtual 103, 3) := by decide +kernel
theorem dX13_crateOf_203 : decode cX13_crateOf 203 = .ok (.ireturn, 1) := by decide +kernel
theorem dX13_crateOf_204 : decode cX13_crateOf 204 = .ok (.aload_n 0, 1) := by decide +kernel
theorem dX13_crateOf_205 : decode cX13_crateOf 205 = .ok (.iload_n 1, 1) := by decide +kernel
theorem dX13_crateOf_206 : decode cX13_crateOf 206 = .ok (.invokevirtual 203, 3) := by decide +kernel
theorem dX13_crateOf_209 : decode cX13_crateOf 209 = .ok (.ireturn, 1) := by decide +kernel
theorem dX13_crateOf_210 : decode cX13_crateOf 210 = .ok (.aload_n 0, 1) := by decide +kernel
theorem dX13_crateOf_211 : decode cX13_crateOf 211 = .ok (.iload_n 1, 1) := by decide +kernel
theorem dX13_crateOf_212 : decode cX13_crateOf 212 = .ok (.iconst 1, 1) := by decide +kernel
theorem dX13_crateOf_213 : decode cX13_crateOf 213 = .ok (.invokevirtual 103, 3) := by decide +kernel
theorem dX13_crateOf_216 : decode cX13_crateOf 216 = .ok (.ireturn, 1) := by decide +kernel
theorem dX13_crateOf_217 : decode cX13_crateOf 217 = .ok (.aload_n 0, 1) := by decide +kernel
theorem dX13_crateOf_218 : decode cX13_crateOf 218 = .ok (.iload_n 1, 1) := by decide +kernel
theorem dX13_crateOf_219 : decode cX13_crateOf 219 = .ok (.invokevirtual 88, 3) := by decide +kernel
theorem dX13_crateOf_222 : decode cX13_crateOf 222 = .ok (.ifCond .eq 7, 3) := by decide +kernel
theorem dX13_crateOf_225 : decode cX13_crateOf 225 = .ok (.iconst 1, 1) := by decide +kernel
theorem dX13_crateOf_226 : decode cX13_crateOf 226 = .ok (.goto 4, 3) := by decide +kernel
theorem dX13_crateOf_229 : decode cX13_crateOf 229 = .ok (.iconst 0, 1) := by decide +kernel
theorem dX13_crateOf_230 : decode cX13_crateOf 230 = .ok (.ireturn, 1) := by decide +kernel
def sX13_crateOf (w : Wl) (l1 : Int32) (l2 : Int32) : Option Int32 := (sX13_venueOf w l1).bind (fun r1 => (if l2 = 0 then (sX13_of w l1 l2).bind (fun r4 => some r4) else (if l2 = 1 then (sX13_of w l1 l2).bind (fun r7 => some r7) else (if l2 = 2 then (sX13_of w l1 l2).bind (fun r10 => some r10) else (if l2 = 3 then some r1 else (if l2 = 4 then (sX13_outermost w l1).bind (fun r14 => (sX13_of w r14 (4 : Int32)).bind (fun r16 => some r16)) else (if l2 = 5 then (sX13_outermost w l1).bind (fun r19 => (sX13_of w r19 (5 : Int32)).bind (fun r21 => some r21)) else (if l2 = 6 then (sX13_isOpen w l1).bind (fun r24 => (if r24 = true then (sX13_ofVenue w r1 (0 : Int32)).bind (fun r29 => some r29) else (sX13_of w l1 (6 : Int32)).bind (fun r27 => some r27))) else (if l2 = 7 then (sX13_isOpen w l1).bind (fun r32 => (if r32 = true then (sX13_ofVenue w r1 (1 : Int32)).bind (fun r37 => some r37) else (sX13_of w l1 (7 : Int32)).bind (fun r35 => some r35))) else (if l2 = 8 then (sX13_isOpen w l1).bind (fun r40 => (if r40 = true then some (-1 : Int32) else (sX13_of w l1 (8 : Int32)).bind (fun r43 => some r43))) else (if l2 = 9 then (sX13_isOpen w l1).bind (fun r46 => (if r46 = true then some (-1 : Int32) else (if r1 = (-1 : Int32) then some (-1 : Int32) else (sX13_needs w l1 r1).bind (fun r50 => some r50)))) else (if l2 = 10 then (sX13_worksIn w l1 (0 : Int32)).bind (fun r53 => some r53) else (if l2 = 11 then (sX13_cratesBelow w l1).bind (fun r56 => some r56) else (if l2 = 12 then (sX13_worksIn w l1 (1 : Int32)).bind (fun r59 => some r59) else (sX13_isReached w l1).bind (fun r61 => (if r61 = true then some (1 : Int32) else some (0 : Int32)))))))))))))))))
theorem kX13_crateOf {l : Launch} {Γ : Gl} {B : Bs} {w : Wl} {G : Gf} {sz : Nat} {l1 : Int32} {l2 : Int32} {r : Int32} (hW : Wd Γ B w G) (h : sX13_crateOf w l1 l2 = some r) : CtR l Γ yX13_crateOf cX13_crateOf 4 (some .int) 4 [.ref (B.1 + 371), .int l1, .int l2] G sz (.int (r)) := by
  refine Ct.of rfl (Nat.le_of_ble_eq_true rfl) fun X hx hr hl hΓ hnm => ?_
  subst hl hΓ
  show J X 4 G sz 0 0 0 [some (.ref (B.1 + 371)), some (.int l1), some (.int l2), none] []
  unfold sX13_crateOf at h
  refine J_al4 hx rfl rfl dX13_crateOf_0 ?_
  refine J_il4 hx rfl rfl dX13_crateOf_1 ?_
  obtain ⟨r1, hr2, h⟩ := bnd h
  refine J_rdV hx (kX13_venueOf  hW hr2) ml_X13_44 lk_X13_venueOf (ci := 11) rfl (hW.obj (rfl : kd 371 = 19) (by decide) (by decide)) (rest := []) rfl rfl (by decide) (by decide) (Nat.le_of_ble_eq_true rfl) (Nat.le_refl 0) (Nat.le_refl 0) dX13_crateOf_2 ?_
  refine J_is4 hx rfl (by decide) (hc_of rfl) rfl dX13_crateOf_5 ?_
  refine J_il4 hx rfl rfl dX13_crateOf_6 ?_
  by_cases h3 : l2 = 0
  · replace h := pos h h3
    refine J_swIn hx 72 dX13_crateOf_7 (by rw [h3]; decide) (by rw [h3]; decide) (by rw [h3]; rfl) rfl ?_
    refine J_al4 hx rfl rfl dX13_crateOf_72 ?_
    refine J_il4 hx rfl rfl dX13_crateOf_73 ?_
    refine J_il4 hx rfl rfl dX13_crateOf_74 ?_
    obtain ⟨r4, hr5, h⟩ := bnd h
    refine J_rdV hx (kX13_of  hW hr5) ml_X13_36 lk_X13_of (ci := 11) rfl (hW.obj (rfl : kd 371 = 19) (by decide) (by decide)) (rest := []) rfl rfl (by decide) (by decide) (Nat.le_of_ble_eq_true rfl) (Nat.le_refl 0) (Nat.le_refl 0) dX13_crateOf_75 ?_
    exact J_iretR hx hr dX13_crateOf_78 (Nat.le_refl 0) (Nat.le_refl 0) (Option.some.inj h)
  replace h := neg h h3
  by_cases h6 : l2 = 1
  · replace h := pos h h6
    refine J_swIn hx 72 dX13_crateOf_7 (by rw [h6]; decide) (by rw [h6]; decide) (by rw [h6]; rfl) rfl ?_
    refine J_al4 hx rfl rfl dX13_crateOf_72 ?_
    refine J_il4 hx rfl rfl dX13_crateOf_73 ?_
    refine J_il4 hx rfl rfl dX13_crateOf_74 ?_
    obtain ⟨r7, hr8, h⟩ := bnd h
    refine J_rdV hx (kX13_of  hW hr8) ml_X13_36 lk_X13_of (ci := 11) rfl (hW.obj (rfl : kd 371 = 19) (by decide) (by decide)) (rest := []) rfl rfl (by decide) (by decide) (Nat.le_of_ble_eq_true rfl) (Nat.le_refl 0) (Nat.le_refl 0) dX13_crateOf_75 ?_
    exact J_iretR hx hr dX13_crateOf_78 (Nat.le_refl 0) (Nat.le_refl 0) (Option.some.inj h)
  replace h := neg h h6
  by_cases h9 : l2 = 2
  · replace h := pos h h9
    refine J_swIn hx 72 dX13_crateOf_7 (by rw [h9]; decide) (by rw [h9]; decide) (by rw [h9]; rfl) rfl ?_
    refine J_al4 hx rfl rfl dX13_crateOf_72 ?_
    refine J_il4 hx rfl rfl dX13_crateOf_73 ?_
    refine J_il4 hx rfl rfl dX13_crateOf_74 ?_
    obtain ⟨r10, hr11, h⟩ := bnd h
    refine J_rdV hx (kX13_of  hW hr11) ml_X13_36 lk_X13_of (ci := 11) rfl (hW.obj (rfl : kd 371 = 19) (by decide) (by decide)) (rest := []) rfl rfl (by decide) (by decide) (Nat.le_of_ble_eq_true rfl) (Nat.le_refl 0) (Nat.le_refl 0) dX13_crateOf_75 ?_
    exact J_iretR hx hr dX13_crateOf_78 (Nat.le_refl 0) (Nat.le_refl 0) (Option.some.inj h)
  replace h := neg h h9
  by_cases h12 : l2 = 3
  · replace h := pos h h12
    refine J_swIn hx 79 dX13_crateOf_7 (by rw [h12]; decide) (by rw [h12]; decide) (by rw [h12]; rfl) rfl ?_
    refine J_il4 hx rfl rfl dX13_crateOf_79 ?_
    exact J_iretR hx hr dX13_crateOf_80 (Nat.le_refl 0) (Nat.le_refl 0) (Option.some.inj h)
  replace h := neg h h12
  by_cases h13 : l2 = 4
  · replace h := pos h h13
    refine J_swIn hx 81 dX13_crateOf_7 (by rw [h13]; decide) (by rw [h13]; decide) (by rw [h13]; rfl) rfl ?_
    refine J_al4 hx rfl rfl dX13_crateOf_81 ?_
    refine J_al4 hx rfl rfl dX13_crateOf_82 ?_
    refine J_il4 hx rfl rfl dX13_crateOf_83 ?_
    obtain ⟨r14, hr15, h⟩ := bnd h
    refine J_rdV hx (kX13_outermost  hW hr15) ml_X13_40 lk_X13_outermost (ci := 11) rfl (hW.obj (rfl : kd 371 = 19) (by decide) (by decide)) (rest := [.ref (B.1 + 371)]) rfl rfl (by decide) (by decide) (Nat.le_of_ble_eq_true rfl) (Nat.le_refl 0) (Nat.le_refl 0) dX13_crateOf_84 ?_
    refine J_iconst hx (4 : Int32) dX13_crateOf_87 rfl ?_
    obtain ⟨r16, hr17, h⟩ := bnd h
    refine J_rdV hx (kX13_of  hW hr17) ml_X13_36 lk_X13_of (ci := 11) rfl (hW.obj (rfl : kd 371 = 19) (by decide) (by decide)) (rest := []) rfl rfl (by decide) (by decide) (Nat.le_of_ble_eq_true rfl) (Nat.le_refl 0) (Nat.le_refl 0) dX13_crateOf_88 ?_
    exact J_iretR hx hr dX13_crateOf_91 (Nat.le_refl 0) (Nat.le_refl 0) (Option.some.inj h)
  replace h := neg h h13
  by_cases h18 : l2 = 5
  · replace h := pos h h18
    refine J_swIn hx 92 dX13_crateOf_7 (by rw [h18]; decide) (by rw [h18]; decide) (by rw [h18]; rfl) rfl ?_
    refine J_al4 hx rfl rfl dX13_crateOf_92 ?_
    refine J_al4 hx rfl rfl dX13_crateOf_93 ?_
    refine J_il4 hx rfl rfl dX13_crateOf_94 ?_
    obtain ⟨r19, hr20, h⟩ := bnd h
    refine J_rdV hx (kX13_outermost  hW hr20) ml_X13_40 lk_X13_outermost (ci := 11) rfl (hW.obj (rfl : kd 371 = 19) (by decide) (by decide)) (rest := [.ref (B.1 + 371)]) rfl rfl (by decide) (by decide) (Nat.le_of_ble_eq_true rfl) (Nat.le_refl 0) (Nat.le_refl 0) dX13_crateOf_95 ?_
    refine J_iconst hx (5 : Int32) dX13_crateOf_98 rfl ?_
    obtain ⟨r21, hr22, h⟩ := bnd h
    refine J_rdV hx (kX13_of  hW hr22) ml_X13_36 lk_X13_of (ci := 11) rfl (hW.obj (rfl : kd 371 = 19) (by decide) (by decide)) (rest := []) rfl rfl (by decide) (by decide) (Nat.le_of_ble_eq_true rfl) (Nat.le_refl 0) (Nat.le_refl 0) dX13_crateOf_99 ?_
    exact J_iretR hx hr dX13_crateOf_102 (Nat.le_refl 0) (Nat.le_refl 0) (Option.some.inj h)
  replace h := neg h h18
  by_cases h23 : l2 = 6
  · replace h := pos h h23
    refine J_swIn hx 103 dX13_crateOf_7 (by rw [h23]; decide) (by rw [h23]; decide) (by rw [h23]; rfl) rfl ?_
    refine J_al4 hx rfl rfl dX13_crateOf_103 ?_
    refine J_il4 hx rfl rfl dX13_crateOf_104 ?_
    obtain ⟨r24, hr25, h⟩ := bnd h
    refine J_rdV hx (kX13_isOpen  hW hr25) ml_X13_47 lk_X13_isOpen (ci := 11) rfl (hW.obj (rfl : kd 371 = 19) (by decide) (by decide)) (rest := []) rfl rfl (by decide) (by decide) (Nat.le_of_ble_eq_true rfl) (Nat.le_refl 0) (Nat.le_refl 0) dX13_crateOf_105 ?_
    refine J_bif_eq hx 120 dX13_crateOf_108 rfl (fun h26 => ?_) (fun h26 => ?_)
    · replace h := neg h (bft h26)
      refine J_al4 hx rfl rfl dX13_crateOf_120 ?_
      refine J_il4 hx rfl rfl dX13_crateOf_121 ?_
      refine J_bipush hx (6 : Int32) dX13_crateOf_122 rfl ?_
      obtain ⟨r27, hr28, h⟩ := bnd h
      refine J_rdV hx (kX13_of  hW hr28) ml_X13_36 lk_X13_of (ci := 11) rfl (hW.obj (rfl : kd 371 = 19) (by decide) (by decide)) (rest := []) rfl rfl (by decide) (by decide) (Nat.le_of_ble_eq_true rfl) (Nat.le_refl 0) (Nat.le_refl 0) dX13_crateOf_124 ?_
      exact J_iretR hx hr dX13_crateOf_127 (Nat.le_refl 0) (Nat.le_refl 0) (Option.some.inj h)
    · replace h := pos h h26
      refine J_al4 hx rfl rfl dX13_crateOf_111 ?_
      refine J_il4 hx rfl rfl dX13_crateOf_112 ?_
      refine J_iconst hx (0 : Int32) dX13_crateOf_113 rfl ?_
      obtain ⟨r29, hr30, h⟩ := bnd h
      refine J_rdV hx (kX13_ofVenue  hW hr30) ml_X13_68 lk_X13_ofVenue (ci := 11) rfl (hW.obj (rfl : kd 371 = 19) (by decide) (by decide)) (rest := []) rfl rfl (by decide) (by decide) (Nat.le_of_ble_eq_true rfl) (Nat.le_refl 0) (Nat.le_refl 0) dX13_crateOf_114 ?_
      refine J_goto hx 127 dX13_crateOf_117 rfl ?_
      exact J_iretR hx hr dX13_crateOf_127 (Nat.le_refl 0) (Nat.le_refl 0) (Option.some.inj h)
  replace h := neg h h23
  by_cases h31 : l2 = 7
  · replace h := pos h h31
    refine J_swIn hx 128 dX13_crateOf_7 (by rw [h31]; decide) (by rw [h31]; decide) (by rw [h31]; rfl) rfl ?_
    refine J_al4 hx rfl rfl dX13_crateOf_128 ?_
    refine J_il4 hx rfl rfl dX13_crateOf_129 ?_
    obtain ⟨r32, hr33, h⟩ := bnd h
    refine J_rdV hx (kX13_isOpen  hW hr33) ml_X13_47 lk_X13_isOpen (ci := 11) rfl (hW.obj (rfl : kd 371 = 19) (by decide) (by decide)) (rest := []) rfl rfl (by decide) (by decide) (Nat.le_of_ble_eq_true rfl) (Nat.le_refl 0) (Nat.le_refl 0) dX13_crateOf_130 ?_
    refine J_bif_eq hx 145 dX13_crateOf_133 rfl (fun h34 => ?_) (fun h34 => ?_)
    · replace h := neg h (bft h34)
      refine J_al4 hx rfl rfl dX13_crateOf_145 ?_
      refine J_il4 hx rfl rfl dX13_crateOf_146 ?_
      refine J_bipush hx (7 : Int32) dX13_crateOf_147 rfl ?_
      obtain ⟨r35, hr36, h⟩ := bnd h
      refine J_rdV hx (kX13_of  hW hr36) ml_X13_36 lk_X13_of (ci := 11) rfl (hW.obj (rfl : kd 371 = 19) (by decide) (by decide)) (rest := []) rfl rfl (by decide) (by decide) (Nat.le_of_ble_eq_true rfl) (Nat.le_refl 0) (Nat.le_refl 0) dX13_crateOf_149 ?_
      exact J_iretR hx hr dX13_crateOf_152 (Nat.le_refl 0) (Nat.le_refl 0) (Option.some.inj h)
    · replace h := pos h h34
      refine J_al4 hx rfl rfl dX13_crateOf_136 ?_
      refine J_il4 hx rfl rfl dX13_crateOf_137 ?_
      refine J_iconst hx (1 : Int32) dX13_crateOf_138 rfl ?_
      obtain ⟨r37, hr38, h⟩ := bnd h
      refine J_rdV hx (kX13_ofVenue  hW hr38) ml_X13_68 lk_X13_ofVenue (ci := 11) rfl (hW.obj (rfl : kd 371 = 19) (by decide) (by decide)) (rest := []) rfl rfl (by decide) (by decide) (Nat.le_of_ble_eq_true rfl) (Nat.le_refl 0) (Nat.le_refl 0) dX13_crateOf_139 ?_
      refine J_goto hx 152 dX13_crateOf_142 rfl ?_
      exact J_iretR hx hr dX13_crateOf_152 (Nat.le_refl 0) (Nat.le_refl 0) (Option.some.inj h)
  replace h := neg h h31
  by_cases h39 : l2 = 8
  · replace h := pos h h39
    refine J_swIn hx 153 dX13_crateOf_7 (by rw [h39]; decide) (by rw [h39]; decide) (by rw [h39]; rfl) rfl ?_
    refine J_al4 hx rfl rfl dX13_crateOf_153 ?_
    refine J_il4 hx rfl rfl dX13_crateOf_154 ?_
    obtain ⟨r40, hr41, h⟩ := bnd h
    refine J_rdV hx (kX13_isOpen  hW hr41) ml_X13_47 lk_X13_isOpen (ci := 11) rfl (hW.obj (rfl : kd 371 = 19) (by decide) (by decide)) (rest := []) rfl rfl (by decide) (by decide) (Nat.le_of_ble_eq_true rfl) (Nat.le_refl 0) (Nat.le_refl 0) dX13_crateOf_155 ?_
    refine J_bif_eq hx 165 dX13_crateOf_158 rfl (fun h42 => ?_) (fun h42 => ?_)
    · replace h := neg h (bft h42)
      refine J_al4 hx rfl rfl dX13_crateOf_165 ?_
      refine J_il4 hx rfl rfl dX13_crateOf_166 ?_
      refine J_bipush hx (8 : Int32) dX13_crateOf_167 rfl ?_
      obtain ⟨r43, hr44, h⟩ := bnd h
      refine J_rdV hx (kX13_of  hW hr44) ml_X13_36 lk_X13_of (ci := 11) rfl (hW.obj (rfl : kd 371 = 19) (by decide) (by decide)) (rest := []) rfl rfl (by decide) (by decide) (Nat.le_of_ble_eq_true rfl) (Nat.le_refl 0) (Nat.le_refl 0) dX13_crateOf_169 ?_
      exact J_iretR hx hr dX13_crateOf_172 (Nat.le_refl 0) (Nat.le_refl 0) (Option.some.inj h)
    · replace h := pos h h42
      refine J_iconst hx (-1 : Int32) dX13_crateOf_161 rfl ?_
      refine J_goto hx 172 dX13_crateOf_162 rfl ?_
      exact J_iretR hx hr dX13_crateOf_172 (Nat.le_refl 0) (Nat.le_refl 0) (Option.some.inj h)
  replace h := neg h h39
  by_cases h45 : l2 = 9
  · replace h := pos h h45
    refine J_swIn hx 173 dX13_crateOf_7 (by rw [h45]; decide) (by rw [h45]; decide) (by rw [h45]; rfl) rfl ?_
    refine J_al4 hx rfl rfl dX13_crateOf_173 ?_
    refine J_il4 hx rfl rfl dX13_crateOf_174 ?_
    obtain ⟨r46, hr47, h⟩ := bnd h
    refine J_rdV hx (kX13_isOpen  hW hr47) ml_X13_47 lk_X13_isOpen (ci := 11) rfl (hW.obj (rfl : kd 371 = 19) (by decide) (by decide)) (rest := []) rfl rfl (by decide) (by decide) (Nat.le_of_ble_eq_true rfl) (Nat.le_refl 0) (Nat.le_refl 0) dX13_crateOf_175 ?_
    refine J_bif_ne hx 186 dX13_crateOf_178 rfl (fun h48 => ?_) (fun h48 => ?_)
    · replace h := pos h h48
      refine J_iconst hx (-1 : Int32) dX13_crateOf_186 rfl ?_
      refine J_goto hx 196 dX13_crateOf_187 rfl ?_
      exact J_iretR hx hr dX13_crateOf_196 (Nat.le_refl 0) (Nat.le_refl 0) (Option.some.inj h)
    · replace h := neg h (bft h48)
      refine J_il4 hx rfl rfl dX13_crateOf_181 ?_
      refine J_iconst hx (-1 : Int32) dX13_crateOf_182 rfl ?_
      refine J_icmp_ne hx 190 dX13_crateOf_183 rfl (fun h49 => ?_) (fun h49 => ?_)
      · replace h := neg h h49
        refine J_al4 hx rfl rfl dX13_crateOf_190 ?_
        refine J_il4 hx rfl rfl dX13_crateOf_191 ?_
        refine J_il4 hx rfl rfl dX13_crateOf_192 ?_
        obtain ⟨r50, hr51, h⟩ := bnd h
        refine J_rdV hx (kX13_needs  hW hr51) ml_X13_91 lk_X13_needs (ci := 11) rfl (hW.obj (rfl : kd 371 = 19) (by decide) (by decide)) (rest := []) rfl rfl (by decide) (by decide) (Nat.le_of_ble_eq_true rfl) (Nat.le_refl 0) (Nat.le_refl 0) dX13_crateOf_193 ?_
        exact J_iretR hx hr dX13_crateOf_196 (Nat.le_refl 0) (Nat.le_refl 0) (Option.some.inj h)
      · replace h := pos h h49
        refine J_iconst hx (-1 : Int32) dX13_crateOf_186 rfl ?_
        refine J_goto hx 196 dX13_crateOf_187 rfl ?_
        exact J_iretR hx hr dX13_crateOf_196 (Nat.le_refl 0) (Nat.le_refl 0) (Option.some.inj h)
  replace h := neg h h45
  by_cases h52 : l2 = 10
  · replace h := pos h h52
    refine J_swIn hx 197 dX13_crateOf_7 (by rw [h52]; decide) (by rw [h52]; decide) (by rw [h52]; rfl) rfl ?_
    refine J_al4 hx rfl rfl dX13_crateOf_197 ?_
    refine J_il4 hx rfl rfl dX13_crateOf_198 ?_
    refine J_iconst hx (0 : Int32) dX13_crateOf_199 rfl ?_
    obtain ⟨r53, hr54, h⟩ := bnd h
    refine J_rdV hx (kX13_worksIn  hW hr54) ml_X13_103 lk_X13_worksIn (ci := 11) rfl (hW.obj (rfl : kd 371 = 19) (by decide) (by decide)) (rest := []) rfl rfl (by decide) (by decide) (Nat.le_of_ble_eq_true rfl) (Nat.le_refl 0) (Nat.le_refl 0) dX13_crateOf_200 ?_
    exact J_iretR hx hr dX13_crateOf_203 (Nat.le_refl 0) (Nat.le_refl 0) (Option.some.inj h)
  replace h := neg h h52
  by_cases h55 : l2 = 11
  · replace h := pos h h55
    refine J_swIn hx 204 dX13_crateOf_7 (by rw [h55]; decide) (by rw [h55]; decide) (by rw [h55]; rfl) rfl ?_
    refine J_al4 hx rfl rfl dX13_crateOf_204 ?_
    refine J_il4 hx rfl rfl dX13_crateOf_205 ?_
    obtain ⟨r56, hr57, h⟩ := bnd h
    refine J_rdV hx (kX13_cratesBelow  hW hr57) ml_X13_203 lk_X13_cratesBelow (ci := 11) rfl (hW.obj (rfl : kd 371 = 19) (by decide) (by decide)) (rest := []) rfl rfl (by decide) (by decide) (Nat.le_of_ble_eq_true rfl) (Nat.le_refl 0) (Nat.le_refl 0) dX13_crateOf_206 ?_
    exact J_iretR hx hr dX13_crateOf_209 (Nat.le_refl 0) (Nat.le_refl 0) (Option.some.inj h)
  replace h := neg h h55
  by_cases h58 : l2 = 12
  · replace h := pos h h58
    refine J_swIn hx 210 dX13_crateOf_7 (by rw [h58]; decide) (by rw [h58]; decide) (by rw [h58]; rfl) rfl ?_
    refine J_al4 hx rfl rfl dX13_crateOf_210 ?_
    refine J_il4 hx rfl rfl dX13_crateOf_211 ?_
    refine J_iconst hx (1 : Int32) dX13_crateOf_212 rfl ?_
    obtain ⟨r59, hr60, h⟩ := bnd h
    refine J_rdV hx (kX13_worksIn  hW hr60) ml_X13_103 lk_X13_worksIn (ci := 11) rfl (hW.obj (rfl : kd 371 = 19) (by decide) (by decide)) (rest := []) rfl rfl (by decide) (by decide) (Nat.le_of_ble_eq_true rfl) (Nat.le_refl 0) (Nat.le_refl 0) dX13_crateOf_213 ?_
    exact J_iretR hx hr dX13_crateOf_216 (Nat.le_refl 0) (Nat.le_refl 0) (Option.some.inj h)
  replace h := neg h h58
  refine J_swOut hx 217 dX13_crateOf_7 (swD fun j jl jh e => by
      have hj : j = 0 ∨ j = 1 ∨ j = 2 ∨ j = 3 ∨ j = 4 ∨ j = 5 ∨ j = 6 ∨ j = 7 ∨ j = 8 ∨ j = 9 ∨ j = 10 ∨ j = 11 ∨ j = 12 := by omega
      rcases hj with rfl | rfl | rfl | rfl | rfl | rfl | rfl | rfl | rfl | rfl | rfl | rfl | rfl <;> first | exact h3 e | exact h6 e | exact h9 e | exact h12 e | exact h13 e | exact h18 e | exact h23 e | exact h31 e | exact h39 e | exact h45 e | exact h52 e | exact h55 e | exact h58 e) rfl ?_
  refine J_al4 hx rfl rfl dX13_crateOf_217 ?_
  refine J_il4 hx rfl rfl dX13_crateOf_218 ?_
  obtain ⟨r61, hr62, h⟩ := bnd h
  refine J_rdV hx (kX13_isReached  hW hr62) ml_X13_88 lk_X13_isReached (ci := 11) rfl (hW.obj (rfl : kd 371 = 19) (by decide) (by decide)) (rest := []) rfl rfl (by decide) (by decide) (Nat.le_of_ble_eq_true rfl) (Nat.le_refl 0) (Nat.le_refl 0) dX13_crateOf_219 ?_
  refine J_bif_eq hx 229 dX13_crateOf_222 rfl (fun h63 => ?_) (fun h63 => ?_)
  · replace h := neg h (bft h63)
    refine J_iconst hx (0 : Int32) dX13_crateOf_229 rfl ?_
    exact J_iretR hx hr dX13_crateOf_230 (Nat.le_refl 0) (Nat.le_refl 0) (Option.some.inj h)
  · replace h := pos h h63
    refine J_iconst hx (1 : Int32) dX13_crateOf_225 rfl ?_
    refine J_goto hx 230 dX13_crateOf_226 rfl ?_
    exact J_iretR hx hr dX13_crateOf_230 (Nat.le_refl 0) (Nat.le_refl 0) (Option.some.inj h)
theorem dX13_crate_0 : decode cX13_crate 0 = .ok (.aload_n 0, 1) := by decide +kernel
theorem dX13_crate_1 : decode cX13_crate 1 = .ok (.aload_n 0, 1) := by decide +kernel
theorem dX13_crate_2 : decode cX13_crate 2 = .ok (.iload_n 1, 1) := by decide +kernel
theorem dX13_crate_3 : decode cX13_crate 3 = .ok (.invokevirtual 85, 3) := by decide +kernel
theorem dX13_crate_6 : decode cX13_crate 6 = .ok (.ifCond .ne 7, 3) := by decide +kernel
theorem dX13_crate_9 : decode cX13_crate 9 = .ok (.iconst 1, 1) := by decide +kernel
theorem dX13_crate_10 : decode cX13_crate 10 = .ok (.goto 18, 3) := by decide +kernel
theorem dX13_crate_13 : decode cX13_crate 13 = .ok (.iload_n 2, 1) := by decide +kernel
theorem dX13_crate_14 : decode cX13_crate 14 = .ok (.iconst 0, 1) := by decide +kernel
theorem dX13_crate_15 : decode cX13_crate 15 = .ok (.bipush 13, 2) := by decide +kernel
theorem dX13_crate_17 : decode cX13_crate 17 = .ok (.invokestatic 32, 3) := by decide +kernel
theorem dX13_crate_20 : decode cX13_crate 20 = .ok (.ifCond .eq 7, 3) := by decide +kernel
theorem dX13_crate_23 : decode cX13_crate 23 = .ok (.iconst 0, 1) := by decide +kernel
theorem dX13_crate_24 : decode cX13_crate 24 = .ok (.goto 4, 3) := by decide +kernel
theorem dX13_crate_27 : decode cX13_crate 27 = .ok (.iconst 2, 1) := by decide +kernel
theorem dX13_crate_28 : decode cX13_crate 28 = .ok (.putfield 25, 3) := by decide +kernel
theorem dX13_crate_31 : decode cX13_crate 31 = .ok (.aload_n 0, 1) := by decide +kernel
theorem dX13_crate_32 : decode cX13_crate 32 = .ok (.getfield 25, 3) := by decide +kernel
theorem dX13_crate_35 : decode cX13_crate 35 = .ok (.ifCond .eq 7, 3) := by decide +kernel
theorem dX13_crate_38 : decode cX13_crate 38 = .ok (.iconst 0, 1) := by decide +kernel
theorem dX13_crate_39 : decode cX13_crate 39 = .ok (.goto 9, 3) := by decide +kernel
theorem dX13_crate_42 : decode cX13_crate 42 = .ok (.aload_n 0, 1) := by decide +kernel
theorem dX13_crate_43 : decode cX13_crate 43 = .ok (.iload_n 1, 1) := by decide +kernel
theorem dX13_crate_44 : decode cX13_crate 44 = .ok (.iload_n 2, 1) := by decide +kernel
theorem dX13_crate_45 : decode cX13_crate 45 = .ok (.invokevirtual 206, 3) := by decide +kernel
theorem dX13_crate_48 : decode cX13_crate 48 = .ok (.ireturn, 1) := by decide +kernel
def sX13_crate_28 (w : Wl) (l1 : Int32) (l2 : Int32) (s1 : Int32) : Option (Int32 × Wl) := (if ((wst w 371 5 s1) 371 5) = 0 then (sX13_crateOf (wst w 371 5 s1) l1 l2).bind (fun r4 => some (r4, (wst w 371 5 s1))) else some ((0 : Int32), (wst w 371 5 s1)))
theorem tX13_crate_28 {X : Cx} {B : Bs} {sz : Nat} {r : (Int32 × Wl)} (hx : Fx X cX13_crate 3 RX13 5 0 0) (hr : Rt X (some .int) 0 0 (WΨ (xΓ X) B (some (.int (r.1))) r.2 sz)) : ∀ (w : Wl) (l1 : Int32) (l2 : Int32) (s1 : Int32) {G : Gf} (hW : Wd (xΓ X) B w G) (h : sX13_crate_28  w l1 l2 s1 = some r), J X 3 G sz 0 0 28 [some (.ref (B.1 + 371)), some (.int l1), some (.int l2)] [.int s1, .ref (B.1 + 371)] := by
  intro w l1 l2 s1 G hW h
  unfold sX13_crate_28 at h
  refine p13_5 hx hW (rfl : kd 371 = 19) fl_X13_25 dX13_crate_28 fun G1 hW2 => ?_
  refine J_al4 hx rfl rfl dX13_crate_31 ?_
  refine g13_5 hx hW2 (rfl : kd 371 = 19) fl_X13_25 dX13_crate_32 ?_
  refine J_if_eq hx 42 dX13_crate_35 rfl (fun h3 => ?_) (fun h3 => ?_)
  · replace h := pos h h3
    refine J_al4 hx rfl rfl dX13_crate_42 ?_
    refine J_il4 hx rfl rfl dX13_crate_43 ?_
    refine J_il4 hx rfl rfl dX13_crate_44 ?_
    obtain ⟨r4, hr5, h⟩ := bnd h
    refine J_rdV hx (kX13_crateOf  hW2 hr5) ml_X13_206 lk_X13_crateOf (ci := 11) rfl (hW2.obj (rfl : kd 371 = 19) (by decide) (by decide)) (rest := []) rfl rfl (by decide) (by decide) (Nat.le_of_ble_eq_true rfl) (Nat.le_refl 0) (Nat.le_refl 0) dX13_crate_45 ?_
    obtain rfl := Option.some.inj h
    exact J_iretW hx hr hW2 dX13_crate_48 (Nat.le_refl 0) (Nat.le_refl 0)
  · replace h := neg h h3
    refine J_iconst hx (0 : Int32) dX13_crate_38 rfl ?_
    refine J_goto hx 48 dX13_crate_39 rfl ?_
    obtain rfl := Option.some.inj h
    exact J_iretW hx hr hW2 dX13_crate_48 (Nat.le_refl 0) (Nat.le_refl 0)
def sX13_crate (w : Wl) (l1 : Int32) (l2 : Int32) : Option (Int32 × Wl) := (sX13_isCrate w l1).bind (fun r1 => (if r1 = true then (sX13_in w l2 (0 : Int32) (13 : Int32)).bind (fun r4 => (if r4 = true then sX13_crate_28 w l1 l2 (0 : Int32) else sX13_crate_28 w l1 l2 (2 : Int32))) else sX13_crate_28 w l1 l2 (1 : Int32)))
theorem kX13_crate {l : Launch} {Γ : Gl} {B : Bs} {w : Wl} {G : Gf} {sz : Nat} {l1 : Int32} {l2 : Int32} {r : (Int32 × Wl)} (hW : Wd Γ B w G) (h : sX13_crate w l1 l2 = some r) : CtW l Γ yX13_crate cX13_crate 3 (some .int) 5 [.ref (B.1 + 371), .int l1, .int l2] G sz B (some (.int (r.1))) r.2 := by
  refine Ct.of rfl (Nat.le_of_ble_eq_true rfl) fun X hx hr hl hΓ hnm => ?_
  subst hl hΓ
  show J X 3 G sz 0 0 0 [some (.ref (B.1 + 371)), some (.int l1), some (.int l2)] []
  unfold sX13_crate at h
  refine J_al4 hx rfl rfl dX13_crate_0 ?_
  refine J_al4 hx rfl rfl dX13_crate_1 ?_
  refine J_il4 hx rfl rfl dX13_crate_2 ?_
  obtain ⟨r1, hr2, h⟩ := bnd h
  refine J_rdV hx (kX13_isCrate  hW hr2) ml_X13_85 lk_X13_isCrate (ci := 11) rfl (hW.obj (rfl : kd 371 = 19) (by decide) (by decide)) (rest := [.ref (B.1 + 371)]) rfl rfl (by decide) (by decide) (Nat.le_of_ble_eq_true rfl) (Nat.le_refl 0) (Nat.le_refl 0) dX13_crate_3 ?_
  refine J_bif_ne hx 13 dX13_crate_6 rfl (fun h3 => ?_) (fun h3 => ?_)
  · replace h := pos h h3
    refine J_il4 hx rfl rfl dX13_crate_13 ?_
    refine J_iconst hx (0 : Int32) dX13_crate_14 rfl ?_
    refine J_bipush hx (13 : Int32) dX13_crate_15 rfl ?_
    obtain ⟨r4, hr5, h⟩ := bnd h
    refine J_rdS hx (kX13_in  hW hr5) ml_X13_32 lk_X13_in (rest := [.ref (B.1 + 371)]) rfl rfl (by decide) (by decide) (Nat.le_of_ble_eq_true rfl) (Nat.le_refl 0) (Nat.le_refl 0) dX13_crate_17 ?_
    refine J_bif_eq hx 27 dX13_crate_20 rfl (fun h6 => ?_) (fun h6 => ?_)
    · replace h := neg h (bft h6)
      refine J_iconst hx (2 : Int32) dX13_crate_27 rfl ?_
      exact tX13_crate_28 hx hr _ _ _ _  hW h
    · replace h := pos h h6
      refine J_iconst hx (0 : Int32) dX13_crate_23 rfl ?_
      refine J_goto hx 28 dX13_crate_24 rfl ?_
      exact tX13_crate_28 hx hr _ _ _ _  hW h
  · replace h := neg h (bft h3)
    refine J_iconst hx (1 : Int32) dX13_crate_9 rfl ?_
    refine J_goto hx 28 dX13_crate_10 rfl ?_
    exact tX13_crate_28 hx hr _ _ _ _  hW h
theorem dX13_around_0 : decode cX13_around 0 = .ok (.iconst 0, 1) := by decide +kernel
theorem dX13_around_1 : decode cX13_around 1 = .ok (.istore_n 2, 1) := by decide +kernel
theorem dX13_around_2 : decode cX13_around 2 = .ok (.aload_n 0, 1) := by decide +kernel
theorem dX13_around_3 : decode cX13_around 3 = .ok (.iload_n 1, 1) := by decide +kernel
theorem dX13_around_4 : decode cX13_around 4 = .ok (.iconst 4, 1) := by decide +kernel
theorem dX13_around_5 : decode cX13_around 5 = .ok (.invokevirtual 51, 3) := by decide +kernel
theorem dX13_around_8 : decode cX13_around 8 = .ok (.istore_n 3, 1) := by decide +kernel
theorem dX13_around_9 : decode cX13_around 9 = .ok (.iload_n 3, 1) := by decide +kernel
theorem dX13_around_10 : decode cX13_around 10 = .ok (.iconst (-1), 1) := by decide +kernel
theorem dX13_around_11 : decode cX13_around 11 = .ok (.if_icmp .eq 16, 3) := by decide +kernel
theorem dX13_around_14 : decode cX13_around 14 = .ok (.iinc 2 1, 3) := by decide +kernel
theorem dX13_around_17 : decode cX13_around 17 = .ok (.aload_n 0, 1) := by decide +kernel
theorem dX13_around_18 : decode cX13_around 18 = .ok (.iload_n 3, 1) := by decide +kernel
theorem dX13_around_19 : decode cX13_around 19 = .ok (.iconst 2, 1) := by decide +kernel
theorem dX13_around_20 : decode cX13_around 20 = .ok (.invokevirtual 36, 3) := by decide +kernel
theorem dX13_around_23 : decode cX13_around 23 = .ok (.istore_n 3, 1) := by decide +kernel
theorem dX13_around_24 : decode cX13_around 24 = .ok (.goto (-15), 3) := by decide +kernel
theorem dX13_around_27 : decode cX13_around 27 = .ok (.iload_n 2, 1) := by decide +kernel
theorem dX13_around_28 : decode cX13_around 28 = .ok (.ireturn, 1) := by decide +kernel
def sX13_around_9 : Nat → Wl → Int32 → Int32 → Option Int32
  | 0, _, _, _ => none
  | n + 1, w, l2, l3 => (if l3 = (-1 : Int32) then some l2 else (sX13_of w l3 (2 : Int32)).bind (fun r2 => sX13_around_9 n w (l2 + 1) r2))
theorem tX13_around_9 {X : Cx} {B : Bs} {sz : Nat} {G : Gf} {r : Int32} (hx : Fx X cX13_around 4 RX13 1 0 0) (hr : Rt X (some .int) 0 0 (RdΨ (.int (r)) G sz)) : ∀ (n : Nat), ∀ (w : Wl) (l2 : Int32) (l3 : Int32) (hW : Wd (xΓ X) B w G) (h : sX13_around_9 n w l2 l3 = some r), J X 4 G sz 0 0 9 [some (.ref (B.1 + 371)), none, some (.int l2), some (.int l3)] [] := by
  intro n
  induction n with
  | zero => intro w l2 l3 hW h; rw [sX13_around_9.eq_1] at h; cases h
  | succ n ih =>
    intro w l2 l3 hW h
    rw [sX13_around_9.eq_2] at h
    refine J_il4 hx rfl rfl dX13_around_9 ?_
    refine J_iconst hx (-1 : Int32) dX13_around_10 rfl ?_
    refine J_icmp_eq hx 27 dX13_around_11 rfl (fun h1 => ?_) (fun h1 => ?_)
    · replace h := pos h h1
      refine J_il4 hx rfl rfl dX13_around_27 ?_
      exact J_iretR hx hr dX13_around_28 (Nat.le_refl 0) (Nat.le_refl 0) (Option.some.inj h)
    · replace h := neg h h1
      refine J_iinc hx (v' := (l2 + 1)) rfl rfl (by decide) (hc_of rfl) rfl dX13_around_14 ?_
      refine J_al4 hx rfl rfl dX13_around_17 ?_
      refine J_il4 hx rfl rfl dX13_around_18 ?_
      refine J_iconst hx (2 : Int32) dX13_around_19 rfl ?_
      obtain ⟨r2, hr3, h⟩ := bnd h
      refine J_rdV hx (kX13_of  hW hr3) ml_X13_36 lk_X13_of (ci := 11) rfl (hW.obj (rfl : kd 371 = 19) (by decide) (by decide)) (rest := []) rfl rfl (by decide) (by decide) (Nat.le_of_ble_eq_true rfl) (Nat.le_refl 0) (Nat.le_refl 0) dX13_around_20 ?_
      refine J_is4 hx rfl (by decide) (hc_of rfl) rfl dX13_around_23 ?_
      refine J_goto hx 9 dX13_around_24 rfl ?_
      exact ih _ _ _  hW h
def sX13_around (w : Wl) (l1 : Int32) : Option Int32 := (sX13_ofWork w l1 (4 : Int32)).bind (fun r1 => sX13_around_9 FU w (0 : Int32) r1)
theorem kX13_around {l : Launch} {Γ : Gl} {B : Bs} {w : Wl} {G : Gf} {sz : Nat} {l1 : Int32} {r : Int32} (hW : Wd Γ B w G) (h : sX13_around w l1 = some r) : CtR l Γ yX13_around cX13_around 4 (some .int) 1 [.ref (B.1 + 371), .int l1] G sz (.int (r)) := by
  refine Ct.of rfl (Nat.le_of_ble_eq_true rfl) fun X hx hr hl hΓ hnm => ?_
  subst hl hΓ
  show J X 4 G sz 0 0 0 [some (.ref (B.1 + 371)), some (.int l1), none, none] []
  unfold sX13_around at h
  refine J_iconst hx (0 : Int32) dX13_around_0 rfl ?_
  refine J_is4 hx rfl (by decide) (hc_of rfl) rfl dX13_around_1 ?_
  refine J_al4 hx rfl rfl dX13_around_2 ?_
  refine J_il4 hx rfl rfl dX13_around_3 ?_
  refine J_iconst hx (4 : Int32) dX13_around_4 rfl ?_
  obtain ⟨r1, hr2, h⟩ := bnd h
  refine J_rdV hx (kX13_ofWork  hW hr2) ml_X13_51 lk_X13_ofWork (ci := 11) rfl (hW.obj (rfl : kd 371 = 19) (by decide) (by decide)) (rest := []) rfl rfl (by decide) (by decide) (Nat.le_of_ble_eq_true rfl) (Nat.le_refl 0) (Nat.le_refl 0) dX13_around_5 ?_
  refine J_is4 hx rfl (by decide) (hc_of rfl) rfl dX13_around_8 ?_
  refine J_lw (ls' := [some (.ref (B.1 + 371)), none, some (.int (0 : Int32)), some (.int r1)]) (lwS (lwN (lwS (lwS lwZ)))) ?_
  exact tX13_around_9 hx hr _ _ _ _  hW h
