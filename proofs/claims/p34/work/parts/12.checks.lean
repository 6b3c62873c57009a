/-! Mirrors and walks, written by wip/whole/gen_walks.py -/
theorem dX1_isIn_0 : decode cX1_isIn 0 = .ok (.iload_n 0, 1) := by decide +kernel
theorem dX1_isIn_1 : decode cX1_isIn 1 = .ok (.iload_n 1, 1) := by decide +kernel
theorem dX1_isIn_2 : decode cX1_isIn 2 = .ok (.if_icmp .lt 12, 3) := by decide +kernel
theorem dX1_isIn_5 : decode cX1_isIn 5 = .ok (.iload_n 0, 1) := by decide +kernel
theorem dX1_isIn_6 : decode cX1_isIn 6 = .ok (.iload_n 2, 1) := by decide +kernel
theorem dX1_isIn_7 : decode cX1_isIn 7 = .ok (.if_icmp .gt 7, 3) := by decide +kernel
theorem dX1_isIn_10 : decode cX1_isIn 10 = .ok (.iconst 1, 1) := by decide +kernel
theorem dX1_isIn_11 : decode cX1_isIn 11 = .ok (.goto 4, 3) := by decide +kernel
theorem dX1_isIn_14 : decode cX1_isIn 14 = .ok (.iconst 0, 1) := by decide +kernel
theorem dX1_isIn_15 : decode cX1_isIn 15 = .ok (.ireturn, 1) := by decide +kernel
def sX1_isIn (w : Wl) (l0 : Int32) (l1 : Int32) (l2 : Int32) : Option Bool := (if l0 < l1 then some false else (if l2 < l0 then some false else some true))
theorem kX1_isIn {l : Launch} {Γ : Gl} {B : Bs} {w : Wl} {G : Gf} {sz : Nat} {l0 : Int32} {l1 : Int32} {l2 : Int32} {r : Bool} (hW : Wd Γ B w G) (h : sX1_isIn w l0 l1 l2 = some r) : CtR l Γ yX1_isIn cX1_isIn 3 (some .boolean) 0 [.int l0, .int l1, .int l2] G sz (.int (bI r)) := by
  refine Ct.of rfl (Nat.le_of_ble_eq_true rfl) fun X hx hr hl hΓ hnm => ?_
  subst hl hΓ
  show J X 3 G sz 0 0 0 [some (.int l0), some (.int l1), some (.int l2)] []
  unfold sX1_isIn at h
  refine J_il4 hx rfl rfl dX1_isIn_0 ?_
  refine J_il4 hx rfl rfl dX1_isIn_1 ?_
  refine J_icmp_lt hx 14 dX1_isIn_2 rfl (fun h1 => ?_) (fun h1 => ?_)
  · replace h := pos h h1
    refine J_iconst hx (0 : Int32) dX1_isIn_14 rfl ?_
    exact J_zretR hx hr dX1_isIn_15 (Nat.le_refl 0) (Nat.le_refl 0) (show (0 : Int32) = bI _ from congrArg bI (Option.some.inj h))
  · replace h := neg h h1
    refine J_il4 hx rfl rfl dX1_isIn_5 ?_
    refine J_il4 hx rfl rfl dX1_isIn_6 ?_
    refine J_icmp_gt hx 14 dX1_isIn_7 rfl (fun h2 => ?_) (fun h2 => ?_)
    · replace h := pos h h2
      refine J_iconst hx (0 : Int32) dX1_isIn_14 rfl ?_
      exact J_zretR hx hr dX1_isIn_15 (Nat.le_refl 0) (Nat.le_refl 0) (show (0 : Int32) = bI _ from congrArg bI (Option.some.inj h))
    · replace h := neg h h2
      refine J_iconst hx (1 : Int32) dX1_isIn_10 rfl ?_
      refine J_goto hx 15 dX1_isIn_11 rfl ?_
      exact J_zretR hx hr dX1_isIn_15 (Nat.le_refl 0) (Nat.le_refl 0) (show (1 : Int32) = bI _ from congrArg bI (Option.some.inj h))
theorem dX1_isClimate_0 : decode cX1_isClimate 0 = .ok (.iload_n 0, 1) := by decide +kernel
theorem dX1_isClimate_1 : decode cX1_isClimate 1 = .ok (.bipush (-10), 2) := by decide +kernel
theorem dX1_isClimate_3 : decode cX1_isClimate 3 = .ok (.bipush 40, 2) := by decide +kernel
theorem dX1_isClimate_5 : decode cX1_isClimate 5 = .ok (.invokestatic 19, 3) := by decide +kernel
theorem dX1_isClimate_8 : decode cX1_isClimate 8 = .ok (.ifCond .eq 18, 3) := by decide +kernel
theorem dX1_isClimate_11 : decode cX1_isClimate 11 = .ok (.iload_n 1, 1) := by decide +kernel
theorem dX1_isClimate_12 : decode cX1_isClimate 12 = .ok (.bipush 20, 2) := by decide +kernel
theorem dX1_isClimate_14 : decode cX1_isClimate 14 = .ok (.bipush 90, 2) := by decide +kernel
theorem dX1_isClimate_16 : decode cX1_isClimate 16 = .ok (.invokestatic 19, 3) := by decide +kernel
theorem dX1_isClimate_19 : decode cX1_isClimate 19 = .ok (.ifCond .eq 7, 3) := by decide +kernel
theorem dX1_isClimate_22 : decode cX1_isClimate 22 = .ok (.iconst 1, 1) := by decide +kernel
theorem dX1_isClimate_23 : decode cX1_isClimate 23 = .ok (.goto 4, 3) := by decide +kernel
theorem dX1_isClimate_26 : decode cX1_isClimate 26 = .ok (.iconst 0, 1) := by decide +kernel
theorem dX1_isClimate_27 : decode cX1_isClimate 27 = .ok (.ireturn, 1) := by decide +kernel
def sX1_isClimate (w : Wl) (l0 : Int32) (l1 : Int32) : Option Bool := (sX1_isIn w l0 (-10 : Int32) (40 : Int32)).bind (fun r1 => (if r1 = true then (sX1_isIn w l1 (20 : Int32) (90 : Int32)).bind (fun r4 => (if r4 = true then some true else some false)) else some false))
theorem kX1_isClimate {l : Launch} {Γ : Gl} {B : Bs} {w : Wl} {G : Gf} {sz : Nat} {l0 : Int32} {l1 : Int32} {r : Bool} (hW : Wd Γ B w G) (h : sX1_isClimate w l0 l1 = some r) : CtR l Γ yX1_isClimate cX1_isClimate 2 (some .boolean) 1 [.int l0, .int l1] G sz (.int (bI r)) := by
  refine Ct.of rfl (Nat.le_of_ble_eq_true rfl) fun X hx hr hl hΓ hnm => ?_
  subst hl hΓ
  show J X 2 G sz 0 0 0 [some (.int l0), some (.int l1)] []
  unfold sX1_isClimate at h
  refine J_il4 hx rfl rfl dX1_isClimate_0 ?_
  refine J_bipush hx (-10 : Int32) dX1_isClimate_1 rfl ?_
  refine J_bipush hx (40 : Int32) dX1_isClimate_3 rfl ?_
  obtain ⟨r1, hr2, h⟩ := bnd h
  refine J_rdS hx (kX1_isIn  hW hr2) ml_X1_19 lk_X1_isIn (rest := []) rfl rfl (by decide) (by decide) (Nat.le_of_ble_eq_true rfl) (Nat.le_refl 0) (Nat.le_refl 0) dX1_isClimate_5 ?_
  refine J_bif_eq hx 26 dX1_isClimate_8 rfl (fun h3 => ?_) (fun h3 => ?_)
  · replace h := neg h (bft h3)
    refine J_iconst hx (0 : Int32) dX1_isClimate_26 rfl ?_
    exact J_zretR hx hr dX1_isClimate_27 (Nat.le_refl 0) (Nat.le_refl 0) (show (0 : Int32) = bI _ from congrArg bI (Option.some.inj h))
  · replace h := pos h h3
    refine J_il4 hx rfl rfl dX1_isClimate_11 ?_
    refine J_bipush hx (20 : Int32) dX1_isClimate_12 rfl ?_
    refine J_bipush hx (90 : Int32) dX1_isClimate_14 rfl ?_
    obtain ⟨r4, hr5, h⟩ := bnd h
    refine J_rdS hx (kX1_isIn  hW hr5) ml_X1_19 lk_X1_isIn (rest := []) rfl rfl (by decide) (by decide) (Nat.le_of_ble_eq_true rfl) (Nat.le_refl 0) (Nat.le_refl 0) dX1_isClimate_16 ?_
    refine J_bif_eq hx 26 dX1_isClimate_19 rfl (fun h6 => ?_) (fun h6 => ?_)
    · replace h := neg h (bft h6)
      refine J_iconst hx (0 : Int32) dX1_isClimate_26 rfl ?_
      exact J_zretR hx hr dX1_isClimate_27 (Nat.le_refl 0) (Nat.le_refl 0) (show (0 : Int32) = bI _ from congrArg bI (Option.some.inj h))
    · replace h := pos h h6
      refine J_iconst hx (1 : Int32) dX1_isClimate_22 rfl ?_
      refine J_goto hx 27 dX1_isClimate_23 rfl ?_
      exact J_zretR hx hr dX1_isClimate_27 (Nat.le_refl 0) (Nat.le_refl 0) (show (1 : Int32) = bI _ from congrArg bI (Option.some.inj h))
theorem dX1_firstWrong_0 : decode cX1_firstWrong 0 = .ok (.iload_n 0, 1) := by decide +kernel
theorem dX1_firstWrong_1 : decode cX1_firstWrong 1 = .ok (.ifCond .ne 5, 3) := by decide +kernel
theorem dX1_firstWrong_4 : decode cX1_firstWrong 4 = .ok (.iconst 1, 1) := by decide +kernel
theorem dX1_firstWrong_5 : decode cX1_firstWrong 5 = .ok (.ireturn, 1) := by decide +kernel
theorem dX1_firstWrong_6 : decode cX1_firstWrong 6 = .ok (.iload_n 1, 1) := by decide +kernel
theorem dX1_firstWrong_7 : decode cX1_firstWrong 7 = .ok (.ifCond .ne 5, 3) := by decide +kernel
theorem dX1_firstWrong_10 : decode cX1_firstWrong 10 = .ok (.iconst 2, 1) := by decide +kernel
theorem dX1_firstWrong_11 : decode cX1_firstWrong 11 = .ok (.ireturn, 1) := by decide +kernel
theorem dX1_firstWrong_12 : decode cX1_firstWrong 12 = .ok (.iload_n 2, 1) := by decide +kernel
theorem dX1_firstWrong_13 : decode cX1_firstWrong 13 = .ok (.ifCond .eq 7, 3) := by decide +kernel
theorem dX1_firstWrong_16 : decode cX1_firstWrong 16 = .ok (.iconst 0, 1) := by decide +kernel
theorem dX1_firstWrong_17 : decode cX1_firstWrong 17 = .ok (.goto 4, 3) := by decide +kernel
theorem dX1_firstWrong_20 : decode cX1_firstWrong 20 = .ok (.iconst 3, 1) := by decide +kernel
theorem dX1_firstWrong_21 : decode cX1_firstWrong 21 = .ok (.ireturn, 1) := by decide +kernel
def sX1_firstWrong (w : Wl) (l0 : Int32) (l1 : Int32) (l2 : Int32) : Option Int32 := (if l0 = 0 then some (1 : Int32) else (if l1 = 0 then some (2 : Int32) else (if l2 = 0 then some (3 : Int32) else some (0 : Int32))))
theorem kX1_firstWrong {l : Launch} {Γ : Gl} {B : Bs} {w : Wl} {G : Gf} {sz : Nat} {l0 : Int32} {l1 : Int32} {l2 : Int32} {r : Int32} (hW : Wd Γ B w G) (h : sX1_firstWrong w l0 l1 l2 = some r) : CtR l Γ yX1_firstWrong cX1_firstWrong 3 (some .int) 0 [.int l0, .int l1, .int l2] G sz (.int (r)) := by
  refine Ct.of rfl (Nat.le_of_ble_eq_true rfl) fun X hx hr hl hΓ hnm => ?_
  subst hl hΓ
  show J X 3 G sz 0 0 0 [some (.int l0), some (.int l1), some (.int l2)] []
  unfold sX1_firstWrong at h
  refine J_il4 hx rfl rfl dX1_firstWrong_0 ?_
  refine J_if_ne hx 6 dX1_firstWrong_1 rfl (fun h1 => ?_) (fun h1 => ?_)
  · replace h := neg h h1
    refine J_il4 hx rfl rfl dX1_firstWrong_6 ?_
    refine J_if_ne hx 12 dX1_firstWrong_7 rfl (fun h2 => ?_) (fun h2 => ?_)
    · replace h := neg h h2
      refine J_il4 hx rfl rfl dX1_firstWrong_12 ?_
      refine J_if_eq hx 20 dX1_firstWrong_13 rfl (fun h3 => ?_) (fun h3 => ?_)
      · replace h := pos h h3
        refine J_iconst hx (3 : Int32) dX1_firstWrong_20 rfl ?_
        exact J_iretR hx hr dX1_firstWrong_21 (Nat.le_refl 0) (Nat.le_refl 0) (Option.some.inj h)
      · replace h := neg h h3
        refine J_iconst hx (0 : Int32) dX1_firstWrong_16 rfl ?_
        refine J_goto hx 21 dX1_firstWrong_17 rfl ?_
        exact J_iretR hx hr dX1_firstWrong_21 (Nat.le_refl 0) (Nat.le_refl 0) (Option.some.inj h)
    · replace h := pos h h2
      refine J_iconst hx (2 : Int32) dX1_firstWrong_10 rfl ?_
      exact J_iretR hx hr dX1_firstWrong_11 (Nat.le_refl 0) (Nat.le_refl 0) (Option.some.inj h)
  · replace h := pos h h1
    refine J_iconst hx (1 : Int32) dX1_firstWrong_4 rfl ?_
    exact J_iretR hx hr dX1_firstWrong_5 (Nat.le_refl 0) (Nat.le_refl 0) (Option.some.inj h)
theorem dX1_ofNewVenue_0 : decode cX1_ofNewVenue 0 = .ok (.iload_n 1, 1) := by decide +kernel
theorem dX1_ofNewVenue_1 : decode cX1_ofNewVenue 1 = .ok (.iload_n 2, 1) := by decide +kernel
theorem dX1_ofNewVenue_2 : decode cX1_ofNewVenue 2 = .ok (.invokestatic 15, 3) := by decide +kernel
theorem dX1_ofNewVenue_5 : decode cX1_ofNewVenue 5 = .ok (.ifCond .eq 29, 3) := by decide +kernel
theorem dX1_ofNewVenue_8 : decode cX1_ofNewVenue 8 = .ok (.iload_n 3, 1) := by decide +kernel
theorem dX1_ofNewVenue_9 : decode cX1_ofNewVenue 9 = .ok (.iconst 0, 1) := by decide +kernel
theorem dX1_ofNewVenue_10 : decode cX1_ofNewVenue 10 = .ok (.sipush 500, 3) := by decide +kernel
theorem dX1_ofNewVenue_13 : decode cX1_ofNewVenue 13 = .ok (.invokestatic 19, 3) := by decide +kernel
theorem dX1_ofNewVenue_16 : decode cX1_ofNewVenue 16 = .ok (.ifCond .eq 18, 3) := by decide +kernel
theorem dX1_ofNewVenue_19 : decode cX1_ofNewVenue 19 = .ok (.iload 4, 2) := by decide +kernel
theorem dX1_ofNewVenue_21 : decode cX1_ofNewVenue 21 = .ok (.iconst 0, 1) := by decide +kernel
theorem dX1_ofNewVenue_22 : decode cX1_ofNewVenue 22 = .ok (.ldc 23, 2) := by decide +kernel
theorem dX1_ofNewVenue_24 : decode cX1_ofNewVenue 24 = .ok (.invokestatic 19, 3) := by decide +kernel
theorem dX1_ofNewVenue_27 : decode cX1_ofNewVenue 27 = .ok (.ifCond .eq 7, 3) := by decide +kernel
theorem dX1_ofNewVenue_30 : decode cX1_ofNewVenue 30 = .ok (.iconst 1, 1) := by decide +kernel
theorem dX1_ofNewVenue_31 : decode cX1_ofNewVenue 31 = .ok (.goto 4, 3) := by decide +kernel
theorem dX1_ofNewVenue_34 : decode cX1_ofNewVenue 34 = .ok (.iconst 0, 1) := by decide +kernel
theorem dX1_ofNewVenue_35 : decode cX1_ofNewVenue 35 = .ok (.istore 5, 2) := by decide +kernel
theorem dX1_ofNewVenue_37 : decode cX1_ofNewVenue 37 = .ok (.iconst 1, 1) := by decide +kernel
theorem dX1_ofNewVenue_38 : decode cX1_ofNewVenue 38 = .ok (.iload 5, 2) := by decide +kernel
theorem dX1_ofNewVenue_40 : decode cX1_ofNewVenue 40 = .ok (.aload_n 0, 1) := by decide +kernel
theorem dX1_ofNewVenue_41 : decode cX1_ofNewVenue 41 = .ok (.getfield 9, 3) := by decide +kernel
theorem dX1_ofNewVenue_44 : decode cX1_ofNewVenue 44 = .ok (.getfield 24, 3) := by decide +kernel
theorem dX1_ofNewVenue_47 : decode cX1_ofNewVenue 47 = .ok (.bipush 8, 2) := by decide +kernel
theorem dX1_ofNewVenue_49 : decode cX1_ofNewVenue 49 = .ok (.if_icmp .ge 7, 3) := by decide +kernel
theorem dX1_ofNewVenue_52 : decode cX1_ofNewVenue 52 = .ok (.iconst 1, 1) := by decide +kernel
theorem dX1_ofNewVenue_53 : decode cX1_ofNewVenue 53 = .ok (.goto 4, 3) := by decide +kernel
theorem dX1_ofNewVenue_56 : decode cX1_ofNewVenue 56 = .ok (.iconst 0, 1) := by decide +kernel
theorem dX1_ofNewVenue_57 : decode cX1_ofNewVenue 57 = .ok (.invokestatic 30, 3) := by decide +kernel
theorem dX1_ofNewVenue_60 : decode cX1_ofNewVenue 60 = .ok (.ireturn, 1) := by decide +kernel
def sX1_ofNewVenue_35 (w : Wl) (s0 : Int32) : Option Int32 := (if (8 : Int32) ≤ (w 1 5) then (sX1_firstWrong w (1 : Int32) s0 (0 : Int32)).bind (fun r2 => some r2) else (sX1_firstWrong w (1 : Int32) s0 (1 : Int32)).bind (fun r4 => some r4))
theorem tX1_ofNewVenue_35 {X : Cx} {B : Bs} {sz : Nat} {G : Gf} {r : Int32} (hx : Fx X cX1_ofNewVenue 6 RX1 2 0 0) (hr : Rt X (some .int) 0 0 (RdΨ (.int (r)) G sz)) : ∀ (w : Wl) (s0 : Int32) (hW : Wd (xΓ X) B w G) (h : sX1_ofNewVenue_35  w s0 = some r), J X 6 G sz 0 0 35 [some (.ref (B.1 + 73)), none, none, none, none, none] [.int s0] := by
  intro w s0 hW h
  unfold sX1_ofNewVenue_35 at h
  refine J_is hx (by decide) (hc_of rfl) rfl dX1_ofNewVenue_35 ?_
  refine J_iconst hx (1 : Int32) dX1_ofNewVenue_37 rfl ?_
  refine J_il hx rfl dX1_ofNewVenue_38 ?_
  refine J_al4 hx rfl rfl dX1_ofNewVenue_40 ?_
  refine g1_0 hx hW 1 (rfl : kd 73 = 11) fl_X1_9 rfl dX1_ofNewVenue_41 ?_
  refine g6_5 hx hW (rfl : kd 1 = 2) fl_X1_24 dX1_ofNewVenue_44 ?_
  refine J_bipush hx (8 : Int32) dX1_ofNewVenue_47 rfl ?_
  refine J_icmp_ge hx 56 dX1_ofNewVenue_49 rfl (fun h1 => ?_) (fun h1 => ?_)
  · replace h := pos h h1
    refine J_iconst hx (0 : Int32) dX1_ofNewVenue_56 rfl ?_
    obtain ⟨r2, hr3, h⟩ := bnd h
    refine J_rdS hx (kX1_firstWrong  hW hr3) ml_X1_30 lk_X1_firstWrong (rest := []) rfl rfl (by decide) (by decide) (Nat.le_of_ble_eq_true rfl) (Nat.le_refl 0) (Nat.le_refl 0) dX1_ofNewVenue_57 ?_
    exact J_iretR hx hr dX1_ofNewVenue_60 (Nat.le_refl 0) (Nat.le_refl 0) (Option.some.inj h)
  · replace h := neg h h1
    refine J_iconst hx (1 : Int32) dX1_ofNewVenue_52 rfl ?_
    refine J_goto hx 57 dX1_ofNewVenue_53 rfl ?_
    obtain ⟨r4, hr5, h⟩ := bnd h
    refine J_rdS hx (kX1_firstWrong  hW hr5) ml_X1_30 lk_X1_firstWrong (rest := []) rfl rfl (by decide) (by decide) (Nat.le_of_ble_eq_true rfl) (Nat.le_refl 0) (Nat.le_refl 0) dX1_ofNewVenue_57 ?_
    exact J_iretR hx hr dX1_ofNewVenue_60 (Nat.le_refl 0) (Nat.le_refl 0) (Option.some.inj h)
def sX1_ofNewVenue (w : Wl) (l1 : Int32) (l2 : Int32) (l3 : Int32) (l4 : Int32) : Option Int32 := (sX1_isClimate w l1 l2).bind (fun r1 => (if r1 = true then (sX1_isIn w l3 (0 : Int32) (500 : Int32)).bind (fun r4 => (if r4 = true then (sX1_isIn w l4 (0 : Int32) (10000000 : Int32)).bind (fun r7 => (if r7 = true then sX1_ofNewVenue_35 w (1 : Int32) else sX1_ofNewVenue_35 w (0 : Int32))) else sX1_ofNewVenue_35 w (0 : Int32))) else sX1_ofNewVenue_35 w (0 : Int32)))
theorem kX1_ofNewVenue {l : Launch} {Γ : Gl} {B : Bs} {w : Wl} {G : Gf} {sz : Nat} {l1 : Int32} {l2 : Int32} {l3 : Int32} {l4 : Int32} {r : Int32} (hW : Wd Γ B w G) (h : sX1_ofNewVenue w l1 l2 l3 l4 = some r) : CtR l Γ yX1_ofNewVenue cX1_ofNewVenue 6 (some .int) 2 [.ref (B.1 + 73), .int l1, .int l2, .int l3, .int l4] G sz (.int (r)) := by
  refine Ct.of rfl (Nat.le_of_ble_eq_true rfl) fun X hx hr hl hΓ hnm => ?_
  subst hl hΓ
  show J X 6 G sz 0 0 0 [some (.ref (B.1 + 73)), some (.int l1), some (.int l2), some (.int l3), some (.int l4), none] []
  unfold sX1_ofNewVenue at h
  refine J_il4 hx rfl rfl dX1_ofNewVenue_0 ?_
  refine J_il4 hx rfl rfl dX1_ofNewVenue_1 ?_
  obtain ⟨r1, hr2, h⟩ := bnd h
  refine J_rdS hx (kX1_isClimate  hW hr2) ml_X1_15 lk_X1_isClimate (rest := []) rfl rfl (by decide) (by decide) (Nat.le_of_ble_eq_true rfl) (Nat.le_refl 0) (Nat.le_refl 0) dX1_ofNewVenue_2 ?_
  refine J_bif_eq hx 34 dX1_ofNewVenue_5 rfl (fun h3 => ?_) (fun h3 => ?_)
  · replace h := neg h (bft h3)
    refine J_iconst hx (0 : Int32) dX1_ofNewVenue_34 rfl ?_
    refine J_lw (ls' := [some (.ref (B.1 + 73)), none, none, none, none, none]) (lwS (lwN (lwN (lwN (lwN (lwN lwZ)))))) ?_
    exact tX1_ofNewVenue_35 hx hr _ _  hW h
  · replace h := pos h h3
    refine J_il4 hx rfl rfl dX1_ofNewVenue_8 ?_
    refine J_iconst hx (0 : Int32) dX1_ofNewVenue_9 rfl ?_
    refine J_sipush hx (500 : Int32) dX1_ofNewVenue_10 rfl ?_
    obtain ⟨r4, hr5, h⟩ := bnd h
    refine J_rdS hx (kX1_isIn  hW hr5) ml_X1_19 lk_X1_isIn (rest := []) rfl rfl (by decide) (by decide) (Nat.le_of_ble_eq_true rfl) (Nat.le_refl 0) (Nat.le_refl 0) dX1_ofNewVenue_13 ?_
    refine J_bif_eq hx 34 dX1_ofNewVenue_16 rfl (fun h6 => ?_) (fun h6 => ?_)
    · replace h := neg h (bft h6)
      refine J_iconst hx (0 : Int32) dX1_ofNewVenue_34 rfl ?_
      refine J_lw (ls' := [some (.ref (B.1 + 73)), none, none, none, none, none]) (lwS (lwN (lwN (lwN (lwN (lwN lwZ)))))) ?_
      exact tX1_ofNewVenue_35 hx hr _ _  hW h
    · replace h := pos h h6
      refine J_il hx rfl dX1_ofNewVenue_19 ?_
      refine J_iconst hx (0 : Int32) dX1_ofNewVenue_21 rfl ?_
      refine J_ldc hx cn_X1_23 dX1_ofNewVenue_22 ?_
      obtain ⟨r7, hr8, h⟩ := bnd h
      refine J_rdS hx (kX1_isIn  hW hr8) ml_X1_19 lk_X1_isIn (rest := []) rfl rfl (by decide) (by decide) (Nat.le_of_ble_eq_true rfl) (Nat.le_refl 0) (Nat.le_refl 0) dX1_ofNewVenue_24 ?_
      refine J_bif_eq hx 34 dX1_ofNewVenue_27 rfl (fun h9 => ?_) (fun h9 => ?_)
      · replace h := neg h (bft h9)
        refine J_iconst hx (0 : Int32) dX1_ofNewVenue_34 rfl ?_
        refine J_lw (ls' := [some (.ref (B.1 + 73)), none, none, none, none, none]) (lwS (lwN (lwN (lwN (lwN (lwN lwZ)))))) ?_
        exact tX1_ofNewVenue_35 hx hr _ _  hW h
      · replace h := pos h h9
        refine J_iconst hx (1 : Int32) dX1_ofNewVenue_30 rfl ?_
        refine J_goto hx 35 dX1_ofNewVenue_31 rfl ?_
        refine J_lw (ls' := [some (.ref (B.1 + 73)), none, none, none, none, none]) (lwS (lwN (lwN (lwN (lwN (lwN lwZ)))))) ?_
        exact tX1_ofNewVenue_35 hx hr _ _  hW h
theorem dX1_ofClimate_0 : decode cX1_ofClimate 0 = .ok (.aload_n 0, 1) := by decide +kernel
theorem dX1_ofClimate_1 : decode cX1_ofClimate 1 = .ok (.getfield 9, 3) := by decide +kernel
theorem dX1_ofClimate_4 : decode cX1_ofClimate 4 = .ok (.iload_n 1, 1) := by decide +kernel
theorem dX1_ofClimate_5 : decode cX1_ofClimate 5 = .ok (.invokevirtual 34, 3) := by decide +kernel
theorem dX1_ofClimate_8 : decode cX1_ofClimate 8 = .ok (.iload_n 2, 1) := by decide +kernel
theorem dX1_ofClimate_9 : decode cX1_ofClimate 9 = .ok (.iload_n 3, 1) := by decide +kernel
theorem dX1_ofClimate_10 : decode cX1_ofClimate 10 = .ok (.invokestatic 15, 3) := by decide +kernel
theorem dX1_ofClimate_13 : decode cX1_ofClimate 13 = .ok (.iconst 1, 1) := by decide +kernel
theorem dX1_ofClimate_14 : decode cX1_ofClimate 14 = .ok (.invokestatic 30, 3) := by decide +kernel
theorem dX1_ofClimate_17 : decode cX1_ofClimate 17 = .ok (.ireturn, 1) := by decide +kernel
def sX1_ofClimate (w : Wl) (l1 : Int32) (l2 : Int32) (l3 : Int32) : Option Int32 := (sX6_hasVenue w l1).bind (fun r1 => (sX1_isClimate w l2 l3).bind (fun r3 => (sX1_firstWrong w (bI r1) (bI r3) (1 : Int32)).bind (fun r5 => some r5)))
theorem kX1_ofClimate {l : Launch} {Γ : Gl} {B : Bs} {w : Wl} {G : Gf} {sz : Nat} {l1 : Int32} {l2 : Int32} {l3 : Int32} {r : Int32} (hW : Wd Γ B w G) (h : sX1_ofClimate w l1 l2 l3 = some r) : CtR l Γ yX1_ofClimate cX1_ofClimate 4 (some .int) 2 [.ref (B.1 + 73), .int l1, .int l2, .int l3] G sz (.int (r)) := by
  refine Ct.of rfl (Nat.le_of_ble_eq_true rfl) fun X hx hr hl hΓ hnm => ?_
  subst hl hΓ
  show J X 4 G sz 0 0 0 [some (.ref (B.1 + 73)), some (.int l1), some (.int l2), some (.int l3)] []
  unfold sX1_ofClimate at h
  refine J_al4 hx rfl rfl dX1_ofClimate_0 ?_
  refine g1_0 hx hW 1 (rfl : kd 73 = 11) fl_X1_9 rfl dX1_ofClimate_1 ?_
  refine J_il4 hx rfl rfl dX1_ofClimate_4 ?_
  obtain ⟨r1, hr2, h⟩ := bnd h
  refine J_rdV hx (kX6_hasVenue  hW hr2) ml_X1_34 lk_X6_hasVenue (ci := 5) rfl (hW.obj (rfl : kd 1 = 2) (by decide) (by decide)) (rest := []) rfl rfl (by decide) (by decide) (Nat.le_of_ble_eq_true rfl) (Nat.le_refl 0) (Nat.le_refl 0) dX1_ofClimate_5 ?_
  refine J_il4 hx rfl rfl dX1_ofClimate_8 ?_
  refine J_il4 hx rfl rfl dX1_ofClimate_9 ?_
  obtain ⟨r3, hr4, h⟩ := bnd h
  refine J_rdS hx (kX1_isClimate  hW hr4) ml_X1_15 lk_X1_isClimate (rest := [.int (bI r1)]) rfl rfl (by decide) (by decide) (Nat.le_of_ble_eq_true rfl) (Nat.le_refl 0) (Nat.le_refl 0) dX1_ofClimate_10 ?_
  refine J_iconst hx (1 : Int32) dX1_ofClimate_13 rfl ?_
  obtain ⟨r5, hr6, h⟩ := bnd h
  refine J_rdS hx (kX1_firstWrong  hW hr6) ml_X1_30 lk_X1_firstWrong (rest := []) rfl rfl (by decide) (by decide) (Nat.le_of_ble_eq_true rfl) (Nat.le_refl 0) (Nat.le_refl 0) dX1_ofClimate_14 ?_
  exact J_iretR hx hr dX1_ofClimate_17 (Nat.le_refl 0) (Nat.le_refl 0) (Option.some.inj h)
theorem dX1_ofWay_0 : decode cX1_ofWay 0 = .ok (.aload_n 0, 1) := by decide +kernel
theorem dX1_ofWay_1 : decode cX1_ofWay 1 = .ok (.getfield 9, 3) := by decide +kernel
theorem dX1_ofWay_4 : decode cX1_ofWay 4 = .ok (.iload_n 1, 1) := by decide +kernel
theorem dX1_ofWay_5 : decode cX1_ofWay 5 = .ok (.invokevirtual 34, 3) := by decide +kernel
theorem dX1_ofWay_8 : decode cX1_ofWay 8 = .ok (.ifCond .eq 18, 3) := by decide +kernel
theorem dX1_ofWay_11 : decode cX1_ofWay 11 = .ok (.aload_n 0, 1) := by decide +kernel
theorem dX1_ofWay_12 : decode cX1_ofWay 12 = .ok (.getfield 9, 3) := by decide +kernel
theorem dX1_ofWay_15 : decode cX1_ofWay 15 = .ok (.iload_n 2, 1) := by decide +kernel
theorem dX1_ofWay_16 : decode cX1_ofWay 16 = .ok (.invokevirtual 34, 3) := by decide +kernel
theorem dX1_ofWay_19 : decode cX1_ofWay 19 = .ok (.ifCond .eq 7, 3) := by decide +kernel
theorem dX1_ofWay_22 : decode cX1_ofWay 22 = .ok (.iconst 1, 1) := by decide +kernel
theorem dX1_ofWay_23 : decode cX1_ofWay 23 = .ok (.goto 4, 3) := by decide +kernel
theorem dX1_ofWay_26 : decode cX1_ofWay 26 = .ok (.iconst 0, 1) := by decide +kernel
theorem dX1_ofWay_27 : decode cX1_ofWay 27 = .ok (.istore 4, 2) := by decide +kernel
theorem dX1_ofWay_29 : decode cX1_ofWay 29 = .ok (.iload 4, 2) := by decide +kernel
theorem dX1_ofWay_31 : decode cX1_ofWay 31 = .ok (.iload_n 1, 1) := by decide +kernel
theorem dX1_ofWay_32 : decode cX1_ofWay 32 = .ok (.iload_n 2, 1) := by decide +kernel
theorem dX1_ofWay_33 : decode cX1_ofWay 33 = .ok (.if_icmp .eq 18, 3) := by decide +kernel
theorem dX1_ofWay_36 : decode cX1_ofWay 36 = .ok (.iload_n 3, 1) := by decide +kernel
theorem dX1_ofWay_37 : decode cX1_ofWay 37 = .ok (.iconst 0, 1) := by decide +kernel
theorem dX1_ofWay_38 : decode cX1_ofWay 38 = .ok (.sipush 200, 3) := by decide +kernel
theorem dX1_ofWay_41 : decode cX1_ofWay 41 = .ok (.invokestatic 19, 3) := by decide +kernel
theorem dX1_ofWay_44 : decode cX1_ofWay 44 = .ok (.ifCond .eq 7, 3) := by decide +kernel
theorem dX1_ofWay_47 : decode cX1_ofWay 47 = .ok (.iconst 1, 1) := by decide +kernel
theorem dX1_ofWay_48 : decode cX1_ofWay 48 = .ok (.goto 4, 3) := by decide +kernel
theorem dX1_ofWay_51 : decode cX1_ofWay 51 = .ok (.iconst 0, 1) := by decide +kernel
theorem dX1_ofWay_52 : decode cX1_ofWay 52 = .ok (.iconst 1, 1) := by decide +kernel
theorem dX1_ofWay_53 : decode cX1_ofWay 53 = .ok (.invokestatic 30, 3) := by decide +kernel
theorem dX1_ofWay_56 : decode cX1_ofWay 56 = .ok (.ireturn, 1) := by decide +kernel
def sX1_ofWay_27 (w : Wl) (l1 : Int32) (l2 : Int32) (l3 : Int32) (s0 : Int32) : Option Int32 := (if l1 = l2 then (sX1_firstWrong w s0 (0 : Int32) (1 : Int32)).bind (fun r2 => some r2) else (sX1_isIn w l3 (0 : Int32) (200 : Int32)).bind (fun r4 => (if r4 = true then (sX1_firstWrong w s0 (1 : Int32) (1 : Int32)).bind (fun r9 => some r9) else (sX1_firstWrong w s0 (0 : Int32) (1 : Int32)).bind (fun r7 => some r7))))
theorem tX1_ofWay_27 {X : Cx} {B : Bs} {sz : Nat} {G : Gf} {r : Int32} (hx : Fx X cX1_ofWay 5 RX1 1 0 0) (hr : Rt X (some .int) 0 0 (RdΨ (.int (r)) G sz)) : ∀ (w : Wl) (l1 : Int32) (l2 : Int32) (l3 : Int32) (s0 : Int32) (hW : Wd (xΓ X) B w G) (h : sX1_ofWay_27  w l1 l2 l3 s0 = some r), J X 5 G sz 0 0 27 [none, some (.int l1), some (.int l2), some (.int l3), none] [.int s0] := by
  intro w l1 l2 l3 s0 hW h
  unfold sX1_ofWay_27 at h
  refine J_is hx (by decide) (hc_of rfl) rfl dX1_ofWay_27 ?_
  refine J_il hx rfl dX1_ofWay_29 ?_
  refine J_il4 hx rfl rfl dX1_ofWay_31 ?_
  refine J_il4 hx rfl rfl dX1_ofWay_32 ?_
  refine J_icmp_eq hx 51 dX1_ofWay_33 rfl (fun h1 => ?_) (fun h1 => ?_)
  · replace h := pos h h1
    refine J_iconst hx (0 : Int32) dX1_ofWay_51 rfl ?_
    refine J_iconst hx (1 : Int32) dX1_ofWay_52 rfl ?_
    obtain ⟨r2, hr3, h⟩ := bnd h
    refine J_rdS hx (kX1_firstWrong  hW hr3) ml_X1_30 lk_X1_firstWrong (rest := []) rfl rfl (by decide) (by decide) (Nat.le_of_ble_eq_true rfl) (Nat.le_refl 0) (Nat.le_refl 0) dX1_ofWay_53 ?_
    exact J_iretR hx hr dX1_ofWay_56 (Nat.le_refl 0) (Nat.le_refl 0) (Option.some.inj h)
  · replace h := neg h h1
    refine J_il4 hx rfl rfl dX1_ofWay_36 ?_
    refine J_iconst hx (0 : Int32) dX1_ofWay_37 rfl ?_
    refine J_sipush hx (200 : Int32) dX1_ofWay_38 rfl ?_
    obtain ⟨r4, hr5, h⟩ := bnd h
    refine J_rdS hx (kX1_isIn  hW hr5) ml_X1_19 lk_X1_isIn (rest := [.int s0]) rfl rfl (by decide) (by decide) (Nat.le_of_ble_eq_true rfl) (Nat.le_refl 0) (Nat.le_refl 0) dX1_ofWay_41 ?_
    refine J_bif_eq hx 51 dX1_ofWay_44 rfl (fun h6 => ?_) (fun h6 => ?_)
    · replace h := neg h (bft h6)
      refine J_iconst hx (0 : Int32) dX1_ofWay_51 rfl ?_
      refine J_iconst hx (1 : Int32) dX1_ofWay_52 rfl ?_
      obtain ⟨r7, hr8, h⟩ := bnd h
      refine J_rdS hx (kX1_firstWrong  hW hr8) ml_X1_30 lk_X1_firstWrong (rest := []) rfl rfl (by decide) (by decide) (Nat.le_of_ble_eq_true rfl) (Nat.le_refl 0) (Nat.le_refl 0) dX1_ofWay_53 ?_
      exact J_iretR hx hr dX1_ofWay_56 (Nat.le_refl 0) (Nat.le_refl 0) (Option.some.inj h)
    · replace h := pos h h6
      refine J_iconst hx (1 : Int32) dX1_ofWay_47 rfl ?_
      refine J_goto hx 52 dX1_ofWay_48 rfl ?_
      refine J_iconst hx (1 : Int32) dX1_ofWay_52 rfl ?_
      obtain ⟨r9, hr10, h⟩ := bnd h
      refine J_rdS hx (kX1_firstWrong  hW hr10) ml_X1_30 lk_X1_firstWrong (rest := []) rfl rfl (by decide) (by decide) (Nat.le_of_ble_eq_true rfl) (Nat.le_refl 0) (Nat.le_refl 0) dX1_ofWay_53 ?_
      exact J_iretR hx hr dX1_ofWay_56 (Nat.le_refl 0) (Nat.le_refl 0) (Option.some.inj h)
def sX1_ofWay (w : Wl) (l1 : Int32) (l2 : Int32) (l3 : Int32) : Option Int32 := (sX6_hasVenue w l1).bind (fun r1 => (if r1 = true then (sX6_hasVenue w l2).bind (fun r4 => (if r4 = true then sX1_ofWay_27 w l1 l2 l3 (1 : Int32) else sX1_ofWay_27 w l1 l2 l3 (0 : Int32))) else sX1_ofWay_27 w l1 l2 l3 (0 : Int32)))
theorem kX1_ofWay {l : Launch} {Γ : Gl} {B : Bs} {w : Wl} {G : Gf} {sz : Nat} {l1 : Int32} {l2 : Int32} {l3 : Int32} {r : Int32} (hW : Wd Γ B w G) (h : sX1_ofWay w l1 l2 l3 = some r) : CtR l Γ yX1_ofWay cX1_ofWay 5 (some .int) 1 [.ref (B.1 + 73), .int l1, .int l2, .int l3] G sz (.int (r)) := by
  refine Ct.of rfl (Nat.le_of_ble_eq_true rfl) fun X hx hr hl hΓ hnm => ?_
  subst hl hΓ
  show J X 5 G sz 0 0 0 [some (.ref (B.1 + 73)), some (.int l1), some (.int l2), some (.int l3), none] []
  unfold sX1_ofWay at h
  refine J_al4 hx rfl rfl dX1_ofWay_0 ?_
  refine g1_0 hx hW 1 (rfl : kd 73 = 11) fl_X1_9 rfl dX1_ofWay_1 ?_
  refine J_il4 hx rfl rfl dX1_ofWay_4 ?_
  obtain ⟨r1, hr2, h⟩ := bnd h
  refine J_rdV hx (kX6_hasVenue  hW hr2) ml_X1_34 lk_X6_hasVenue (ci := 5) rfl (hW.obj (rfl : kd 1 = 2) (by decide) (by decide)) (rest := []) rfl rfl (by decide) (by decide) (Nat.le_of_ble_eq_true rfl) (Nat.le_refl 0) (Nat.le_refl 0) dX1_ofWay_5 ?_
  refine J_bif_eq hx 26 dX1_ofWay_8 rfl (fun h3 => ?_) (fun h3 => ?_)
  · replace h := neg h (bft h3)
    refine J_iconst hx (0 : Int32) dX1_ofWay_26 rfl ?_
    refine J_lw (ls' := [none, some (.int l1), some (.int l2), some (.int l3), none]) (lwN (lwS (lwS (lwS (lwN lwZ))))) ?_
    exact tX1_ofWay_27 hx hr _ _ _ _ _  hW h
  · replace h := pos h h3
    refine J_al4 hx rfl rfl dX1_ofWay_11 ?_
    refine g1_0 hx hW 1 (rfl : kd 73 = 11) fl_X1_9 rfl dX1_ofWay_12 ?_
    refine J_il4 hx rfl rfl dX1_ofWay_15 ?_
    obtain ⟨r4, hr5, h⟩ := bnd h
    refine J_rdV hx (kX6_hasVenue  hW hr5) ml_X1_34 lk_X6_hasVenue (ci := 5) rfl (hW.obj (rfl : kd 1 = 2) (by decide) (by decide)) (rest := []) rfl rfl (by decide) (by decide) (Nat.le_of_ble_eq_true rfl) (Nat.le_refl 0) (Nat.le_refl 0) dX1_ofWay_16 ?_
    refine J_bif_eq hx 26 dX1_ofWay_19 rfl (fun h6 => ?_) (fun h6 => ?_)
    · replace h := neg h (bft h6)
      refine J_iconst hx (0 : Int32) dX1_ofWay_26 rfl ?_
      refine J_lw (ls' := [none, some (.int l1), some (.int l2), some (.int l3), none]) (lwN (lwS (lwS (lwS (lwN lwZ))))) ?_
      exact tX1_ofWay_27 hx hr _ _ _ _ _  hW h
    · replace h := pos h h6
      refine J_iconst hx (1 : Int32) dX1_ofWay_22 rfl ?_
      refine J_goto hx 27 dX1_ofWay_23 rfl ?_
      refine J_lw (ls' := [none, some (.int l1), some (.int l2), some (.int l3), none]) (lwN (lwS (lwS (lwS (lwN lwZ))))) ?_
      exact tX1_ofWay_27 hx hr _ _ _ _ _  hW h
theorem dX1_isLenderValue_0 : decode cX1_isLenderValue 0 = .ok (.iload_n 0, 1) := by decide +kernel
theorem dX1_isLenderValue_1 : decode cX1_isLenderValue 1 = .ok (.tableswitch 58 0 3 #[31, 31, 40, 49], 31) := by decide +kernel
theorem dX1_isLenderValue_32 : decode cX1_isLenderValue 32 = .ok (.iload_n 1, 1) := by decide +kernel
theorem dX1_isLenderValue_33 : decode cX1_isLenderValue 33 = .ok (.bipush (-10), 2) := by decide +kernel
theorem dX1_isLenderValue_35 : decode cX1_isLenderValue 35 = .ok (.bipush 40, 2) := by decide +kernel
theorem dX1_isLenderValue_37 : decode cX1_isLenderValue 37 = .ok (.invokestatic 19, 3) := by decide +kernel
theorem dX1_isLenderValue_40 : decode cX1_isLenderValue 40 = .ok (.ireturn, 1) := by decide +kernel
theorem dX1_isLenderValue_41 : decode cX1_isLenderValue 41 = .ok (.iload_n 1, 1) := by decide +kernel
theorem dX1_isLenderValue_42 : decode cX1_isLenderValue 42 = .ok (.bipush 20, 2) := by decide +kernel
theorem dX1_isLenderValue_44 : decode cX1_isLenderValue 44 = .ok (.bipush 90, 2) := by decide +kernel
theorem dX1_isLenderValue_46 : decode cX1_isLenderValue 46 = .ok (.invokestatic 19, 3) := by decide +kernel
theorem dX1_isLenderValue_49 : decode cX1_isLenderValue 49 = .ok (.ireturn, 1) := by decide +kernel
theorem dX1_isLenderValue_50 : decode cX1_isLenderValue 50 = .ok (.iload_n 1, 1) := by decide +kernel
theorem dX1_isLenderValue_51 : decode cX1_isLenderValue 51 = .ok (.iconst 0, 1) := by decide +kernel
theorem dX1_isLenderValue_52 : decode cX1_isLenderValue 52 = .ok (.sipush 255, 3) := by decide +kernel
theorem dX1_isLenderValue_55 : decode cX1_isLenderValue 55 = .ok (.invokestatic 19, 3) := by decide +kernel
theorem dX1_isLenderValue_58 : decode cX1_isLenderValue 58 = .ok (.ireturn, 1) := by decide +kernel
theorem dX1_isLenderValue_59 : decode cX1_isLenderValue 59 = .ok (.iconst 0, 1) := by decide +kernel
theorem dX1_isLenderValue_60 : decode cX1_isLenderValue 60 = .ok (.ireturn, 1) := by decide +kernel
def sX1_isLenderValue (w : Wl) (l0 : Int32) (l1 : Int32) : Option Bool := (if l0 = 0 then (sX1_isIn w l1 (-10 : Int32) (40 : Int32)).bind (fun r2 => some r2) else (if l0 = 1 then (sX1_isIn w l1 (-10 : Int32) (40 : Int32)).bind (fun r5 => some r5) else (if l0 = 2 then (sX1_isIn w l1 (20 : Int32) (90 : Int32)).bind (fun r8 => some r8) else (if l0 = 3 then (sX1_isIn w l1 (0 : Int32) (255 : Int32)).bind (fun r11 => some r11) else some false))))
theorem kX1_isLenderValue {l : Launch} {Γ : Gl} {B : Bs} {w : Wl} {G : Gf} {sz : Nat} {l0 : Int32} {l1 : Int32} {r : Bool} (hW : Wd Γ B w G) (h : sX1_isLenderValue w l0 l1 = some r) : CtR l Γ yX1_isLenderValue cX1_isLenderValue 2 (some .boolean) 1 [.int l0, .int l1] G sz (.int (bI r)) := by
  refine Ct.of rfl (Nat.le_of_ble_eq_true rfl) fun X hx hr hl hΓ hnm => ?_
  subst hl hΓ
  show J X 2 G sz 0 0 0 [some (.int l0), some (.int l1)] []
  unfold sX1_isLenderValue at h
  refine J_il4 hx rfl rfl dX1_isLenderValue_0 ?_
  by_cases h1 : l0 = 0
  · replace h := pos h h1
    refine J_swIn hx 32 dX1_isLenderValue_1 (by rw [h1]; decide) (by rw [h1]; decide) (by rw [h1]; rfl) rfl ?_
    refine J_il4 hx rfl rfl dX1_isLenderValue_32 ?_
    refine J_bipush hx (-10 : Int32) dX1_isLenderValue_33 rfl ?_
    refine J_bipush hx (40 : Int32) dX1_isLenderValue_35 rfl ?_
    obtain ⟨r2, hr3, h⟩ := bnd h
    refine J_rdS hx (kX1_isIn  hW hr3) ml_X1_19 lk_X1_isIn (rest := []) rfl rfl (by decide) (by decide) (Nat.le_of_ble_eq_true rfl) (Nat.le_refl 0) (Nat.le_refl 0) dX1_isLenderValue_37 ?_
    exact J_zretR hx hr dX1_isLenderValue_40 (Nat.le_refl 0) (Nat.le_refl 0) (show (bI r2) = bI _ from congrArg bI (Option.some.inj h))
  replace h := neg h h1
  by_cases h4 : l0 = 1
  · replace h := pos h h4
    refine J_swIn hx 32 dX1_isLenderValue_1 (by rw [h4]; decide) (by rw [h4]; decide) (by rw [h4]; rfl) rfl ?_
    refine J_il4 hx rfl rfl dX1_isLenderValue_32 ?_
    refine J_bipush hx (-10 : Int32) dX1_isLenderValue_33 rfl ?_
    refine J_bipush hx (40 : Int32) dX1_isLenderValue_35 rfl ?_
    obtain ⟨r5, hr6, h⟩ := bnd h
    refine J_rdS hx (kX1_isIn  hW hr6) ml_X1_19 lk_X1_isIn (rest := []) rfl rfl (by decide) (by decide) (Nat.le_of_ble_eq_true rfl) (Nat.le_refl 0) (Nat.le_refl 0) dX1_isLenderValue_37 ?_
    exact J_zretR hx hr dX1_isLenderValue_40 (Nat.le_refl 0) (Nat.le_refl 0) (show (bI r5) = bI _ from congrArg bI (Option.some.inj h))
  replace h := neg h h4
  by_cases h7 : l0 = 2
  · replace h := pos h h7
    refine J_swIn hx 41 dX1_isLenderValue_1 (by rw [h7]; decide) (by rw [h7]; decide) (by rw [h7]; rfl) rfl ?_
    refine J_il4 hx rfl rfl dX1_isLenderValue_41 ?_
    refine J_bipush hx (20 : Int32) dX1_isLenderValue_42 rfl ?_
    refine J_bipush hx (90 : Int32) dX1_isLenderValue_44 rfl ?_
    obtain ⟨r8, hr9, h⟩ := bnd h
    refine J_rdS hx (kX1_isIn  hW hr9) ml_X1_19 lk_X1_isIn (rest := []) rfl rfl (by decide) (by decide) (Nat.le_of_ble_eq_true rfl) (Nat.le_refl 0) (Nat.le_refl 0) dX1_isLenderValue_46 ?_
    exact J_zretR hx hr dX1_isLenderValue_49 (Nat.le_refl 0) (Nat.le_refl 0) (show (bI r8) = bI _ from congrArg bI (Option.some.inj h))
  replace h := neg h h7
  by_cases h10 : l0 = 3
  · replace h := pos h h10
    refine J_swIn hx 50 dX1_isLenderValue_1 (by rw [h10]; decide) (by rw [h10]; decide) (by rw [h10]; rfl) rfl ?_
    refine J_il4 hx rfl rfl dX1_isLenderValue_50 ?_
    refine J_iconst hx (0 : Int32) dX1_isLenderValue_51 rfl ?_
    refine J_sipush hx (255 : Int32) dX1_isLenderValue_52 rfl ?_
    obtain ⟨r11, hr12, h⟩ := bnd h
    refine J_rdS hx (kX1_isIn  hW hr12) ml_X1_19 lk_X1_isIn (rest := []) rfl rfl (by decide) (by decide) (Nat.le_of_ble_eq_true rfl) (Nat.le_refl 0) (Nat.le_refl 0) dX1_isLenderValue_55 ?_
    exact J_zretR hx hr dX1_isLenderValue_58 (Nat.le_refl 0) (Nat.le_refl 0) (show (bI r11) = bI _ from congrArg bI (Option.some.inj h))
  replace h := neg h h10
  refine J_swOut hx 59 dX1_isLenderValue_1 (swD fun j jl jh e => by
      have hj : j = 0 ∨ j = 1 ∨ j = 2 ∨ j = 3 := by omega
      rcases hj with rfl | rfl | rfl | rfl <;> first | exact h1 e | exact h4 e | exact h7 e | exact h10 e) rfl ?_
  refine J_iconst hx (0 : Int32) dX1_isLenderValue_59 rfl ?_
  exact J_zretR hx hr dX1_isLenderValue_60 (Nat.le_refl 0) (Nat.le_refl 0) (show (0 : Int32) = bI _ from congrArg bI (Option.some.inj h))
theorem dX1_ofLenderValue_0 : decode cX1_ofLenderValue 0 = .ok (.iload_n 1, 1) := by decide +kernel
theorem dX1_ofLenderValue_1 : decode cX1_ofLenderValue 1 = .ok (.iconst 0, 1) := by decide +kernel
theorem dX1_ofLenderValue_2 : decode cX1_ofLenderValue 2 = .ok (.iconst 5, 1) := by decide +kernel
theorem dX1_ofLenderValue_3 : decode cX1_ofLenderValue 3 = .ok (.invokestatic 19, 3) := by decide +kernel
theorem dX1_ofLenderValue_6 : decode cX1_ofLenderValue 6 = .ok (.ifCond .eq 15, 3) := by decide +kernel
theorem dX1_ofLenderValue_9 : decode cX1_ofLenderValue 9 = .ok (.iload_n 2, 1) := by decide +kernel
theorem dX1_ofLenderValue_10 : decode cX1_ofLenderValue 10 = .ok (.iload_n 3, 1) := by decide +kernel
theorem dX1_ofLenderValue_11 : decode cX1_ofLenderValue 11 = .ok (.invokestatic 38, 3) := by decide +kernel
theorem dX1_ofLenderValue_14 : decode cX1_ofLenderValue 14 = .ok (.ifCond .eq 7, 3) := by decide +kernel
theorem dX1_ofLenderValue_17 : decode cX1_ofLenderValue 17 = .ok (.iconst 1, 1) := by decide +kernel
theorem dX1_ofLenderValue_18 : decode cX1_ofLenderValue 18 = .ok (.goto 4, 3) := by decide +kernel
theorem dX1_ofLenderValue_21 : decode cX1_ofLenderValue 21 = .ok (.iconst 0, 1) := by decide +kernel
theorem dX1_ofLenderValue_22 : decode cX1_ofLenderValue 22 = .ok (.istore 4, 2) := by decide +kernel
theorem dX1_ofLenderValue_24 : decode cX1_ofLenderValue 24 = .ok (.iconst 1, 1) := by decide +kernel
theorem dX1_ofLenderValue_25 : decode cX1_ofLenderValue 25 = .ok (.iload 4, 2) := by decide +kernel
theorem dX1_ofLenderValue_27 : decode cX1_ofLenderValue 27 = .ok (.iconst 1, 1) := by decide +kernel
theorem dX1_ofLenderValue_28 : decode cX1_ofLenderValue 28 = .ok (.invokestatic 30, 3) := by decide +kernel
theorem dX1_ofLenderValue_31 : decode cX1_ofLenderValue 31 = .ok (.ireturn, 1) := by decide +kernel
def sX1_ofLenderValue_22 (w : Wl) (s0 : Int32) : Option Int32 := (sX1_firstWrong w (1 : Int32) s0 (1 : Int32)).bind (fun r1 => some r1)
theorem tX1_ofLenderValue_22 {X : Cx} {B : Bs} {sz : Nat} {G : Gf} {r : Int32} (hx : Fx X cX1_ofLenderValue 5 RX1 2 0 0) (hr : Rt X (some .int) 0 0 (RdΨ (.int (r)) G sz)) : ∀ (w : Wl) (s0 : Int32) (hW : Wd (xΓ X) B w G) (h : sX1_ofLenderValue_22  w s0 = some r), J X 5 G sz 0 0 22 [none, none, none, none, none] [.int s0] := by
  intro w s0 hW h
  unfold sX1_ofLenderValue_22 at h
  refine J_is hx (by decide) (hc_of rfl) rfl dX1_ofLenderValue_22 ?_
  refine J_iconst hx (1 : Int32) dX1_ofLenderValue_24 rfl ?_
  refine J_il hx rfl dX1_ofLenderValue_25 ?_
  refine J_iconst hx (1 : Int32) dX1_ofLenderValue_27 rfl ?_
  obtain ⟨r1, hr2, h⟩ := bnd h
  refine J_rdS hx (kX1_firstWrong  hW hr2) ml_X1_30 lk_X1_firstWrong (rest := []) rfl rfl (by decide) (by decide) (Nat.le_of_ble_eq_true rfl) (Nat.le_refl 0) (Nat.le_refl 0) dX1_ofLenderValue_28 ?_
  exact J_iretR hx hr dX1_ofLenderValue_31 (Nat.le_refl 0) (Nat.le_refl 0) (Option.some.inj h)
def sX1_ofLenderValue (w : Wl) (l1 : Int32) (l2 : Int32) (l3 : Int32) : Option Int32 := (sX1_isIn w l1 (0 : Int32) (5 : Int32)).bind (fun r1 => (if r1 = true then (sX1_isLenderValue w l2 l3).bind (fun r4 => (if r4 = true then sX1_ofLenderValue_22 w (1 : Int32) else sX1_ofLenderValue_22 w (0 : Int32))) else sX1_ofLenderValue_22 w (0 : Int32)))
theorem kX1_ofLenderValue {l : Launch} {Γ : Gl} {B : Bs} {w : Wl} {G : Gf} {sz : Nat} {l1 : Int32} {l2 : Int32} {l3 : Int32} {r : Int32} (hW : Wd Γ B w G) (h : sX1_ofLenderValue w l1 l2 l3 = some r) : CtR l Γ yX1_ofLenderValue cX1_ofLenderValue 5 (some .int) 2 [.ref (B.1 + 73), .int l1, .int l2, .int l3] G sz (.int (r)) := by
  refine Ct.of rfl (Nat.le_of_ble_eq_true rfl) fun X hx hr hl hΓ hnm => ?_
  subst hl hΓ
  show J X 5 G sz 0 0 0 [some (.ref (B.1 + 73)), some (.int l1), some (.int l2), some (.int l3), none] []
  unfold sX1_ofLenderValue at h
  refine J_il4 hx rfl rfl dX1_ofLenderValue_0 ?_
  refine J_iconst hx (0 : Int32) dX1_ofLenderValue_1 rfl ?_
  refine J_iconst hx (5 : Int32) dX1_ofLenderValue_2 rfl ?_
  obtain ⟨r1, hr2, h⟩ := bnd h
  refine J_rdS hx (kX1_isIn  hW hr2) ml_X1_19 lk_X1_isIn (rest := []) rfl rfl (by decide) (by decide) (Nat.le_of_ble_eq_true rfl) (Nat.le_refl 0) (Nat.le_refl 0) dX1_ofLenderValue_3 ?_
  refine J_bif_eq hx 21 dX1_ofLenderValue_6 rfl (fun h3 => ?_) (fun h3 => ?_)
  · replace h := neg h (bft h3)
    refine J_iconst hx (0 : Int32) dX1_ofLenderValue_21 rfl ?_
    refine J_lw (ls' := [none, none, none, none, none]) (lwN (lwN (lwN (lwN (lwN lwZ))))) ?_
    exact tX1_ofLenderValue_22 hx hr _ _  hW h
  · replace h := pos h h3
    refine J_il4 hx rfl rfl dX1_ofLenderValue_9 ?_
    refine J_il4 hx rfl rfl dX1_ofLenderValue_10 ?_
    obtain ⟨r4, hr5, h⟩ := bnd h
    refine J_rdS hx (kX1_isLenderValue  hW hr5) ml_X1_38 lk_X1_isLenderValue (rest := []) rfl rfl (by decide) (by decide) (Nat.le_of_ble_eq_true rfl) (Nat.le_refl 0) (Nat.le_refl 0) dX1_ofLenderValue_11 ?_
    refine J_bif_eq hx 21 dX1_ofLenderValue_14 rfl (fun h6 => ?_) (fun h6 => ?_)
    · replace h := neg h (bft h6)
      refine J_iconst hx (0 : Int32) dX1_ofLenderValue_21 rfl ?_
      refine J_lw (ls' := [none, none, none, none, none]) (lwN (lwN (lwN (lwN (lwN lwZ))))) ?_
      exact tX1_ofLenderValue_22 hx hr _ _  hW h
    · replace h := pos h h6
      refine J_iconst hx (1 : Int32) dX1_ofLenderValue_17 rfl ?_
      refine J_goto hx 22 dX1_ofLenderValue_18 rfl ?_
      refine J_lw (ls' := [none, none, none, none, none]) (lwN (lwN (lwN (lwN (lwN lwZ))))) ?_
      exact tX1_ofLenderValue_22 hx hr _ _  hW h
theorem dX1_ofWayRate_0 : decode cX1_ofWayRate 0 = .ok (.iconst 1, 1) := by decide +kernel
theorem dX1_ofWayRate_1 : decode cX1_ofWayRate 1 = .ok (.iload_n 1, 1) := by decide +kernel
theorem dX1_ofWayRate_2 : decode cX1_ofWayRate 2 = .ok (.iconst 0, 1) := by decide +kernel
theorem dX1_ofWayRate_3 : decode cX1_ofWayRate 3 = .ok (.sipush 5000, 3) := by decide +kernel
theorem dX1_ofWayRate_6 : decode cX1_ofWayRate 6 = .ok (.invokestatic 19, 3) := by decide +kernel
theorem dX1_ofWayRate_9 : decode cX1_ofWayRate 9 = .ok (.iconst 1, 1) := by decide +kernel
theorem dX1_ofWayRate_10 : decode cX1_ofWayRate 10 = .ok (.invokestatic 30, 3) := by decide +kernel
theorem dX1_ofWayRate_13 : decode cX1_ofWayRate 13 = .ok (.ireturn, 1) := by decide +kernel
def sX1_ofWayRate (w : Wl) (l1 : Int32) : Option Int32 := (sX1_isIn w l1 (0 : Int32) (5000 : Int32)).bind (fun r1 => (sX1_firstWrong w (1 : Int32) (bI r1) (1 : Int32)).bind (fun r3 => some r3))
theorem kX1_ofWayRate {l : Launch} {Γ : Gl} {B : Bs} {w : Wl} {G : Gf} {sz : Nat} {l1 : Int32} {r : Int32} (hW : Wd Γ B w G) (h : sX1_ofWayRate w l1 = some r) : CtR l Γ yX1_ofWayRate cX1_ofWayRate 2 (some .int) 1 [.ref (B.1 + 73), .int l1] G sz (.int (r)) := by
  refine Ct.of rfl (Nat.le_of_ble_eq_true rfl) fun X hx hr hl hΓ hnm => ?_
  subst hl hΓ
  show J X 2 G sz 0 0 0 [some (.ref (B.1 + 73)), some (.int l1)] []
  unfold sX1_ofWayRate at h
  refine J_iconst hx (1 : Int32) dX1_ofWayRate_0 rfl ?_
  refine J_il4 hx rfl rfl dX1_ofWayRate_1 ?_
  refine J_iconst hx (0 : Int32) dX1_ofWayRate_2 rfl ?_
  refine J_sipush hx (5000 : Int32) dX1_ofWayRate_3 rfl ?_
  obtain ⟨r1, hr2, h⟩ := bnd h
  refine J_rdS hx (kX1_isIn  hW hr2) ml_X1_19 lk_X1_isIn (rest := [.int (1 : Int32)]) rfl rfl (by decide) (by decide) (Nat.le_of_ble_eq_true rfl) (Nat.le_refl 0) (Nat.le_refl 0) dX1_ofWayRate_6 ?_
  refine J_iconst hx (1 : Int32) dX1_ofWayRate_9 rfl ?_
  obtain ⟨r3, hr4, h⟩ := bnd h
  refine J_rdS hx (kX1_firstWrong  hW hr4) ml_X1_30 lk_X1_firstWrong (rest := []) rfl rfl (by decide) (by decide) (Nat.le_of_ble_eq_true rfl) (Nat.le_refl 0) (Nat.le_refl 0) dX1_ofWayRate_10 ?_
  exact J_iretR hx hr dX1_ofWayRate_13 (Nat.le_refl 0) (Nat.le_refl 0) (Option.some.inj h)
theorem dX1_ofNewCourier_0 : decode cX1_ofNewCourier 0 = .ok (.aload_n 0, 1) := by decide +kernel
theorem dX1_ofNewCourier_1 : decode cX1_ofNewCourier 1 = .ok (.getfield 9, 3) := by decide +kernel
theorem dX1_ofNewCourier_4 : decode cX1_ofNewCourier 4 = .ok (.iload_n 1, 1) := by decide +kernel
theorem dX1_ofNewCourier_5 : decode cX1_ofNewCourier 5 = .ok (.invokevirtual 34, 3) := by decide +kernel
theorem dX1_ofNewCourier_8 : decode cX1_ofNewCourier 8 = .ok (.iconst 1, 1) := by decide +kernel
theorem dX1_ofNewCourier_9 : decode cX1_ofNewCourier 9 = .ok (.aload_n 0, 1) := by decide +kernel
theorem dX1_ofNewCourier_10 : decode cX1_ofNewCourier 10 = .ok (.getfield 9, 3) := by decide +kernel
theorem dX1_ofNewCourier_13 : decode cX1_ofNewCourier 13 = .ok (.getfield 41, 3) := by decide +kernel
theorem dX1_ofNewCourier_16 : decode cX1_ofNewCourier 16 = .ok (.iconst 4, 1) := by decide +kernel
theorem dX1_ofNewCourier_17 : decode cX1_ofNewCourier 17 = .ok (.if_icmp .ge 7, 3) := by decide +kernel
theorem dX1_ofNewCourier_20 : decode cX1_ofNewCourier 20 = .ok (.iconst 1, 1) := by decide +kernel
theorem dX1_ofNewCourier_21 : decode cX1_ofNewCourier 21 = .ok (.goto 4, 3) := by decide +kernel
theorem dX1_ofNewCourier_24 : decode cX1_ofNewCourier 24 = .ok (.iconst 0, 1) := by decide +kernel
theorem dX1_ofNewCourier_25 : decode cX1_ofNewCourier 25 = .ok (.invokestatic 30, 3) := by decide +kernel
theorem dX1_ofNewCourier_28 : decode cX1_ofNewCourier 28 = .ok (.ireturn, 1) := by decide +kernel
def sX1_ofNewCourier (w : Wl) (l1 : Int32) : Option Int32 := (sX6_hasVenue w l1).bind (fun r1 => (if (4 : Int32) ≤ (w 1 8) then (sX1_firstWrong w (bI r1) (1 : Int32) (0 : Int32)).bind (fun r4 => some r4) else (sX1_firstWrong w (bI r1) (1 : Int32) (1 : Int32)).bind (fun r6 => some r6)))
theorem kX1_ofNewCourier {l : Launch} {Γ : Gl} {B : Bs} {w : Wl} {G : Gf} {sz : Nat} {l1 : Int32} {r : Int32} (hW : Wd Γ B w G) (h : sX1_ofNewCourier w l1 = some r) : CtR l Γ yX1_ofNewCourier cX1_ofNewCourier 2 (some .int) 1 [.ref (B.1 + 73), .int l1] G sz (.int (r)) := by
  refine Ct.of rfl (Nat.le_of_ble_eq_true rfl) fun X hx hr hl hΓ hnm => ?_
  subst hl hΓ
  show J X 2 G sz 0 0 0 [some (.ref (B.1 + 73)), some (.int l1)] []
  unfold sX1_ofNewCourier at h
  refine J_al4 hx rfl rfl dX1_ofNewCourier_0 ?_
  refine g1_0 hx hW 1 (rfl : kd 73 = 11) fl_X1_9 rfl dX1_ofNewCourier_1 ?_
  refine J_il4 hx rfl rfl dX1_ofNewCourier_4 ?_
  obtain ⟨r1, hr2, h⟩ := bnd h
  refine J_rdV hx (kX6_hasVenue  hW hr2) ml_X1_34 lk_X6_hasVenue (ci := 5) rfl (hW.obj (rfl : kd 1 = 2) (by decide) (by decide)) (rest := []) rfl rfl (by decide) (by decide) (Nat.le_of_ble_eq_true rfl) (Nat.le_refl 0) (Nat.le_refl 0) dX1_ofNewCourier_5 ?_
  refine J_iconst hx (1 : Int32) dX1_ofNewCourier_8 rfl ?_
  refine J_al4 hx rfl rfl dX1_ofNewCourier_9 ?_
  refine g1_0 hx hW 1 (rfl : kd 73 = 11) fl_X1_9 rfl dX1_ofNewCourier_10 ?_
  refine g6_8 hx hW (rfl : kd 1 = 2) fl_X1_41 dX1_ofNewCourier_13 ?_
  refine J_iconst hx (4 : Int32) dX1_ofNewCourier_16 rfl ?_
  refine J_icmp_ge hx 24 dX1_ofNewCourier_17 rfl (fun h3 => ?_) (fun h3 => ?_)
  · replace h := pos h h3
    refine J_iconst hx (0 : Int32) dX1_ofNewCourier_24 rfl ?_
    obtain ⟨r4, hr5, h⟩ := bnd h
    refine J_rdS hx (kX1_firstWrong  hW hr5) ml_X1_30 lk_X1_firstWrong (rest := []) rfl rfl (by decide) (by decide) (Nat.le_of_ble_eq_true rfl) (Nat.le_refl 0) (Nat.le_refl 0) dX1_ofNewCourier_25 ?_
    exact J_iretR hx hr dX1_ofNewCourier_28 (Nat.le_refl 0) (Nat.le_refl 0) (Option.some.inj h)
  · replace h := neg h h3
    refine J_iconst hx (1 : Int32) dX1_ofNewCourier_20 rfl ?_
    refine J_goto hx 25 dX1_ofNewCourier_21 rfl ?_
    obtain ⟨r6, hr7, h⟩ := bnd h
    refine J_rdS hx (kX1_firstWrong  hW hr7) ml_X1_30 lk_X1_firstWrong (rest := []) rfl rfl (by decide) (by decide) (Nat.le_of_ble_eq_true rfl) (Nat.le_refl 0) (Nat.le_refl 0) dX1_ofNewCourier_25 ?_
    exact J_iretR hx hr dX1_ofNewCourier_28 (Nat.le_refl 0) (Nat.le_refl 0) (Option.some.inj h)
theorem dX1_ofNewCrate_0 : decode cX1_ofNewCrate 0 = .ok (.aload_n 0, 1) := by decide +kernel
theorem dX1_ofNewCrate_1 : decode cX1_ofNewCrate 1 = .ok (.getfield 9, 3) := by decide +kernel
theorem dX1_ofNewCrate_4 : decode cX1_ofNewCrate 4 = .ok (.iload_n 1, 1) := by decide +kernel
theorem dX1_ofNewCrate_5 : decode cX1_ofNewCrate 5 = .ok (.invokevirtual 34, 3) := by decide +kernel
theorem dX1_ofNewCrate_8 : decode cX1_ofNewCrate 8 = .ok (.iload_n 2, 1) := by decide +kernel
theorem dX1_ofNewCrate_9 : decode cX1_ofNewCrate 9 = .ok (.iconst 1, 1) := by decide +kernel
theorem dX1_ofNewCrate_10 : decode cX1_ofNewCrate 10 = .ok (.iconst 4, 1) := by decide +kernel
theorem dX1_ofNewCrate_11 : decode cX1_ofNewCrate 11 = .ok (.invokestatic 19, 3) := by decide +kernel
theorem dX1_ofNewCrate_14 : decode cX1_ofNewCrate 14 = .ok (.aload_n 0, 1) := by decide +kernel
theorem dX1_ofNewCrate_15 : decode cX1_ofNewCrate 15 = .ok (.getfield 9, 3) := by decide +kernel
theorem dX1_ofNewCrate_18 : decode cX1_ofNewCrate 18 = .ok (.getfield 44, 3) := by decide +kernel
theorem dX1_ofNewCrate_21 : decode cX1_ofNewCrate 21 = .ok (.bipush 12, 2) := by decide +kernel
theorem dX1_ofNewCrate_23 : decode cX1_ofNewCrate 23 = .ok (.if_icmp .ge 7, 3) := by decide +kernel
theorem dX1_ofNewCrate_26 : decode cX1_ofNewCrate 26 = .ok (.iconst 1, 1) := by decide +kernel
theorem dX1_ofNewCrate_27 : decode cX1_ofNewCrate 27 = .ok (.goto 4, 3) := by decide +kernel
theorem dX1_ofNewCrate_30 : decode cX1_ofNewCrate 30 = .ok (.iconst 0, 1) := by decide +kernel
theorem dX1_ofNewCrate_31 : decode cX1_ofNewCrate 31 = .ok (.invokestatic 30, 3) := by decide +kernel
theorem dX1_ofNewCrate_34 : decode cX1_ofNewCrate 34 = .ok (.ireturn, 1) := by decide +kernel
def sX1_ofNewCrate (w : Wl) (l1 : Int32) (l2 : Int32) : Option Int32 := (sX6_hasVenue w l1).bind (fun r1 => (sX1_isIn w l2 (1 : Int32) (4 : Int32)).bind (fun r3 => (if (12 : Int32) ≤ (w 1 6) then (sX1_firstWrong w (bI r1) (bI r3) (0 : Int32)).bind (fun r6 => some r6) else (sX1_firstWrong w (bI r1) (bI r3) (1 : Int32)).bind (fun r8 => some r8))))
theorem kX1_ofNewCrate {l : Launch} {Γ : Gl} {B : Bs} {w : Wl} {G : Gf} {sz : Nat} {l1 : Int32} {l2 : Int32} {r : Int32} (hW : Wd Γ B w G) (h : sX1_ofNewCrate w l1 l2 = some r) : CtR l Γ yX1_ofNewCrate cX1_ofNewCrate 3 (some .int) 1 [.ref (B.1 + 73), .int l1, .int l2] G sz (.int (r)) := by
  refine Ct.of rfl (Nat.le_of_ble_eq_true rfl) fun X hx hr hl hΓ hnm => ?_
  subst hl hΓ
  show J X 3 G sz 0 0 0 [some (.ref (B.1 + 73)), some (.int l1), some (.int l2)] []
  unfold sX1_ofNewCrate at h
  refine J_al4 hx rfl rfl dX1_ofNewCrate_0 ?_
  refine g1_0 hx hW 1 (rfl : kd 73 = 11) fl_X1_9 rfl dX1_ofNewCrate_1 ?_
  refine J_il4 hx rfl rfl dX1_ofNewCrate_4 ?_
  obtain ⟨r1, hr2, h⟩ := bnd h
  refine J_rdV hx (kX6_hasVenue  hW hr2) ml_X1_34 lk_X6_hasVenue (ci := 5) rfl (hW.obj (rfl : kd 1 = 2) (by decide) (by decide)) (rest := []) rfl rfl (by decide) (by decide) (Nat.le_of_ble_eq_true rfl) (Nat.le_refl 0) (Nat.le_refl 0) dX1_ofNewCrate_5 ?_
  refine J_il4 hx rfl rfl dX1_ofNewCrate_8 ?_
  refine J_iconst hx (1 : Int32) dX1_ofNewCrate_9 rfl ?_
  refine J_iconst hx (4 : Int32) dX1_ofNewCrate_10 rfl ?_
  obtain ⟨r3, hr4, h⟩ := bnd h
  refine J_rdS hx (kX1_isIn  hW hr4) ml_X1_19 lk_X1_isIn (rest := [.int (bI r1)]) rfl rfl (by decide) (by decide) (Nat.le_of_ble_eq_true rfl) (Nat.le_refl 0) (Nat.le_refl 0) dX1_ofNewCrate_11 ?_
  refine J_al4 hx rfl rfl dX1_ofNewCrate_14 ?_
  refine g1_0 hx hW 1 (rfl : kd 73 = 11) fl_X1_9 rfl dX1_ofNewCrate_15 ?_
  refine g6_6 hx hW (rfl : kd 1 = 2) fl_X1_44 dX1_ofNewCrate_18 ?_
  refine J_bipush hx (12 : Int32) dX1_ofNewCrate_21 rfl ?_
  refine J_icmp_ge hx 30 dX1_ofNewCrate_23 rfl (fun h5 => ?_) (fun h5 => ?_)
  · replace h := pos h h5
    refine J_iconst hx (0 : Int32) dX1_ofNewCrate_30 rfl ?_
    obtain ⟨r6, hr7, h⟩ := bnd h
    refine J_rdS hx (kX1_firstWrong  hW hr7) ml_X1_30 lk_X1_firstWrong (rest := []) rfl rfl (by decide) (by decide) (Nat.le_of_ble_eq_true rfl) (Nat.le_refl 0) (Nat.le_refl 0) dX1_ofNewCrate_31 ?_
    exact J_iretR hx hr dX1_ofNewCrate_34 (Nat.le_refl 0) (Nat.le_refl 0) (Option.some.inj h)
  · replace h := neg h h5
    refine J_iconst hx (1 : Int32) dX1_ofNewCrate_26 rfl ?_
    refine J_goto hx 31 dX1_ofNewCrate_27 rfl ?_
    obtain ⟨r8, hr9, h⟩ := bnd h
    refine J_rdS hx (kX1_firstWrong  hW hr9) ml_X1_30 lk_X1_firstWrong (rest := []) rfl rfl (by decide) (by decide) (Nat.le_of_ble_eq_true rfl) (Nat.le_refl 0) (Nat.le_refl 0) dX1_ofNewCrate_31 ?_
    exact J_iretR hx hr dX1_ofNewCrate_34 (Nat.le_refl 0) (Nat.le_refl 0) (Option.some.inj h)
theorem dX1_ofNewWork_0 : decode cX1_ofNewWork 0 = .ok (.iload_n 2, 1) := by decide +kernel
theorem dX1_ofNewWork_1 : decode cX1_ofNewWork 1 = .ok (.iconst 0, 1) := by decide +kernel
theorem dX1_ofNewWork_2 : decode cX1_ofNewWork 2 = .ok (.iconst 5, 1) := by decide +kernel
theorem dX1_ofNewWork_3 : decode cX1_ofNewWork 3 = .ok (.invokestatic 19, 3) := by decide +kernel
theorem dX1_ofNewWork_6 : decode cX1_ofNewWork 6 = .ok (.ifCond .eq 28, 3) := by decide +kernel
theorem dX1_ofNewWork_9 : decode cX1_ofNewWork 9 = .ok (.iload_n 3, 1) := by decide +kernel
theorem dX1_ofNewWork_10 : decode cX1_ofNewWork 10 = .ok (.iconst 1, 1) := by decide +kernel
theorem dX1_ofNewWork_11 : decode cX1_ofNewWork 11 = .ok (.ldc 47, 2) := by decide +kernel
theorem dX1_ofNewWork_13 : decode cX1_ofNewWork 13 = .ok (.invokestatic 19, 3) := by decide +kernel
theorem dX1_ofNewWork_16 : decode cX1_ofNewWork 16 = .ok (.ifCond .eq 18, 3) := by decide +kernel
theorem dX1_ofNewWork_19 : decode cX1_ofNewWork 19 = .ok (.iload 4, 2) := by decide +kernel
theorem dX1_ofNewWork_21 : decode cX1_ofNewWork 21 = .ok (.iconst 0, 1) := by decide +kernel
theorem dX1_ofNewWork_22 : decode cX1_ofNewWork 22 = .ok (.bipush 20, 2) := by decide +kernel
theorem dX1_ofNewWork_24 : decode cX1_ofNewWork 24 = .ok (.invokestatic 19, 3) := by decide +kernel
theorem dX1_ofNewWork_27 : decode cX1_ofNewWork 27 = .ok (.ifCond .eq 7, 3) := by decide +kernel
theorem dX1_ofNewWork_30 : decode cX1_ofNewWork 30 = .ok (.iconst 1, 1) := by decide +kernel
theorem dX1_ofNewWork_31 : decode cX1_ofNewWork 31 = .ok (.goto 4, 3) := by decide +kernel
theorem dX1_ofNewWork_34 : decode cX1_ofNewWork 34 = .ok (.iconst 0, 1) := by decide +kernel
theorem dX1_ofNewWork_35 : decode cX1_ofNewWork 35 = .ok (.istore 5, 2) := by decide +kernel
theorem dX1_ofNewWork_37 : decode cX1_ofNewWork 37 = .ok (.aload_n 0, 1) := by decide +kernel
theorem dX1_ofNewWork_38 : decode cX1_ofNewWork 38 = .ok (.getfield 9, 3) := by decide +kernel
theorem dX1_ofNewWork_41 : decode cX1_ofNewWork 41 = .ok (.iload_n 1, 1) := by decide +kernel
theorem dX1_ofNewWork_42 : decode cX1_ofNewWork 42 = .ok (.invokevirtual 34, 3) := by decide +kernel
theorem dX1_ofNewWork_45 : decode cX1_ofNewWork 45 = .ok (.iload 5, 2) := by decide +kernel
theorem dX1_ofNewWork_47 : decode cX1_ofNewWork 47 = .ok (.aload_n 0, 1) := by decide +kernel
theorem dX1_ofNewWork_48 : decode cX1_ofNewWork 48 = .ok (.getfield 9, 3) := by decide +kernel
theorem dX1_ofNewWork_51 : decode cX1_ofNewWork 51 = .ok (.getfield 48, 3) := by decide +kernel
theorem dX1_ofNewWork_54 : decode cX1_ofNewWork 54 = .ok (.bipush 16, 2) := by decide +kernel
theorem dX1_ofNewWork_56 : decode cX1_ofNewWork 56 = .ok (.if_icmp .ge 7, 3) := by decide +kernel
theorem dX1_ofNewWork_59 : decode cX1_ofNewWork 59 = .ok (.iconst 1, 1) := by decide +kernel
theorem dX1_ofNewWork_60 : decode cX1_ofNewWork 60 = .ok (.goto 4, 3) := by decide +kernel
theorem dX1_ofNewWork_63 : decode cX1_ofNewWork 63 = .ok (.iconst 0, 1) := by decide +kernel
theorem dX1_ofNewWork_64 : decode cX1_ofNewWork 64 = .ok (.invokestatic 30, 3) := by decide +kernel
theorem dX1_ofNewWork_67 : decode cX1_ofNewWork 67 = .ok (.ireturn, 1) := by decide +kernel
def sX1_ofNewWork_35 (w : Wl) (l1 : Int32) (s0 : Int32) : Option Int32 := (sX6_hasVenue w l1).bind (fun r1 => (if (16 : Int32) ≤ (w 1 7) then (sX1_firstWrong w (bI r1) s0 (0 : Int32)).bind (fun r4 => some r4) else (sX1_firstWrong w (bI r1) s0 (1 : Int32)).bind (fun r6 => some r6)))
theorem tX1_ofNewWork_35 {X : Cx} {B : Bs} {sz : Nat} {G : Gf} {r : Int32} (hx : Fx X cX1_ofNewWork 6 RX1 1 0 0) (hr : Rt X (some .int) 0 0 (RdΨ (.int (r)) G sz)) : ∀ (w : Wl) (l1 : Int32) (s0 : Int32) (hW : Wd (xΓ X) B w G) (h : sX1_ofNewWork_35  w l1 s0 = some r), J X 6 G sz 0 0 35 [some (.ref (B.1 + 73)), some (.int l1), none, none, none, none] [.int s0] := by
  intro w l1 s0 hW h
  unfold sX1_ofNewWork_35 at h
  refine J_is hx (by decide) (hc_of rfl) rfl dX1_ofNewWork_35 ?_
  refine J_al4 hx rfl rfl dX1_ofNewWork_37 ?_
  refine g1_0 hx hW 1 (rfl : kd 73 = 11) fl_X1_9 rfl dX1_ofNewWork_38 ?_
  refine J_il4 hx rfl rfl dX1_ofNewWork_41 ?_
  obtain ⟨r1, hr2, h⟩ := bnd h
  refine J_rdV hx (kX6_hasVenue  hW hr2) ml_X1_34 lk_X6_hasVenue (ci := 5) rfl (hW.obj (rfl : kd 1 = 2) (by decide) (by decide)) (rest := []) rfl rfl (by decide) (by decide) (Nat.le_of_ble_eq_true rfl) (Nat.le_refl 0) (Nat.le_refl 0) dX1_ofNewWork_42 ?_
  refine J_il hx rfl dX1_ofNewWork_45 ?_
  refine J_al4 hx rfl rfl dX1_ofNewWork_47 ?_
  refine g1_0 hx hW 1 (rfl : kd 73 = 11) fl_X1_9 rfl dX1_ofNewWork_48 ?_
  refine g6_7 hx hW (rfl : kd 1 = 2) fl_X1_48 dX1_ofNewWork_51 ?_
  refine J_bipush hx (16 : Int32) dX1_ofNewWork_54 rfl ?_
  refine J_icmp_ge hx 63 dX1_ofNewWork_56 rfl (fun h3 => ?_) (fun h3 => ?_)
  · replace h := pos h h3
    refine J_iconst hx (0 : Int32) dX1_ofNewWork_63 rfl ?_
    obtain ⟨r4, hr5, h⟩ := bnd h
    refine J_rdS hx (kX1_firstWrong  hW hr5) ml_X1_30 lk_X1_firstWrong (rest := []) rfl rfl (by decide) (by decide) (Nat.le_of_ble_eq_true rfl) (Nat.le_refl 0) (Nat.le_refl 0) dX1_ofNewWork_64 ?_
    exact J_iretR hx hr dX1_ofNewWork_67 (Nat.le_refl 0) (Nat.le_refl 0) (Option.some.inj h)
  · replace h := neg h h3
    refine J_iconst hx (1 : Int32) dX1_ofNewWork_59 rfl ?_
    refine J_goto hx 64 dX1_ofNewWork_60 rfl ?_
    obtain ⟨r6, hr7, h⟩ := bnd h
    refine J_rdS hx (kX1_firstWrong  hW hr7) ml_X1_30 lk_X1_firstWrong (rest := []) rfl rfl (by decide) (by decide) (Nat.le_of_ble_eq_true rfl) (Nat.le_refl 0) (Nat.le_refl 0) dX1_ofNewWork_64 ?_
    exact J_iretR hx hr dX1_ofNewWork_67 (Nat.le_refl 0) (Nat.le_refl 0) (Option.some.inj h)
def sX1_ofNewWork (w : Wl) (l1 : Int32) (l2 : Int32) (l3 : Int32) (l4 : Int32) : Option Int32 := (sX1_isIn w l2 (0 : Int32) (5 : Int32)).bind (fun r1 => (if r1 = true then (sX1_isIn w l3 (1 : Int32) (1000000 : Int32)).bind (fun r4 => (if r4 = true then (sX1_isIn w l4 (0 : Int32) (20 : Int32)).bind (fun r7 => (if r7 = true then sX1_ofNewWork_35 w l1 (1 : Int32) else sX1_ofNewWork_35 w l1 (0 : Int32))) else sX1_ofNewWork_35 w l1 (0 : Int32))) else sX1_ofNewWork_35 w l1 (0 : Int32)))
theorem kX1_ofNewWork {l : Launch} {Γ : Gl} {B : Bs} {w : Wl} {G : Gf} {sz : Nat} {l1 : Int32} {l2 : Int32} {l3 : Int32} {l4 : Int32} {r : Int32} (hW : Wd Γ B w G) (h : sX1_ofNewWork w l1 l2 l3 l4 = some r) : CtR l Γ yX1_ofNewWork cX1_ofNewWork 6 (some .int) 1 [.ref (B.1 + 73), .int l1, .int l2, .int l3, .int l4] G sz (.int (r)) := by
  refine Ct.of rfl (Nat.le_of_ble_eq_true rfl) fun X hx hr hl hΓ hnm => ?_
  subst hl hΓ
  show J X 6 G sz 0 0 0 [some (.ref (B.1 + 73)), some (.int l1), some (.int l2), some (.int l3), some (.int l4), none] []
  unfold sX1_ofNewWork at h
  refine J_il4 hx rfl rfl dX1_ofNewWork_0 ?_
  refine J_iconst hx (0 : Int32) dX1_ofNewWork_1 rfl ?_
  refine J_iconst hx (5 : Int32) dX1_ofNewWork_2 rfl ?_
  obtain ⟨r1, hr2, h⟩ := bnd h
  refine J_rdS hx (kX1_isIn  hW hr2) ml_X1_19 lk_X1_isIn (rest := []) rfl rfl (by decide) (by decide) (Nat.le_of_ble_eq_true rfl) (Nat.le_refl 0) (Nat.le_refl 0) dX1_ofNewWork_3 ?_
  refine J_bif_eq hx 34 dX1_ofNewWork_6 rfl (fun h3 => ?_) (fun h3 => ?_)
  · replace h := neg h (bft h3)
    refine J_iconst hx (0 : Int32) dX1_ofNewWork_34 rfl ?_
    refine J_lw (ls' := [some (.ref (B.1 + 73)), some (.int l1), none, none, none, none]) (lwS (lwS (lwN (lwN (lwN (lwN lwZ)))))) ?_
    exact tX1_ofNewWork_35 hx hr _ _ _  hW h
  · replace h := pos h h3
    refine J_il4 hx rfl rfl dX1_ofNewWork_9 ?_
    refine J_iconst hx (1 : Int32) dX1_ofNewWork_10 rfl ?_
    refine J_ldc hx cn_X1_47 dX1_ofNewWork_11 ?_
    obtain ⟨r4, hr5, h⟩ := bnd h
    refine J_rdS hx (kX1_isIn  hW hr5) ml_X1_19 lk_X1_isIn (rest := []) rfl rfl (by decide) (by decide) (Nat.le_of_ble_eq_true rfl) (Nat.le_refl 0) (Nat.le_refl 0) dX1_ofNewWork_13 ?_
    refine J_bif_eq hx 34 dX1_ofNewWork_16 rfl (fun h6 => ?_) (fun h6 => ?_)
    · replace h := neg h (bft h6)
      refine J_iconst hx (0 : Int32) dX1_ofNewWork_34 rfl ?_
      refine J_lw (ls' := [some (.ref (B.1 + 73)), some (.int l1), none, none, none, none]) (lwS (lwS (lwN (lwN (lwN (lwN lwZ)))))) ?_
      exact tX1_ofNewWork_35 hx hr _ _ _  hW h
    · replace h := pos h h6
      refine J_il hx rfl dX1_ofNewWork_19 ?_
      refine J_iconst hx (0 : Int32) dX1_ofNewWork_21 rfl ?_
      refine J_bipush hx (20 : Int32) dX1_ofNewWork_22 rfl ?_
      obtain ⟨r7, hr8, h⟩ := bnd h
      refine J_rdS hx (kX1_isIn  hW hr8) ml_X1_19 lk_X1_isIn (rest := []) rfl rfl (by decide) (by decide) (Nat.le_of_ble_eq_true rfl) (Nat.le_refl 0) (Nat.le_refl 0) dX1_ofNewWork_24 ?_
      refine J_bif_eq hx 34 dX1_ofNewWork_27 rfl (fun h9 => ?_) (fun h9 => ?_)
      · replace h := neg h (bft h9)
        refine J_iconst hx (0 : Int32) dX1_ofNewWork_34 rfl ?_
        refine J_lw (ls' := [some (.ref (B.1 + 73)), some (.int l1), none, none, none, none]) (lwS (lwS (lwN (lwN (lwN (lwN lwZ)))))) ?_
        exact tX1_ofNewWork_35 hx hr _ _ _  hW h
      · replace h := pos h h9
        refine J_iconst hx (1 : Int32) dX1_ofNewWork_30 rfl ?_
        refine J_goto hx 35 dX1_ofNewWork_31 rfl ?_
        refine J_lw (ls' := [some (.ref (B.1 + 73)), some (.int l1), none, none, none, none]) (lwS (lwS (lwN (lwN (lwN (lwN lwZ)))))) ?_
        exact tX1_ofNewWork_35 hx hr _ _ _  hW h
theorem dX1_mayBeOpened_0 : decode cX1_mayBeOpened 0 = .ok (.aload_n 0, 1) := by decide +kernel
theorem dX1_mayBeOpened_1 : decode cX1_mayBeOpened 1 = .ok (.getfield 9, 3) := by decide +kernel
theorem dX1_mayBeOpened_4 : decode cX1_mayBeOpened 4 = .ok (.getfield 57, 3) := by decide +kernel
theorem dX1_mayBeOpened_7 : decode cX1_mayBeOpened 7 = .ok (.iload_n 1, 1) := by decide +kernel
theorem dX1_mayBeOpened_8 : decode cX1_mayBeOpened 8 = .ok (.aaload, 1) := by decide +kernel
theorem dX1_mayBeOpened_9 : decode cX1_mayBeOpened 9 = .ok (.astore_n 2, 1) := by decide +kernel
theorem dX1_mayBeOpened_10 : decode cX1_mayBeOpened 10 = .ok (.aload_n 2, 1) := by decide +kernel
theorem dX1_mayBeOpened_11 : decode cX1_mayBeOpened 11 = .ok (.getfield 61, 3) := by decide +kernel
theorem dX1_mayBeOpened_14 : decode cX1_mayBeOpened 14 = .ok (.ifCond .ne 14, 3) := by decide +kernel
theorem dX1_mayBeOpened_17 : decode cX1_mayBeOpened 17 = .ok (.aload_n 0, 1) := by decide +kernel
theorem dX1_mayBeOpened_18 : decode cX1_mayBeOpened 18 = .ok (.getfield 9, 3) := by decide +kernel
theorem dX1_mayBeOpened_21 : decode cX1_mayBeOpened 21 = .ok (.iload_n 1, 1) := by decide +kernel
theorem dX1_mayBeOpened_22 : decode cX1_mayBeOpened 22 = .ok (.invokevirtual 67, 3) := by decide +kernel
theorem dX1_mayBeOpened_25 : decode cX1_mayBeOpened 25 = .ok (.ifCond .ne 5, 3) := by decide +kernel
theorem dX1_mayBeOpened_28 : decode cX1_mayBeOpened 28 = .ok (.iconst 0, 1) := by decide +kernel
theorem dX1_mayBeOpened_29 : decode cX1_mayBeOpened 29 = .ok (.ireturn, 1) := by decide +kernel
theorem dX1_mayBeOpened_30 : decode cX1_mayBeOpened 30 = .ok (.aload_n 0, 1) := by decide +kernel
theorem dX1_mayBeOpened_31 : decode cX1_mayBeOpened 31 = .ok (.getfield 9, 3) := by decide +kernel
theorem dX1_mayBeOpened_34 : decode cX1_mayBeOpened 34 = .ok (.iload_n 1, 1) := by decide +kernel
theorem dX1_mayBeOpened_35 : decode cX1_mayBeOpened 35 = .ok (.invokevirtual 91, 3) := by decide +kernel
theorem dX1_mayBeOpened_38 : decode cX1_mayBeOpened 38 = .ok (.istore_n 3, 1) := by decide +kernel
theorem dX1_mayBeOpened_39 : decode cX1_mayBeOpened 39 = .ok (.aload_n 0, 1) := by decide +kernel
theorem dX1_mayBeOpened_40 : decode cX1_mayBeOpened 40 = .ok (.getfield 9, 3) := by decide +kernel
theorem dX1_mayBeOpened_43 : decode cX1_mayBeOpened 43 = .ok (.iload_n 3, 1) := by decide +kernel
theorem dX1_mayBeOpened_44 : decode cX1_mayBeOpened 44 = .ok (.invokevirtual 34, 3) := by decide +kernel
theorem dX1_mayBeOpened_47 : decode cX1_mayBeOpened 47 = .ok (.ifCond .eq 35, 3) := by decide +kernel
theorem dX1_mayBeOpened_50 : decode cX1_mayBeOpened 50 = .ok (.aload_n 0, 1) := by decide +kernel
theorem dX1_mayBeOpened_51 : decode cX1_mayBeOpened 51 = .ok (.getfield 9, 3) := by decide +kernel
theorem dX1_mayBeOpened_54 : decode cX1_mayBeOpened 54 = .ok (.getfield 190, 3) := by decide +kernel
theorem dX1_mayBeOpened_57 : decode cX1_mayBeOpened 57 = .ok (.aload_n 2, 1) := by decide +kernel
theorem dX1_mayBeOpened_58 : decode cX1_mayBeOpened 58 = .ok (.getfield 193, 3) := by decide +kernel
theorem dX1_mayBeOpened_61 : decode cX1_mayBeOpened 61 = .ok (.aload_n 2, 1) := by decide +kernel
theorem dX1_mayBeOpened_62 : decode cX1_mayBeOpened 62 = .ok (.aload_n 0, 1) := by decide +kernel
theorem dX1_mayBeOpened_63 : decode cX1_mayBeOpened 63 = .ok (.getfield 9, 3) := by decide +kernel
theorem dX1_mayBeOpened_66 : decode cX1_mayBeOpened 66 = .ok (.getfield 149, 3) := by decide +kernel
theorem dX1_mayBeOpened_69 : decode cX1_mayBeOpened 69 = .ok (.iload_n 3, 1) := by decide +kernel
theorem dX1_mayBeOpened_70 : decode cX1_mayBeOpened 70 = .ok (.aaload, 1) := by decide +kernel
theorem dX1_mayBeOpened_71 : decode cX1_mayBeOpened 71 = .ok (.invokevirtual 196, 3) := by decide +kernel
theorem dX1_mayBeOpened_74 : decode cX1_mayBeOpened 74 = .ok (.iadd, 1) := by decide +kernel
theorem dX1_mayBeOpened_75 : decode cX1_mayBeOpened 75 = .ok (.if_icmp .lt 7, 3) := by decide +kernel
theorem dX1_mayBeOpened_78 : decode cX1_mayBeOpened 78 = .ok (.iconst 1, 1) := by decide +kernel
theorem dX1_mayBeOpened_79 : decode cX1_mayBeOpened 79 = .ok (.goto 4, 3) := by decide +kernel
theorem dX1_mayBeOpened_82 : decode cX1_mayBeOpened 82 = .ok (.iconst 0, 1) := by decide +kernel
theorem dX1_mayBeOpened_83 : decode cX1_mayBeOpened 83 = .ok (.ireturn, 1) := by decide +kernel
def sX1_mayBeOpened (w : Wl) (l1 : Int32) : Option Bool := (idx l1 12).bind (fun c1 => (if (w (29 + c1) 1) = 0 then (sX6_isWithinReach w l1).bind (fun r5 => (if r5 = true then (sX6_venueOfCrate w l1).bind (fun r8 => (sX6_hasVenue w r8).bind (fun r10 => (if r10 = true then (idx r8 8).bind (fun c13 => (sX3_hoursNeededAt w (29 + c1) (13 + 2 * c13)).bind (fun r16 => (if (w 1 0) < ((w (29 + c1) 9) + r16) then some false else some true))) else some false))) else some false)) else some false))
theorem kX1_mayBeOpened {l : Launch} {Γ : Gl} {B : Bs} {w : Wl} {G : Gf} {sz : Nat} {l1 : Int32} {r : Bool} (hW : Wd Γ B w G) (h : sX1_mayBeOpened w l1 = some r) : CtR l Γ yX1_mayBeOpened cX1_mayBeOpened 4 (some .boolean) 2 [.ref (B.1 + 73), .int l1] G sz (.int (bI r)) := by
  refine Ct.of rfl (Nat.le_of_ble_eq_true rfl) fun X hx hr hl hΓ hnm => ?_
  subst hl hΓ
  show J X 4 G sz 0 0 0 [some (.ref (B.1 + 73)), some (.int l1), none, none] []
  unfold sX1_mayBeOpened at h
  refine J_al4 hx rfl rfl dX1_mayBeOpened_0 ?_
  refine g1_0 hx hW 1 (rfl : kd 73 = 11) fl_X1_9 rfl dX1_mayBeOpened_1 ?_
  refine g6_10 hx hW 3 (rfl : kd 1 = 2) fl_X1_57 rfl dX1_mayBeOpened_4 ?_
  refine J_il4 hx rfl rfl dX1_mayBeOpened_7 ?_
  obtain ⟨c1, hc2, h⟩ := bnd h
  refine J_a4 hx hW (29 + c1) (rfl : kd 3 = 4) hc2 rfl dX1_mayBeOpened_8 fun hk3 => ?_
  refine J_as4 hx rfl (by decide) (hc_of rfl) rfl dX1_mayBeOpened_9 ?_
  refine J_al4 hx rfl rfl dX1_mayBeOpened_10 ?_
  refine g3_1 hx hW hk3 fl_X1_61 dX1_mayBeOpened_11 ?_
  refine J_if_ne hx 28 dX1_mayBeOpened_14 rfl (fun h4 => ?_) (fun h4 => ?_)
  · replace h := neg h h4
    refine J_iconst hx (0 : Int32) dX1_mayBeOpened_28 rfl ?_
    exact J_zretR hx hr dX1_mayBeOpened_29 (Nat.le_refl 0) (Nat.le_refl 0) (show (0 : Int32) = bI _ from congrArg bI (Option.some.inj h))
  · replace h := pos h h4
    refine J_al4 hx rfl rfl dX1_mayBeOpened_17 ?_
    refine g1_0 hx hW 1 (rfl : kd 73 = 11) fl_X1_9 rfl dX1_mayBeOpened_18 ?_
    refine J_il4 hx rfl rfl dX1_mayBeOpened_21 ?_
    obtain ⟨r5, hr6, h⟩ := bnd h
    refine J_rdV hx (kX6_isWithinReach  hW hr6) ml_X1_67 lk_X6_isWithinReach (ci := 5) rfl (hW.obj (rfl : kd 1 = 2) (by decide) (by decide)) (rest := []) rfl rfl (by decide) (by decide) (Nat.le_of_ble_eq_true rfl) (Nat.le_refl 0) (Nat.le_refl 0) dX1_mayBeOpened_22 ?_
    refine J_bif_ne hx 30 dX1_mayBeOpened_25 rfl (fun h7 => ?_) (fun h7 => ?_)
    · replace h := pos h h7
      refine J_al4 hx rfl rfl dX1_mayBeOpened_30 ?_
      refine g1_0 hx hW 1 (rfl : kd 73 = 11) fl_X1_9 rfl dX1_mayBeOpened_31 ?_
      refine J_il4 hx rfl rfl dX1_mayBeOpened_34 ?_
      obtain ⟨r8, hr9, h⟩ := bnd h
      refine J_rdV hx (kX6_venueOfCrate  hW hr9) ml_X1_91 lk_X6_venueOfCrate (ci := 5) rfl (hW.obj (rfl : kd 1 = 2) (by decide) (by decide)) (rest := []) rfl rfl (by decide) (by decide) (Nat.le_of_ble_eq_true rfl) (Nat.le_refl 0) (Nat.le_refl 0) dX1_mayBeOpened_35 ?_
      refine J_is4 hx rfl (by decide) (hc_of rfl) rfl dX1_mayBeOpened_38 ?_
      refine J_al4 hx rfl rfl dX1_mayBeOpened_39 ?_
      refine g1_0 hx hW 1 (rfl : kd 73 = 11) fl_X1_9 rfl dX1_mayBeOpened_40 ?_
      refine J_il4 hx rfl rfl dX1_mayBeOpened_43 ?_
      obtain ⟨r10, hr11, h⟩ := bnd h
      refine J_rdV hx (kX6_hasVenue  hW hr11) ml_X1_34 lk_X6_hasVenue (ci := 5) rfl (hW.obj (rfl : kd 1 = 2) (by decide) (by decide)) (rest := []) rfl rfl (by decide) (by decide) (Nat.le_of_ble_eq_true rfl) (Nat.le_refl 0) (Nat.le_refl 0) dX1_mayBeOpened_44 ?_
      refine J_bif_eq hx 82 dX1_mayBeOpened_47 rfl (fun h12 => ?_) (fun h12 => ?_)
      · replace h := neg h (bft h12)
        refine J_iconst hx (0 : Int32) dX1_mayBeOpened_82 rfl ?_
        exact J_zretR hx hr dX1_mayBeOpened_83 (Nat.le_refl 0) (Nat.le_refl 0) (show (0 : Int32) = bI _ from congrArg bI (Option.some.inj h))
      · replace h := pos h h12
        refine J_al4 hx rfl rfl dX1_mayBeOpened_50 ?_
        refine g1_0 hx hW 1 (rfl : kd 73 = 11) fl_X1_9 rfl dX1_mayBeOpened_51 ?_
        refine g6_0 hx hW (rfl : kd 1 = 2) fl_X1_190 dX1_mayBeOpened_54 ?_
        refine J_al4 hx rfl rfl dX1_mayBeOpened_57 ?_
        refine g3_9 hx hW hk3 fl_X1_193 dX1_mayBeOpened_58 ?_
        refine J_al4 hx rfl rfl dX1_mayBeOpened_61 ?_
        refine J_al4 hx rfl rfl dX1_mayBeOpened_62 ?_
        refine g1_0 hx hW 1 (rfl : kd 73 = 11) fl_X1_9 rfl dX1_mayBeOpened_63 ?_
        refine g6_9 hx hW 2 (rfl : kd 1 = 2) fl_X1_149 rfl dX1_mayBeOpened_66 ?_
        refine J_il4 hx rfl rfl dX1_mayBeOpened_69 ?_
        obtain ⟨c13, hc14, h⟩ := bnd h
        refine J_a3 hx hW (13 + 2 * c13) (rfl : kd 2 = 3) hc14 rfl dX1_mayBeOpened_70 fun hk15 => ?_
        obtain ⟨r16, hr17, h⟩ := bnd h
        refine J_rdV hx (kX3_hoursNeededAt hk3 hk15 hW hr17) ml_X1_196 lk_X3_hoursNeededAt (ci := 2) rfl (hW.obj hk3 (by decide) (by decide)) (rest := [.int (w (29 + c1) 9), .int (w 1 0)]) rfl rfl (by decide) (by decide) (Nat.le_of_ble_eq_true rfl) (Nat.le_refl 0) (Nat.le_refl 0) dX1_mayBeOpened_71 ?_
        refine J_iadd hx dX1_mayBeOpened_74 ?_
        refine J_icmp_lt hx 82 dX1_mayBeOpened_75 rfl (fun h18 => ?_) (fun h18 => ?_)
        · replace h := pos h h18
          refine J_iconst hx (0 : Int32) dX1_mayBeOpened_82 rfl ?_
          exact J_zretR hx hr dX1_mayBeOpened_83 (Nat.le_refl 0) (Nat.le_refl 0) (show (0 : Int32) = bI _ from congrArg bI (Option.some.inj h))
        · replace h := neg h h18
          refine J_iconst hx (1 : Int32) dX1_mayBeOpened_78 rfl ?_
          refine J_goto hx 83 dX1_mayBeOpened_79 rfl ?_
          exact J_zretR hx hr dX1_mayBeOpened_83 (Nat.le_refl 0) (Nat.le_refl 0) (show (1 : Int32) = bI _ from congrArg bI (Option.some.inj h))
    · replace h := neg h (bft h7)
      refine J_iconst hx (0 : Int32) dX1_mayBeOpened_28 rfl ?_
      exact J_zretR hx hr dX1_mayBeOpened_29 (Nat.le_refl 0) (Nat.le_refl 0) (show (0 : Int32) = bI _ from congrArg bI (Option.some.inj h))
theorem dX1_ofOpening_0 : decode cX1_ofOpening 0 = .ok (.aload_n 0, 1) := by decide +kernel
theorem dX1_ofOpening_1 : decode cX1_ofOpening 1 = .ok (.getfield 9, 3) := by decide +kernel
theorem dX1_ofOpening_4 : decode cX1_ofOpening 4 = .ok (.iload_n 1, 1) := by decide +kernel
theorem dX1_ofOpening_5 : decode cX1_ofOpening 5 = .ok (.invokevirtual 51, 3) := by decide +kernel
theorem dX1_ofOpening_8 : decode cX1_ofOpening 8 = .ok (.istore_n 2, 1) := by decide +kernel
theorem dX1_ofOpening_9 : decode cX1_ofOpening 9 = .ok (.iload_n 2, 1) := by decide +kernel
theorem dX1_ofOpening_10 : decode cX1_ofOpening 10 = .ok (.iconst 1, 1) := by decide +kernel
theorem dX1_ofOpening_11 : decode cX1_ofOpening 11 = .ok (.iload_n 2, 1) := by decide +kernel
theorem dX1_ofOpening_12 : decode cX1_ofOpening 12 = .ok (.ifCond .eq 15, 3) := by decide +kernel
theorem dX1_ofOpening_15 : decode cX1_ofOpening 15 = .ok (.aload_n 0, 1) := by decide +kernel
theorem dX1_ofOpening_16 : decode cX1_ofOpening 16 = .ok (.iload_n 1, 1) := by decide +kernel
theorem dX1_ofOpening_17 : decode cX1_ofOpening 17 = .ok (.invokevirtual 54, 3) := by decide +kernel
theorem dX1_ofOpening_20 : decode cX1_ofOpening 20 = .ok (.ifCond .eq 7, 3) := by decide +kernel
theorem dX1_ofOpening_23 : decode cX1_ofOpening 23 = .ok (.iconst 1, 1) := by decide +kernel
theorem dX1_ofOpening_24 : decode cX1_ofOpening 24 = .ok (.goto 4, 3) := by decide +kernel
theorem dX1_ofOpening_27 : decode cX1_ofOpening 27 = .ok (.iconst 0, 1) := by decide +kernel
theorem dX1_ofOpening_28 : decode cX1_ofOpening 28 = .ok (.invokestatic 30, 3) := by decide +kernel
theorem dX1_ofOpening_31 : decode cX1_ofOpening 31 = .ok (.ireturn, 1) := by decide +kernel
def sX1_ofOpening (w : Wl) (l1 : Int32) : Option Int32 := (sX6_hasCrate w l1).bind (fun r1 => (if r1 = true then (sX1_mayBeOpened w l1).bind (fun r6 => (if r6 = true then (sX1_firstWrong w (bI r1) (1 : Int32) (1 : Int32)).bind (fun r11 => some r11) else (sX1_firstWrong w (bI r1) (1 : Int32) (0 : Int32)).bind (fun r9 => some r9))) else (sX1_firstWrong w (bI r1) (1 : Int32) (0 : Int32)).bind (fun r4 => some r4)))
theorem kX1_ofOpening {l : Launch} {Γ : Gl} {B : Bs} {w : Wl} {G : Gf} {sz : Nat} {l1 : Int32} {r : Int32} (hW : Wd Γ B w G) (h : sX1_ofOpening w l1 = some r) : CtR l Γ yX1_ofOpening cX1_ofOpening 3 (some .int) 3 [.ref (B.1 + 73), .int l1] G sz (.int (r)) := by
  refine Ct.of rfl (Nat.le_of_ble_eq_true rfl) fun X hx hr hl hΓ hnm => ?_
  subst hl hΓ
  show J X 3 G sz 0 0 0 [some (.ref (B.1 + 73)), some (.int l1), none] []
  unfold sX1_ofOpening at h
  refine J_al4 hx rfl rfl dX1_ofOpening_0 ?_
  refine g1_0 hx hW 1 (rfl : kd 73 = 11) fl_X1_9 rfl dX1_ofOpening_1 ?_
  refine J_il4 hx rfl rfl dX1_ofOpening_4 ?_
  obtain ⟨r1, hr2, h⟩ := bnd h
  refine J_rdV hx (kX6_hasCrate  hW hr2) ml_X1_51 lk_X6_hasCrate (ci := 5) rfl (hW.obj (rfl : kd 1 = 2) (by decide) (by decide)) (rest := []) rfl rfl (by decide) (by decide) (Nat.le_of_ble_eq_true rfl) (Nat.le_refl 0) (Nat.le_refl 0) dX1_ofOpening_5 ?_
  refine J_is4 hx rfl (by decide) (hc_of rfl) rfl dX1_ofOpening_8 ?_
  refine J_il4 hx rfl rfl dX1_ofOpening_9 ?_
  refine J_iconst hx (1 : Int32) dX1_ofOpening_10 rfl ?_
  refine J_il4 hx rfl rfl dX1_ofOpening_11 ?_
  refine J_bif_eq hx 27 dX1_ofOpening_12 rfl (fun h3 => ?_) (fun h3 => ?_)
  · replace h := neg h (bft h3)
    refine J_iconst hx (0 : Int32) dX1_ofOpening_27 rfl ?_
    obtain ⟨r4, hr5, h⟩ := bnd h
    refine J_rdS hx (kX1_firstWrong  hW hr5) ml_X1_30 lk_X1_firstWrong (rest := []) rfl rfl (by decide) (by decide) (Nat.le_of_ble_eq_true rfl) (Nat.le_refl 0) (Nat.le_refl 0) dX1_ofOpening_28 ?_
    exact J_iretR hx hr dX1_ofOpening_31 (Nat.le_refl 0) (Nat.le_refl 0) (Option.some.inj h)
  · replace h := pos h h3
    refine J_al4 hx rfl rfl dX1_ofOpening_15 ?_
    refine J_il4 hx rfl rfl dX1_ofOpening_16 ?_
    obtain ⟨r6, hr7, h⟩ := bnd h
    refine J_rdV hx (kX1_mayBeOpened  hW hr7) ml_X1_54 lk_X1_mayBeOpened (ci := 0) rfl (hW.obj (rfl : kd 73 = 11) (by decide) (by decide)) (rest := [.int (1 : Int32), .int (bI r1)]) rfl rfl (by decide) (by decide) (Nat.le_of_ble_eq_true rfl) (Nat.le_refl 0) (Nat.le_refl 0) dX1_ofOpening_17 ?_
    refine J_bif_eq hx 27 dX1_ofOpening_20 rfl (fun h8 => ?_) (fun h8 => ?_)
    · replace h := neg h (bft h8)
      refine J_iconst hx (0 : Int32) dX1_ofOpening_27 rfl ?_
      obtain ⟨r9, hr10, h⟩ := bnd h
      refine J_rdS hx (kX1_firstWrong  hW hr10) ml_X1_30 lk_X1_firstWrong (rest := []) rfl rfl (by decide) (by decide) (Nat.le_of_ble_eq_true rfl) (Nat.le_refl 0) (Nat.le_refl 0) dX1_ofOpening_28 ?_
      exact J_iretR hx hr dX1_ofOpening_31 (Nat.le_refl 0) (Nat.le_refl 0) (Option.some.inj h)
    · replace h := pos h h8
      refine J_iconst hx (1 : Int32) dX1_ofOpening_23 rfl ?_
      refine J_goto hx 28 dX1_ofOpening_24 rfl ?_
      obtain ⟨r11, hr12, h⟩ := bnd h
      refine J_rdS hx (kX1_firstWrong  hW hr12) ml_X1_30 lk_X1_firstWrong (rest := []) rfl rfl (by decide) (by decide) (Nat.le_of_ble_eq_true rfl) (Nat.le_refl 0) (Nat.le_refl 0) dX1_ofOpening_28 ?_
      exact J_iretR hx hr dX1_ofOpening_31 (Nat.le_refl 0) (Nat.le_refl 0) (Option.some.inj h)
theorem dX1_holdsOpenCrate_0 : decode cX1_holdsOpenCrate 0 = .ok (.iconst 0, 1) := by decide +kernel
theorem dX1_holdsOpenCrate_1 : decode cX1_holdsOpenCrate 1 = .ok (.istore_n 2, 1) := by decide +kernel
theorem dX1_holdsOpenCrate_2 : decode cX1_holdsOpenCrate 2 = .ok (.iload_n 2, 1) := by decide +kernel
theorem dX1_holdsOpenCrate_3 : decode cX1_holdsOpenCrate 3 = .ok (.aload_n 0, 1) := by decide +kernel
theorem dX1_holdsOpenCrate_4 : decode cX1_holdsOpenCrate 4 = .ok (.getfield 9, 3) := by decide +kernel
theorem dX1_holdsOpenCrate_7 : decode cX1_holdsOpenCrate 7 = .ok (.getfield 44, 3) := by decide +kernel
theorem dX1_holdsOpenCrate_10 : decode cX1_holdsOpenCrate 10 = .ok (.if_icmp .ge 42, 3) := by decide +kernel
theorem dX1_holdsOpenCrate_13 : decode cX1_holdsOpenCrate 13 = .ok (.aload_n 0, 1) := by decide +kernel
theorem dX1_holdsOpenCrate_14 : decode cX1_holdsOpenCrate 14 = .ok (.getfield 9, 3) := by decide +kernel
theorem dX1_holdsOpenCrate_17 : decode cX1_holdsOpenCrate 17 = .ok (.getfield 57, 3) := by decide +kernel
theorem dX1_holdsOpenCrate_20 : decode cX1_holdsOpenCrate 20 = .ok (.iload_n 2, 1) := by decide +kernel
theorem dX1_holdsOpenCrate_21 : decode cX1_holdsOpenCrate 21 = .ok (.aaload, 1) := by decide +kernel
theorem dX1_holdsOpenCrate_22 : decode cX1_holdsOpenCrate 22 = .ok (.getfield 76, 3) := by decide +kernel
theorem dX1_holdsOpenCrate_25 : decode cX1_holdsOpenCrate 25 = .ok (.iload_n 1, 1) := by decide +kernel
theorem dX1_holdsOpenCrate_26 : decode cX1_holdsOpenCrate 26 = .ok (.if_icmp .ne 20, 3) := by decide +kernel
theorem dX1_holdsOpenCrate_29 : decode cX1_holdsOpenCrate 29 = .ok (.aload_n 0, 1) := by decide +kernel
theorem dX1_holdsOpenCrate_30 : decode cX1_holdsOpenCrate 30 = .ok (.getfield 9, 3) := by decide +kernel
theorem dX1_holdsOpenCrate_33 : decode cX1_holdsOpenCrate 33 = .ok (.getfield 57, 3) := by decide +kernel
theorem dX1_holdsOpenCrate_36 : decode cX1_holdsOpenCrate 36 = .ok (.iload_n 2, 1) := by decide +kernel
theorem dX1_holdsOpenCrate_37 : decode cX1_holdsOpenCrate 37 = .ok (.aaload, 1) := by decide +kernel
theorem dX1_holdsOpenCrate_38 : decode cX1_holdsOpenCrate 38 = .ok (.getfield 61, 3) := by decide +kernel
theorem dX1_holdsOpenCrate_41 : decode cX1_holdsOpenCrate 41 = .ok (.ifCond .eq 5, 3) := by decide +kernel
theorem dX1_holdsOpenCrate_44 : decode cX1_holdsOpenCrate 44 = .ok (.iconst 1, 1) := by decide +kernel
theorem dX1_holdsOpenCrate_45 : decode cX1_holdsOpenCrate 45 = .ok (.ireturn, 1) := by decide +kernel
theorem dX1_holdsOpenCrate_46 : decode cX1_holdsOpenCrate 46 = .ok (.iinc 2 1, 3) := by decide +kernel
theorem dX1_holdsOpenCrate_49 : decode cX1_holdsOpenCrate 49 = .ok (.goto (-47), 3) := by decide +kernel
theorem dX1_holdsOpenCrate_52 : decode cX1_holdsOpenCrate 52 = .ok (.iconst 0, 1) := by decide +kernel
theorem dX1_holdsOpenCrate_53 : decode cX1_holdsOpenCrate 53 = .ok (.ireturn, 1) := by decide +kernel
def sX1_holdsOpenCrate_2 : Nat → Wl → Int32 → Int32 → Option Bool
  | 0, _, _, _ => none
  | n + 1, w, l1, l2 => (if (w 1 6) ≤ l2 then some false else (idx l2 12).bind (fun c2 => (if (w (29 + c2) 2) = l1 then (if (w (29 + c2) 1) = 0 then sX1_holdsOpenCrate_2 n w l1 (l2 + 1) else some true) else sX1_holdsOpenCrate_2 n w l1 (l2 + 1))))
theorem tX1_holdsOpenCrate_2 {X : Cx} {B : Bs} {sz : Nat} {G : Gf} {r : Bool} (hx : Fx X cX1_holdsOpenCrate 3 RX1 0 0 0) (hr : Rt X (some .boolean) 0 0 (RdΨ (.int (bI r)) G sz)) : ∀ (n : Nat), ∀ (w : Wl) (l1 : Int32) (l2 : Int32) (hW : Wd (xΓ X) B w G) (h : sX1_holdsOpenCrate_2 n w l1 l2 = some r), J X 3 G sz 0 0 2 [some (.ref (B.1 + 73)), some (.int l1), some (.int l2)] [] := by
  intro n
  induction n with
  | zero => intro w l1 l2 hW h; rw [sX1_holdsOpenCrate_2.eq_1] at h; cases h
  | succ n ih =>
    intro w l1 l2 hW h
    rw [sX1_holdsOpenCrate_2.eq_2] at h
    refine J_il4 hx rfl rfl dX1_holdsOpenCrate_2 ?_
    refine J_al4 hx rfl rfl dX1_holdsOpenCrate_3 ?_
    refine g1_0 hx hW 1 (rfl : kd 73 = 11) fl_X1_9 rfl dX1_holdsOpenCrate_4 ?_
    refine g6_6 hx hW (rfl : kd 1 = 2) fl_X1_44 dX1_holdsOpenCrate_7 ?_
    refine J_icmp_ge hx 52 dX1_holdsOpenCrate_10 rfl (fun h1 => ?_) (fun h1 => ?_)
    · replace h := pos h h1
      refine J_iconst hx (0 : Int32) dX1_holdsOpenCrate_52 rfl ?_
      exact J_zretR hx hr dX1_holdsOpenCrate_53 (Nat.le_refl 0) (Nat.le_refl 0) (show (0 : Int32) = bI _ from congrArg bI (Option.some.inj h))
    · replace h := neg h h1
      refine J_al4 hx rfl rfl dX1_holdsOpenCrate_13 ?_
      refine g1_0 hx hW 1 (rfl : kd 73 = 11) fl_X1_9 rfl dX1_holdsOpenCrate_14 ?_
      refine g6_10 hx hW 3 (rfl : kd 1 = 2) fl_X1_57 rfl dX1_holdsOpenCrate_17 ?_
      refine J_il4 hx rfl rfl dX1_holdsOpenCrate_20 ?_
      obtain ⟨c2, hc3, h⟩ := bnd h
      refine J_a4 hx hW (29 + c2) (rfl : kd 3 = 4) hc3 rfl dX1_holdsOpenCrate_21 fun hk4 => ?_
      refine g3_2 hx hW hk4 fl_X1_76 dX1_holdsOpenCrate_22 ?_
      refine J_il4 hx rfl rfl dX1_holdsOpenCrate_25 ?_
      refine J_icmp_ne hx 46 dX1_holdsOpenCrate_26 rfl (fun h5 => ?_) (fun h5 => ?_)
      · replace h := neg h h5
        refine J_iinc hx (v' := (l2 + 1)) rfl rfl (by decide) (hc_of rfl) rfl dX1_holdsOpenCrate_46 ?_
        refine J_goto hx 2 dX1_holdsOpenCrate_49 rfl ?_
        exact ih _ _ _  hW h
      · replace h := pos h h5
        refine J_al4 hx rfl rfl dX1_holdsOpenCrate_29 ?_
        refine g1_0 hx hW 1 (rfl : kd 73 = 11) fl_X1_9 rfl dX1_holdsOpenCrate_30 ?_
        refine g6_10 hx hW 3 (rfl : kd 1 = 2) fl_X1_57 rfl dX1_holdsOpenCrate_33 ?_
        refine J_il4 hx rfl rfl dX1_holdsOpenCrate_36 ?_
        refine J_a4 hx hW (29 + c2) (rfl : kd 3 = 4) hc3 rfl dX1_holdsOpenCrate_37 fun hk6 => ?_
        refine g3_1 hx hW hk6 fl_X1_61 dX1_holdsOpenCrate_38 ?_
        refine J_if_eq hx 46 dX1_holdsOpenCrate_41 rfl (fun h7 => ?_) (fun h7 => ?_)
        · replace h := pos h h7
          refine J_iinc hx (v' := (l2 + 1)) rfl rfl (by decide) (hc_of rfl) rfl dX1_holdsOpenCrate_46 ?_
          refine J_goto hx 2 dX1_holdsOpenCrate_49 rfl ?_
          exact ih _ _ _  hW h
        · replace h := neg h h7
          refine J_iconst hx (1 : Int32) dX1_holdsOpenCrate_44 rfl ?_
          exact J_zretR hx hr dX1_holdsOpenCrate_45 (Nat.le_refl 0) (Nat.le_refl 0) (show (1 : Int32) = bI _ from congrArg bI (Option.some.inj h))
def sX1_holdsOpenCrate (w : Wl) (l1 : Int32) : Option Bool := sX1_holdsOpenCrate_2 FU w l1 (0 : Int32)
theorem kX1_holdsOpenCrate {l : Launch} {Γ : Gl} {B : Bs} {w : Wl} {G : Gf} {sz : Nat} {l1 : Int32} {r : Bool} (hW : Wd Γ B w G) (h : sX1_holdsOpenCrate w l1 = some r) : CtR l Γ yX1_holdsOpenCrate cX1_holdsOpenCrate 3 (some .boolean) 0 [.ref (B.1 + 73), .int l1] G sz (.int (bI r)) := by
  refine Ct.of rfl (Nat.le_of_ble_eq_true rfl) fun X hx hr hl hΓ hnm => ?_
  subst hl hΓ
  show J X 3 G sz 0 0 0 [some (.ref (B.1 + 73)), some (.int l1), none] []
  unfold sX1_holdsOpenCrate at h
  refine J_iconst hx (0 : Int32) dX1_holdsOpenCrate_0 rfl ?_
  refine J_is4 hx rfl (by decide) (hc_of rfl) rfl dX1_holdsOpenCrate_1 ?_
  exact tX1_holdsOpenCrate_2 hx hr _ _ _ _  hW h
theorem dX1_ofClosing_0 : decode cX1_ofClosing 0 = .ok (.aload_n 0, 1) := by decide +kernel
theorem dX1_ofClosing_1 : decode cX1_ofClosing 1 = .ok (.getfield 9, 3) := by decide +kernel
theorem dX1_ofClosing_4 : decode cX1_ofClosing 4 = .ok (.iload_n 1, 1) := by decide +kernel
theorem dX1_ofClosing_5 : decode cX1_ofClosing 5 = .ok (.invokevirtual 51, 3) := by decide +kernel
theorem dX1_ofClosing_8 : decode cX1_ofClosing 8 = .ok (.istore_n 2, 1) := by decide +kernel
theorem dX1_ofClosing_9 : decode cX1_ofClosing 9 = .ok (.iload_n 2, 1) := by decide +kernel
theorem dX1_ofClosing_10 : decode cX1_ofClosing 10 = .ok (.ifCond .eq 41, 3) := by decide +kernel
theorem dX1_ofClosing_13 : decode cX1_ofClosing 13 = .ok (.aload_n 0, 1) := by decide +kernel
theorem dX1_ofClosing_14 : decode cX1_ofClosing 14 = .ok (.getfield 9, 3) := by decide +kernel
theorem dX1_ofClosing_17 : decode cX1_ofClosing 17 = .ok (.getfield 57, 3) := by decide +kernel
theorem dX1_ofClosing_20 : decode cX1_ofClosing 20 = .ok (.iload_n 1, 1) := by decide +kernel
theorem dX1_ofClosing_21 : decode cX1_ofClosing 21 = .ok (.aaload, 1) := by decide +kernel
theorem dX1_ofClosing_22 : decode cX1_ofClosing 22 = .ok (.getfield 61, 3) := by decide +kernel
theorem dX1_ofClosing_25 : decode cX1_ofClosing 25 = .ok (.ifCond .eq 26, 3) := by decide +kernel
theorem dX1_ofClosing_28 : decode cX1_ofClosing 28 = .ok (.aload_n 0, 1) := by decide +kernel
theorem dX1_ofClosing_29 : decode cX1_ofClosing 29 = .ok (.getfield 9, 3) := by decide +kernel
theorem dX1_ofClosing_32 : decode cX1_ofClosing 32 = .ok (.iload_n 1, 1) := by decide +kernel
theorem dX1_ofClosing_33 : decode cX1_ofClosing 33 = .ok (.invokevirtual 67, 3) := by decide +kernel
theorem dX1_ofClosing_36 : decode cX1_ofClosing 36 = .ok (.ifCond .eq 15, 3) := by decide +kernel
theorem dX1_ofClosing_39 : decode cX1_ofClosing 39 = .ok (.aload_n 0, 1) := by decide +kernel
theorem dX1_ofClosing_40 : decode cX1_ofClosing 40 = .ok (.iload_n 1, 1) := by decide +kernel
theorem dX1_ofClosing_41 : decode cX1_ofClosing 41 = .ok (.invokevirtual 70, 3) := by decide +kernel
theorem dX1_ofClosing_44 : decode cX1_ofClosing 44 = .ok (.ifCond .ne 7, 3) := by decide +kernel
theorem dX1_ofClosing_47 : decode cX1_ofClosing 47 = .ok (.iconst 1, 1) := by decide +kernel
theorem dX1_ofClosing_48 : decode cX1_ofClosing 48 = .ok (.goto 4, 3) := by decide +kernel
theorem dX1_ofClosing_51 : decode cX1_ofClosing 51 = .ok (.iconst 0, 1) := by decide +kernel
theorem dX1_ofClosing_52 : decode cX1_ofClosing 52 = .ok (.istore_n 3, 1) := by decide +kernel
theorem dX1_ofClosing_53 : decode cX1_ofClosing 53 = .ok (.iload_n 2, 1) := by decide +kernel
theorem dX1_ofClosing_54 : decode cX1_ofClosing 54 = .ok (.iconst 1, 1) := by decide +kernel
theorem dX1_ofClosing_55 : decode cX1_ofClosing 55 = .ok (.iload_n 3, 1) := by decide +kernel
theorem dX1_ofClosing_56 : decode cX1_ofClosing 56 = .ok (.invokestatic 30, 3) := by decide +kernel
theorem dX1_ofClosing_59 : decode cX1_ofClosing 59 = .ok (.ireturn, 1) := by decide +kernel
def sX1_ofClosing_52 (w : Wl) (l2 : Int32) (s0 : Int32) : Option Int32 := (sX1_firstWrong w l2 (1 : Int32) s0).bind (fun r1 => some r1)
theorem tX1_ofClosing_52 {X : Cx} {B : Bs} {sz : Nat} {G : Gf} {r : Int32} (hx : Fx X cX1_ofClosing 4 RX1 2 0 0) (hr : Rt X (some .int) 0 0 (RdΨ (.int (r)) G sz)) : ∀ (w : Wl) (l2 : Int32) (s0 : Int32) (hW : Wd (xΓ X) B w G) (h : sX1_ofClosing_52  w l2 s0 = some r), J X 4 G sz 0 0 52 [none, none, some (.int l2), none] [.int s0] := by
  intro w l2 s0 hW h
  unfold sX1_ofClosing_52 at h
  refine J_is4 hx rfl (by decide) (hc_of rfl) rfl dX1_ofClosing_52 ?_
  refine J_il4 hx rfl rfl dX1_ofClosing_53 ?_
  refine J_iconst hx (1 : Int32) dX1_ofClosing_54 rfl ?_
  refine J_il4 hx rfl rfl dX1_ofClosing_55 ?_
  obtain ⟨r1, hr2, h⟩ := bnd h
  refine J_rdS hx (kX1_firstWrong  hW hr2) ml_X1_30 lk_X1_firstWrong (rest := []) rfl rfl (by decide) (by decide) (Nat.le_of_ble_eq_true rfl) (Nat.le_refl 0) (Nat.le_refl 0) dX1_ofClosing_56 ?_
  exact J_iretR hx hr dX1_ofClosing_59 (Nat.le_refl 0) (Nat.le_refl 0) (Option.some.inj h)
def sX1_ofClosing (w : Wl) (l1 : Int32) : Option Int32 := (sX6_hasCrate w l1).bind (fun r1 => (if r1 = true then (idx l1 12).bind (fun c4 => (if (w (29 + c4) 1) = 0 then sX1_ofClosing_52 w (bI r1) (0 : Int32) else (sX6_isWithinReach w l1).bind (fun r8 => (if r8 = true then (sX1_holdsOpenCrate w l1).bind (fun r11 => (if r11 = true then sX1_ofClosing_52 w (bI r1) (0 : Int32) else sX1_ofClosing_52 w (bI r1) (1 : Int32))) else sX1_ofClosing_52 w (bI r1) (0 : Int32))))) else sX1_ofClosing_52 w (bI r1) (0 : Int32)))
theorem kX1_ofClosing {l : Launch} {Γ : Gl} {B : Bs} {w : Wl} {G : Gf} {sz : Nat} {l1 : Int32} {r : Int32} (hW : Wd Γ B w G) (h : sX1_ofClosing w l1 = some r) : CtR l Γ yX1_ofClosing cX1_ofClosing 4 (some .int) 2 [.ref (B.1 + 73), .int l1] G sz (.int (r)) := by
  refine Ct.of rfl (Nat.le_of_ble_eq_true rfl) fun X hx hr hl hΓ hnm => ?_
  subst hl hΓ
  show J X 4 G sz 0 0 0 [some (.ref (B.1 + 73)), some (.int l1), none, none] []
  unfold sX1_ofClosing at h
  refine J_al4 hx rfl rfl dX1_ofClosing_0 ?_
  refine g1_0 hx hW 1 (rfl : kd 73 = 11) fl_X1_9 rfl dX1_ofClosing_1 ?_
  refine J_il4 hx rfl rfl dX1_ofClosing_4 ?_
  obtain ⟨r1, hr2, h⟩ := bnd h
  refine J_rdV hx (kX6_hasCrate  hW hr2) ml_X1_51 lk_X6_hasCrate (ci := 5) rfl (hW.obj (rfl : kd 1 = 2) (by decide) (by decide)) (rest := []) rfl rfl (by decide) (by decide) (Nat.le_of_ble_eq_true rfl) (Nat.le_refl 0) (Nat.le_refl 0) dX1_ofClosing_5 ?_
  refine J_is4 hx rfl (by decide) (hc_of rfl) rfl dX1_ofClosing_8 ?_
  refine J_il4 hx rfl rfl dX1_ofClosing_9 ?_
  refine J_bif_eq hx 51 dX1_ofClosing_10 rfl (fun h3 => ?_) (fun h3 => ?_)
  · replace h := neg h (bft h3)
    refine J_iconst hx (0 : Int32) dX1_ofClosing_51 rfl ?_
    refine J_lw (ls' := [none, none, some (.int (bI r1)), none]) (lwN (lwN (lwS (lwN lwZ)))) ?_
    exact tX1_ofClosing_52 hx hr _ _ _  hW h
  · replace h := pos h h3
    refine J_al4 hx rfl rfl dX1_ofClosing_13 ?_
    refine g1_0 hx hW 1 (rfl : kd 73 = 11) fl_X1_9 rfl dX1_ofClosing_14 ?_
    refine g6_10 hx hW 3 (rfl : kd 1 = 2) fl_X1_57 rfl dX1_ofClosing_17 ?_
    refine J_il4 hx rfl rfl dX1_ofClosing_20 ?_
    obtain ⟨c4, hc5, h⟩ := bnd h
    refine J_a4 hx hW (29 + c4) (rfl : kd 3 = 4) hc5 rfl dX1_ofClosing_21 fun hk6 => ?_
    refine g3_1 hx hW hk6 fl_X1_61 dX1_ofClosing_22 ?_
    refine J_if_eq hx 51 dX1_ofClosing_25 rfl (fun h7 => ?_) (fun h7 => ?_)
    · replace h := pos h h7
      refine J_iconst hx (0 : Int32) dX1_ofClosing_51 rfl ?_
      refine J_lw (ls' := [none, none, some (.int (bI r1)), none]) (lwN (lwN (lwS (lwN lwZ)))) ?_
      exact tX1_ofClosing_52 hx hr _ _ _  hW h
    · replace h := neg h h7
      refine J_al4 hx rfl rfl dX1_ofClosing_28 ?_
      refine g1_0 hx hW 1 (rfl : kd 73 = 11) fl_X1_9 rfl dX1_ofClosing_29 ?_
      refine J_il4 hx rfl rfl dX1_ofClosing_32 ?_
      obtain ⟨r8, hr9, h⟩ := bnd h
      refine J_rdV hx (kX6_isWithinReach  hW hr9) ml_X1_67 lk_X6_isWithinReach (ci := 5) rfl (hW.obj (rfl : kd 1 = 2) (by decide) (by decide)) (rest := []) rfl rfl (by decide) (by decide) (Nat.le_of_ble_eq_true rfl) (Nat.le_refl 0) (Nat.le_refl 0) dX1_ofClosing_33 ?_
      refine J_bif_eq hx 51 dX1_ofClosing_36 rfl (fun h10 => ?_) (fun h10 => ?_)
      · replace h := neg h (bft h10)
        refine J_iconst hx (0 : Int32) dX1_ofClosing_51 rfl ?_
        refine J_lw (ls' := [none, none, some (.int (bI r1)), none]) (lwN (lwN (lwS (lwN lwZ)))) ?_
        exact tX1_ofClosing_52 hx hr _ _ _  hW h
      · replace h := pos h h10
        refine J_al4 hx rfl rfl dX1_ofClosing_39 ?_
        refine J_il4 hx rfl rfl dX1_ofClosing_40 ?_
        obtain ⟨r11, hr12, h⟩ := bnd h
        refine J_rdV hx (kX1_holdsOpenCrate  hW hr12) ml_X1_70 lk_X1_holdsOpenCrate (ci := 0) rfl (hW.obj (rfl : kd 73 = 11) (by decide) (by decide)) (rest := []) rfl rfl (by decide) (by decide) (Nat.le_of_ble_eq_true rfl) (Nat.le_refl 0) (Nat.le_refl 0) dX1_ofClosing_41 ?_
        refine J_bif_ne hx 51 dX1_ofClosing_44 rfl (fun h13 => ?_) (fun h13 => ?_)
        · replace h := pos h h13
          refine J_iconst hx (0 : Int32) dX1_ofClosing_51 rfl ?_
          refine J_lw (ls' := [none, none, some (.int (bI r1)), none]) (lwN (lwN (lwS (lwN lwZ)))) ?_
          exact tX1_ofClosing_52 hx hr _ _ _  hW h
        · replace h := neg h (bft h13)
          refine J_iconst hx (1 : Int32) dX1_ofClosing_47 rfl ?_
          refine J_goto hx 52 dX1_ofClosing_48 rfl ?_
          refine J_lw (ls' := [none, none, some (.int (bI r1)), none]) (lwN (lwN (lwS (lwN lwZ)))) ?_
          exact tX1_ofClosing_52 hx hr _ _ _  hW h
theorem dX1_mayBeNested_0 : decode cX1_mayBeNested 0 = .ok (.aload_n 0, 1) := by decide +kernel
theorem dX1_mayBeNested_1 : decode cX1_mayBeNested 1 = .ok (.getfield 9, 3) := by decide +kernel
theorem dX1_mayBeNested_4 : decode cX1_mayBeNested 4 = .ok (.getfield 57, 3) := by decide +kernel
theorem dX1_mayBeNested_7 : decode cX1_mayBeNested 7 = .ok (.iload_n 1, 1) := by decide +kernel
theorem dX1_mayBeNested_8 : decode cX1_mayBeNested 8 = .ok (.aaload, 1) := by decide +kernel
theorem dX1_mayBeNested_9 : decode cX1_mayBeNested 9 = .ok (.astore_n 3, 1) := by decide +kernel
theorem dX1_mayBeNested_10 : decode cX1_mayBeNested 10 = .ok (.aload_n 3, 1) := by decide +kernel
theorem dX1_mayBeNested_11 : decode cX1_mayBeNested 11 = .ok (.getfield 61, 3) := by decide +kernel
theorem dX1_mayBeNested_14 : decode cX1_mayBeNested 14 = .ok (.ifCond .ne 64, 3) := by decide +kernel
theorem dX1_mayBeNested_17 : decode cX1_mayBeNested 17 = .ok (.aload_n 3, 1) := by decide +kernel
theorem dX1_mayBeNested_18 : decode cX1_mayBeNested 18 = .ok (.getfield 76, 3) := by decide +kernel
theorem dX1_mayBeNested_21 : decode cX1_mayBeNested 21 = .ok (.iconst (-1), 1) := by decide +kernel
theorem dX1_mayBeNested_22 : decode cX1_mayBeNested 22 = .ok (.if_icmp .ne 56, 3) := by decide +kernel
theorem dX1_mayBeNested_25 : decode cX1_mayBeNested 25 = .ok (.aload_n 3, 1) := by decide +kernel
theorem dX1_mayBeNested_26 : decode cX1_mayBeNested 26 = .ok (.getfield 125, 3) := by decide +kernel
theorem dX1_mayBeNested_29 : decode cX1_mayBeNested 29 = .ok (.iconst (-1), 1) := by decide +kernel
theorem dX1_mayBeNested_30 : decode cX1_mayBeNested 30 = .ok (.if_icmp .ne 48, 3) := by decide +kernel
theorem dX1_mayBeNested_33 : decode cX1_mayBeNested 33 = .ok (.aload_n 0, 1) := by decide +kernel
theorem dX1_mayBeNested_34 : decode cX1_mayBeNested 34 = .ok (.getfield 9, 3) := by decide +kernel
theorem dX1_mayBeNested_37 : decode cX1_mayBeNested 37 = .ok (.getfield 57, 3) := by decide +kernel
theorem dX1_mayBeNested_40 : decode cX1_mayBeNested 40 = .ok (.iload_n 2, 1) := by decide +kernel
theorem dX1_mayBeNested_41 : decode cX1_mayBeNested 41 = .ok (.aaload, 1) := by decide +kernel
theorem dX1_mayBeNested_42 : decode cX1_mayBeNested 42 = .ok (.getfield 61, 3) := by decide +kernel
theorem dX1_mayBeNested_45 : decode cX1_mayBeNested 45 = .ok (.ifCond .eq 33, 3) := by decide +kernel
theorem dX1_mayBeNested_48 : decode cX1_mayBeNested 48 = .ok (.aload_n 0, 1) := by decide +kernel
theorem dX1_mayBeNested_49 : decode cX1_mayBeNested 49 = .ok (.getfield 9, 3) := by decide +kernel
theorem dX1_mayBeNested_52 : decode cX1_mayBeNested 52 = .ok (.iload_n 2, 1) := by decide +kernel
theorem dX1_mayBeNested_53 : decode cX1_mayBeNested 53 = .ok (.invokevirtual 67, 3) := by decide +kernel
theorem dX1_mayBeNested_56 : decode cX1_mayBeNested 56 = .ok (.ifCond .eq 22, 3) := by decide +kernel
theorem dX1_mayBeNested_59 : decode cX1_mayBeNested 59 = .ok (.aload_n 0, 1) := by decide +kernel
theorem dX1_mayBeNested_60 : decode cX1_mayBeNested 60 = .ok (.getfield 9, 3) := by decide +kernel
theorem dX1_mayBeNested_63 : decode cX1_mayBeNested 63 = .ok (.iload_n 2, 1) := by decide +kernel
theorem dX1_mayBeNested_64 : decode cX1_mayBeNested 64 = .ok (.invokevirtual 91, 3) := by decide +kernel
theorem dX1_mayBeNested_67 : decode cX1_mayBeNested 67 = .ok (.aload_n 3, 1) := by decide +kernel
theorem dX1_mayBeNested_68 : decode cX1_mayBeNested 68 = .ok (.getfield 128, 3) := by decide +kernel
theorem dX1_mayBeNested_71 : decode cX1_mayBeNested 71 = .ok (.if_icmp .ne 7, 3) := by decide +kernel
theorem dX1_mayBeNested_74 : decode cX1_mayBeNested 74 = .ok (.iconst 1, 1) := by decide +kernel
theorem dX1_mayBeNested_75 : decode cX1_mayBeNested 75 = .ok (.goto 4, 3) := by decide +kernel
theorem dX1_mayBeNested_78 : decode cX1_mayBeNested 78 = .ok (.iconst 0, 1) := by decide +kernel
theorem dX1_mayBeNested_79 : decode cX1_mayBeNested 79 = .ok (.ireturn, 1) := by decide +kernel
def sX1_mayBeNested (w : Wl) (l1 : Int32) (l2 : Int32) : Option Bool := (idx l1 12).bind (fun c1 => (if (w (29 + c1) 1) = 0 then (if (w (29 + c1) 2) = (-1 : Int32) then (if (w (29 + c1) 4) = (-1 : Int32) then (idx l2 12).bind (fun c7 => (if (w (29 + c7) 1) = 0 then some false else (sX6_isWithinReach w l2).bind (fun r11 => (if r11 = true then (sX6_venueOfCrate w l2).bind (fun r14 => (if r14 = (w (29 + c1) 3) then some true else some false)) else some false)))) else some false) else some false) else some false))
theorem kX1_mayBeNested {l : Launch} {Γ : Gl} {B : Bs} {w : Wl} {G : Gf} {sz : Nat} {l1 : Int32} {l2 : Int32} {r : Bool} (hW : Wd Γ B w G) (h : sX1_mayBeNested w l1 l2 = some r) : CtR l Γ yX1_mayBeNested cX1_mayBeNested 4 (some .boolean) 2 [.ref (B.1 + 73), .int l1, .int l2] G sz (.int (bI r)) := by
  refine Ct.of rfl (Nat.le_of_ble_eq_true rfl) fun X hx hr hl hΓ hnm => ?_
  subst hl hΓ
  show J X 4 G sz 0 0 0 [some (.ref (B.1 + 73)), some (.int l1), some (.int l2), none] []
  unfold sX1_mayBeNested at h
  refine J_al4 hx rfl rfl dX1_mayBeNested_0 ?_
  refine g1_0 hx hW 1 (rfl : kd 73 = 11) fl_X1_9 rfl dX1_mayBeNested_1 ?_
  refine g6_10 hx hW 3 (rfl : kd 1 = 2) fl_X1_57 rfl dX1_mayBeNested_4 ?_
  refine J_il4 hx rfl rfl dX1_mayBeNested_7 ?_
  obtain ⟨c1, hc2, h⟩ := bnd h
  refine J_a4 hx hW (29 + c1) (rfl : kd 3 = 4) hc2 rfl dX1_mayBeNested_8 fun hk3 => ?_
  refine J_as4 hx rfl (by decide) (hc_of rfl) rfl dX1_mayBeNested_9 ?_
  refine J_al4 hx rfl rfl dX1_mayBeNested_10 ?_
  refine g3_1 hx hW hk3 fl_X1_61 dX1_mayBeNested_11 ?_
  refine J_if_ne hx 78 dX1_mayBeNested_14 rfl (fun h4 => ?_) (fun h4 => ?_)
  · replace h := neg h h4
    refine J_iconst hx (0 : Int32) dX1_mayBeNested_78 rfl ?_
    exact J_zretR hx hr dX1_mayBeNested_79 (Nat.le_refl 0) (Nat.le_refl 0) (show (0 : Int32) = bI _ from congrArg bI (Option.some.inj h))
  · replace h := pos h h4
    refine J_al4 hx rfl rfl dX1_mayBeNested_17 ?_
    refine g3_2 hx hW hk3 fl_X1_76 dX1_mayBeNested_18 ?_
    refine J_iconst hx (-1 : Int32) dX1_mayBeNested_21 rfl ?_
    refine J_icmp_ne hx 78 dX1_mayBeNested_22 rfl (fun h5 => ?_) (fun h5 => ?_)
    · replace h := neg h h5
      refine J_iconst hx (0 : Int32) dX1_mayBeNested_78 rfl ?_
      exact J_zretR hx hr dX1_mayBeNested_79 (Nat.le_refl 0) (Nat.le_refl 0) (show (0 : Int32) = bI _ from congrArg bI (Option.some.inj h))
    · replace h := pos h h5
      refine J_al4 hx rfl rfl dX1_mayBeNested_25 ?_
      refine g3_4 hx hW hk3 fl_X1_125 dX1_mayBeNested_26 ?_
      refine J_iconst hx (-1 : Int32) dX1_mayBeNested_29 rfl ?_
      refine J_icmp_ne hx 78 dX1_mayBeNested_30 rfl (fun h6 => ?_) (fun h6 => ?_)
      · replace h := neg h h6
        refine J_iconst hx (0 : Int32) dX1_mayBeNested_78 rfl ?_
        exact J_zretR hx hr dX1_mayBeNested_79 (Nat.le_refl 0) (Nat.le_refl 0) (show (0 : Int32) = bI _ from congrArg bI (Option.some.inj h))
      · replace h := pos h h6
        refine J_al4 hx rfl rfl dX1_mayBeNested_33 ?_
        refine g1_0 hx hW 1 (rfl : kd 73 = 11) fl_X1_9 rfl dX1_mayBeNested_34 ?_
        refine g6_10 hx hW 3 (rfl : kd 1 = 2) fl_X1_57 rfl dX1_mayBeNested_37 ?_
        refine J_il4 hx rfl rfl dX1_mayBeNested_40 ?_
        obtain ⟨c7, hc8, h⟩ := bnd h
        refine J_a4 hx hW (29 + c7) (rfl : kd 3 = 4) hc8 rfl dX1_mayBeNested_41 fun hk9 => ?_
        refine g3_1 hx hW hk9 fl_X1_61 dX1_mayBeNested_42 ?_
        refine J_if_eq hx 78 dX1_mayBeNested_45 rfl (fun h10 => ?_) (fun h10 => ?_)
        · replace h := pos h h10
          refine J_iconst hx (0 : Int32) dX1_mayBeNested_78 rfl ?_
          exact J_zretR hx hr dX1_mayBeNested_79 (Nat.le_refl 0) (Nat.le_refl 0) (show (0 : Int32) = bI _ from congrArg bI (Option.some.inj h))
        · replace h := neg h h10
          refine J_al4 hx rfl rfl dX1_mayBeNested_48 ?_
          refine g1_0 hx hW 1 (rfl : kd 73 = 11) fl_X1_9 rfl dX1_mayBeNested_49 ?_
          refine J_il4 hx rfl rfl dX1_mayBeNested_52 ?_
          obtain ⟨r11, hr12, h⟩ := bnd h
          refine J_rdV hx (kX6_isWithinReach  hW hr12) ml_X1_67 lk_X6_isWithinReach (ci := 5) rfl (hW.obj (rfl : kd 1 = 2) (by decide) (by decide)) (rest := []) rfl rfl (by decide) (by decide) (Nat.le_of_ble_eq_true rfl) (Nat.le_refl 0) (Nat.le_refl 0) dX1_mayBeNested_53 ?_
          refine J_bif_eq hx 78 dX1_mayBeNested_56 rfl (fun h13 => ?_) (fun h13 => ?_)
          · replace h := neg h (bft h13)
            refine J_iconst hx (0 : Int32) dX1_mayBeNested_78 rfl ?_
            exact J_zretR hx hr dX1_mayBeNested_79 (Nat.le_refl 0) (Nat.le_refl 0) (show (0 : Int32) = bI _ from congrArg bI (Option.some.inj h))
          · replace h := pos h h13
            refine J_al4 hx rfl rfl dX1_mayBeNested_59 ?_
            refine g1_0 hx hW 1 (rfl : kd 73 = 11) fl_X1_9 rfl dX1_mayBeNested_60 ?_
            refine J_il4 hx rfl rfl dX1_mayBeNested_63 ?_
            obtain ⟨r14, hr15, h⟩ := bnd h
            refine J_rdV hx (kX6_venueOfCrate  hW hr15) ml_X1_91 lk_X6_venueOfCrate (ci := 5) rfl (hW.obj (rfl : kd 1 = 2) (by decide) (by decide)) (rest := []) rfl rfl (by decide) (by decide) (Nat.le_of_ble_eq_true rfl) (Nat.le_refl 0) (Nat.le_refl 0) dX1_mayBeNested_64 ?_
            refine J_al4 hx rfl rfl dX1_mayBeNested_67 ?_
            refine g3_3 hx hW hk3 fl_X1_128 dX1_mayBeNested_68 ?_
            refine J_icmp_ne hx 78 dX1_mayBeNested_71 rfl (fun h16 => ?_) (fun h16 => ?_)
            · replace h := neg h h16
              refine J_iconst hx (0 : Int32) dX1_mayBeNested_78 rfl ?_
              exact J_zretR hx hr dX1_mayBeNested_79 (Nat.le_refl 0) (Nat.le_refl 0) (show (0 : Int32) = bI _ from congrArg bI (Option.some.inj h))
            · replace h := pos h h16
              refine J_iconst hx (1 : Int32) dX1_mayBeNested_74 rfl ?_
              refine J_goto hx 79 dX1_mayBeNested_75 rfl ?_
              exact J_zretR hx hr dX1_mayBeNested_79 (Nat.le_refl 0) (Nat.le_refl 0) (show (1 : Int32) = bI _ from congrArg bI (Option.some.inj h))
theorem dX1_ofNesting_0 : decode cX1_ofNesting 0 = .ok (.aload_n 0, 1) := by decide +kernel
theorem dX1_ofNesting_1 : decode cX1_ofNesting 1 = .ok (.getfield 9, 3) := by decide +kernel
theorem dX1_ofNesting_4 : decode cX1_ofNesting 4 = .ok (.iload_n 1, 1) := by decide +kernel
theorem dX1_ofNesting_5 : decode cX1_ofNesting 5 = .ok (.invokevirtual 51, 3) := by decide +kernel
theorem dX1_ofNesting_8 : decode cX1_ofNesting 8 = .ok (.ifCond .eq 18, 3) := by decide +kernel
theorem dX1_ofNesting_11 : decode cX1_ofNesting 11 = .ok (.aload_n 0, 1) := by decide +kernel
theorem dX1_ofNesting_12 : decode cX1_ofNesting 12 = .ok (.getfield 9, 3) := by decide +kernel
theorem dX1_ofNesting_15 : decode cX1_ofNesting 15 = .ok (.iload_n 2, 1) := by decide +kernel
theorem dX1_ofNesting_16 : decode cX1_ofNesting 16 = .ok (.invokevirtual 51, 3) := by decide +kernel
theorem dX1_ofNesting_19 : decode cX1_ofNesting 19 = .ok (.ifCond .eq 7, 3) := by decide +kernel
theorem dX1_ofNesting_22 : decode cX1_ofNesting 22 = .ok (.iconst 1, 1) := by decide +kernel
theorem dX1_ofNesting_23 : decode cX1_ofNesting 23 = .ok (.goto 4, 3) := by decide +kernel
theorem dX1_ofNesting_26 : decode cX1_ofNesting 26 = .ok (.iconst 0, 1) := by decide +kernel
theorem dX1_ofNesting_27 : decode cX1_ofNesting 27 = .ok (.istore_n 3, 1) := by decide +kernel
theorem dX1_ofNesting_28 : decode cX1_ofNesting 28 = .ok (.iload_n 3, 1) := by decide +kernel
theorem dX1_ofNesting_29 : decode cX1_ofNesting 29 = .ok (.iconst 1, 1) := by decide +kernel
theorem dX1_ofNesting_30 : decode cX1_ofNesting 30 = .ok (.iload_n 3, 1) := by decide +kernel
theorem dX1_ofNesting_31 : decode cX1_ofNesting 31 = .ok (.ifCond .eq 21, 3) := by decide +kernel
theorem dX1_ofNesting_34 : decode cX1_ofNesting 34 = .ok (.iload_n 1, 1) := by decide +kernel
theorem dX1_ofNesting_35 : decode cX1_ofNesting 35 = .ok (.iload_n 2, 1) := by decide +kernel
theorem dX1_ofNesting_36 : decode cX1_ofNesting 36 = .ok (.if_icmp .eq 16, 3) := by decide +kernel
theorem dX1_ofNesting_39 : decode cX1_ofNesting 39 = .ok (.aload_n 0, 1) := by decide +kernel
theorem dX1_ofNesting_40 : decode cX1_ofNesting 40 = .ok (.iload_n 1, 1) := by decide +kernel
theorem dX1_ofNesting_41 : decode cX1_ofNesting 41 = .ok (.iload_n 2, 1) := by decide +kernel
theorem dX1_ofNesting_42 : decode cX1_ofNesting 42 = .ok (.invokevirtual 73, 3) := by decide +kernel
theorem dX1_ofNesting_45 : decode cX1_ofNesting 45 = .ok (.ifCond .eq 7, 3) := by decide +kernel
theorem dX1_ofNesting_48 : decode cX1_ofNesting 48 = .ok (.iconst 1, 1) := by decide +kernel
theorem dX1_ofNesting_49 : decode cX1_ofNesting 49 = .ok (.goto 4, 3) := by decide +kernel
theorem dX1_ofNesting_52 : decode cX1_ofNesting 52 = .ok (.iconst 0, 1) := by decide +kernel
theorem dX1_ofNesting_53 : decode cX1_ofNesting 53 = .ok (.invokestatic 30, 3) := by decide +kernel
theorem dX1_ofNesting_56 : decode cX1_ofNesting 56 = .ok (.ireturn, 1) := by decide +kernel
def sX1_ofNesting_27 (w : Wl) (l1 : Int32) (l2 : Int32) (s0 : Int32) : Option Int32 := (if s0 = 0 then (sX1_firstWrong w s0 (1 : Int32) (0 : Int32)).bind (fun r2 => some r2) else (if l1 = l2 then (sX1_firstWrong w s0 (1 : Int32) (0 : Int32)).bind (fun r5 => some r5) else (sX1_mayBeNested w l1 l2).bind (fun r7 => (if r7 = true then (sX1_firstWrong w s0 (1 : Int32) (1 : Int32)).bind (fun r12 => some r12) else (sX1_firstWrong w s0 (1 : Int32) (0 : Int32)).bind (fun r10 => some r10)))))
theorem tX1_ofNesting_27 {X : Cx} {B : Bs} {sz : Nat} {G : Gf} {r : Int32} (hx : Fx X cX1_ofNesting 4 RX1 3 0 0) (hr : Rt X (some .int) 0 0 (RdΨ (.int (r)) G sz)) : ∀ (w : Wl) (l1 : Int32) (l2 : Int32) (s0 : Int32) (hW : Wd (xΓ X) B w G) (h : sX1_ofNesting_27  w l1 l2 s0 = some r), J X 4 G sz 0 0 27 [some (.ref (B.1 + 73)), some (.int l1), some (.int l2), none] [.int s0] := by
  intro w l1 l2 s0 hW h
  unfold sX1_ofNesting_27 at h
  refine J_is4 hx rfl (by decide) (hc_of rfl) rfl dX1_ofNesting_27 ?_
  refine J_il4 hx rfl rfl dX1_ofNesting_28 ?_
  refine J_iconst hx (1 : Int32) dX1_ofNesting_29 rfl ?_
  refine J_il4 hx rfl rfl dX1_ofNesting_30 ?_
  refine J_if_eq hx 52 dX1_ofNesting_31 rfl (fun h1 => ?_) (fun h1 => ?_)
  · replace h := pos h h1
    refine J_iconst hx (0 : Int32) dX1_ofNesting_52 rfl ?_
    obtain ⟨r2, hr3, h⟩ := bnd h
    refine J_rdS hx (kX1_firstWrong  hW hr3) ml_X1_30 lk_X1_firstWrong (rest := []) rfl rfl (by decide) (by decide) (Nat.le_of_ble_eq_true rfl) (Nat.le_refl 0) (Nat.le_refl 0) dX1_ofNesting_53 ?_
    exact J_iretR hx hr dX1_ofNesting_56 (Nat.le_refl 0) (Nat.le_refl 0) (Option.some.inj h)
  · replace h := neg h h1
    refine J_il4 hx rfl rfl dX1_ofNesting_34 ?_
    refine J_il4 hx rfl rfl dX1_ofNesting_35 ?_
    refine J_icmp_eq hx 52 dX1_ofNesting_36 rfl (fun h4 => ?_) (fun h4 => ?_)
    · replace h := pos h h4
      refine J_iconst hx (0 : Int32) dX1_ofNesting_52 rfl ?_
      obtain ⟨r5, hr6, h⟩ := bnd h
      refine J_rdS hx (kX1_firstWrong  hW hr6) ml_X1_30 lk_X1_firstWrong (rest := []) rfl rfl (by decide) (by decide) (Nat.le_of_ble_eq_true rfl) (Nat.le_refl 0) (Nat.le_refl 0) dX1_ofNesting_53 ?_
      exact J_iretR hx hr dX1_ofNesting_56 (Nat.le_refl 0) (Nat.le_refl 0) (Option.some.inj h)
    · replace h := neg h h4
      refine J_al4 hx rfl rfl dX1_ofNesting_39 ?_
      refine J_il4 hx rfl rfl dX1_ofNesting_40 ?_
      refine J_il4 hx rfl rfl dX1_ofNesting_41 ?_
      obtain ⟨r7, hr8, h⟩ := bnd h
      refine J_rdV hx (kX1_mayBeNested  hW hr8) ml_X1_73 lk_X1_mayBeNested (ci := 0) rfl (hW.obj (rfl : kd 73 = 11) (by decide) (by decide)) (rest := [.int (1 : Int32), .int s0]) rfl rfl (by decide) (by decide) (Nat.le_of_ble_eq_true rfl) (Nat.le_refl 0) (Nat.le_refl 0) dX1_ofNesting_42 ?_
      refine J_bif_eq hx 52 dX1_ofNesting_45 rfl (fun h9 => ?_) (fun h9 => ?_)
      · replace h := neg h (bft h9)
        refine J_iconst hx (0 : Int32) dX1_ofNesting_52 rfl ?_
        obtain ⟨r10, hr11, h⟩ := bnd h
        refine J_rdS hx (kX1_firstWrong  hW hr11) ml_X1_30 lk_X1_firstWrong (rest := []) rfl rfl (by decide) (by decide) (Nat.le_of_ble_eq_true rfl) (Nat.le_refl 0) (Nat.le_refl 0) dX1_ofNesting_53 ?_
        exact J_iretR hx hr dX1_ofNesting_56 (Nat.le_refl 0) (Nat.le_refl 0) (Option.some.inj h)
      · replace h := pos h h9
        refine J_iconst hx (1 : Int32) dX1_ofNesting_48 rfl ?_
        refine J_goto hx 53 dX1_ofNesting_49 rfl ?_
        obtain ⟨r12, hr13, h⟩ := bnd h
        refine J_rdS hx (kX1_firstWrong  hW hr13) ml_X1_30 lk_X1_firstWrong (rest := []) rfl rfl (by decide) (by decide) (Nat.le_of_ble_eq_true rfl) (Nat.le_refl 0) (Nat.le_refl 0) dX1_ofNesting_53 ?_
        exact J_iretR hx hr dX1_ofNesting_56 (Nat.le_refl 0) (Nat.le_refl 0) (Option.some.inj h)
def sX1_ofNesting (w : Wl) (l1 : Int32) (l2 : Int32) : Option Int32 := (sX6_hasCrate w l1).bind (fun r1 => (if r1 = true then (sX6_hasCrate w l2).bind (fun r4 => (if r4 = true then sX1_ofNesting_27 w l1 l2 (1 : Int32) else sX1_ofNesting_27 w l1 l2 (0 : Int32))) else sX1_ofNesting_27 w l1 l2 (0 : Int32)))
theorem kX1_ofNesting {l : Launch} {Γ : Gl} {B : Bs} {w : Wl} {G : Gf} {sz : Nat} {l1 : Int32} {l2 : Int32} {r : Int32} (hW : Wd Γ B w G) (h : sX1_ofNesting w l1 l2 = some r) : CtR l Γ yX1_ofNesting cX1_ofNesting 4 (some .int) 3 [.ref (B.1 + 73), .int l1, .int l2] G sz (.int (r)) := by
  refine Ct.of rfl (Nat.le_of_ble_eq_true rfl) fun X hx hr hl hΓ hnm => ?_
  subst hl hΓ
  show J X 4 G sz 0 0 0 [some (.ref (B.1 + 73)), some (.int l1), some (.int l2), none] []
  unfold sX1_ofNesting at h
  refine J_al4 hx rfl rfl dX1_ofNesting_0 ?_
  refine g1_0 hx hW 1 (rfl : kd 73 = 11) fl_X1_9 rfl dX1_ofNesting_1 ?_
  refine J_il4 hx rfl rfl dX1_ofNesting_4 ?_
  obtain ⟨r1, hr2, h⟩ := bnd h
  refine J_rdV hx (kX6_hasCrate  hW hr2) ml_X1_51 lk_X6_hasCrate (ci := 5) rfl (hW.obj (rfl : kd 1 = 2) (by decide) (by decide)) (rest := []) rfl rfl (by decide) (by decide) (Nat.le_of_ble_eq_true rfl) (Nat.le_refl 0) (Nat.le_refl 0) dX1_ofNesting_5 ?_
  refine J_bif_eq hx 26 dX1_ofNesting_8 rfl (fun h3 => ?_) (fun h3 => ?_)
  · replace h := neg h (bft h3)
    refine J_iconst hx (0 : Int32) dX1_ofNesting_26 rfl ?_
    exact tX1_ofNesting_27 hx hr _ _ _ _  hW h
  · replace h := pos h h3
    refine J_al4 hx rfl rfl dX1_ofNesting_11 ?_
    refine g1_0 hx hW 1 (rfl : kd 73 = 11) fl_X1_9 rfl dX1_ofNesting_12 ?_
    refine J_il4 hx rfl rfl dX1_ofNesting_15 ?_
    obtain ⟨r4, hr5, h⟩ := bnd h
    refine J_rdV hx (kX6_hasCrate  hW hr5) ml_X1_51 lk_X6_hasCrate (ci := 5) rfl (hW.obj (rfl : kd 1 = 2) (by decide) (by decide)) (rest := []) rfl rfl (by decide) (by decide) (Nat.le_of_ble_eq_true rfl) (Nat.le_refl 0) (Nat.le_refl 0) dX1_ofNesting_16 ?_
    refine J_bif_eq hx 26 dX1_ofNesting_19 rfl (fun h6 => ?_) (fun h6 => ?_)
    · replace h := neg h (bft h6)
      refine J_iconst hx (0 : Int32) dX1_ofNesting_26 rfl ?_
      exact tX1_ofNesting_27 hx hr _ _ _ _  hW h
    · replace h := pos h h6
      refine J_iconst hx (1 : Int32) dX1_ofNesting_22 rfl ?_
      refine J_goto hx 27 dX1_ofNesting_23 rfl ?_
      exact tX1_ofNesting_27 hx hr _ _ _ _  hW h
theorem dX1_ofTakingOut_0 : decode cX1_ofTakingOut 0 = .ok (.aload_n 0, 1) := by decide +kernel
theorem dX1_ofTakingOut_1 : decode cX1_ofTakingOut 1 = .ok (.getfield 9, 3) := by decide +kernel
theorem dX1_ofTakingOut_4 : decode cX1_ofTakingOut 4 = .ok (.iload_n 1, 1) := by decide +kernel
theorem dX1_ofTakingOut_5 : decode cX1_ofTakingOut 5 = .ok (.invokevirtual 51, 3) := by decide +kernel
theorem dX1_ofTakingOut_8 : decode cX1_ofTakingOut 8 = .ok (.istore_n 2, 1) := by decide +kernel
theorem dX1_ofTakingOut_9 : decode cX1_ofTakingOut 9 = .ok (.iload_n 2, 1) := by decide +kernel
theorem dX1_ofTakingOut_10 : decode cX1_ofTakingOut 10 = .ok (.ifCond .eq 49, 3) := by decide +kernel
theorem dX1_ofTakingOut_13 : decode cX1_ofTakingOut 13 = .ok (.aload_n 0, 1) := by decide +kernel
theorem dX1_ofTakingOut_14 : decode cX1_ofTakingOut 14 = .ok (.getfield 9, 3) := by decide +kernel
theorem dX1_ofTakingOut_17 : decode cX1_ofTakingOut 17 = .ok (.getfield 57, 3) := by decide +kernel
theorem dX1_ofTakingOut_20 : decode cX1_ofTakingOut 20 = .ok (.iload_n 1, 1) := by decide +kernel
theorem dX1_ofTakingOut_21 : decode cX1_ofTakingOut 21 = .ok (.aaload, 1) := by decide +kernel
theorem dX1_ofTakingOut_22 : decode cX1_ofTakingOut 22 = .ok (.getfield 76, 3) := by decide +kernel
theorem dX1_ofTakingOut_25 : decode cX1_ofTakingOut 25 = .ok (.iconst (-1), 1) := by decide +kernel
theorem dX1_ofTakingOut_26 : decode cX1_ofTakingOut 26 = .ok (.if_icmp .eq 33, 3) := by decide +kernel
theorem dX1_ofTakingOut_29 : decode cX1_ofTakingOut 29 = .ok (.aload_n 0, 1) := by decide +kernel
theorem dX1_ofTakingOut_30 : decode cX1_ofTakingOut 30 = .ok (.getfield 9, 3) := by decide +kernel
theorem dX1_ofTakingOut_33 : decode cX1_ofTakingOut 33 = .ok (.getfield 57, 3) := by decide +kernel
theorem dX1_ofTakingOut_36 : decode cX1_ofTakingOut 36 = .ok (.iload_n 1, 1) := by decide +kernel
theorem dX1_ofTakingOut_37 : decode cX1_ofTakingOut 37 = .ok (.aaload, 1) := by decide +kernel
theorem dX1_ofTakingOut_38 : decode cX1_ofTakingOut 38 = .ok (.getfield 61, 3) := by decide +kernel
theorem dX1_ofTakingOut_41 : decode cX1_ofTakingOut 41 = .ok (.ifCond .ne 18, 3) := by decide +kernel
theorem dX1_ofTakingOut_44 : decode cX1_ofTakingOut 44 = .ok (.aload_n 0, 1) := by decide +kernel
theorem dX1_ofTakingOut_45 : decode cX1_ofTakingOut 45 = .ok (.getfield 9, 3) := by decide +kernel
theorem dX1_ofTakingOut_48 : decode cX1_ofTakingOut 48 = .ok (.iload_n 1, 1) := by decide +kernel
theorem dX1_ofTakingOut_49 : decode cX1_ofTakingOut 49 = .ok (.invokevirtual 67, 3) := by decide +kernel
theorem dX1_ofTakingOut_52 : decode cX1_ofTakingOut 52 = .ok (.ifCond .eq 7, 3) := by decide +kernel
theorem dX1_ofTakingOut_55 : decode cX1_ofTakingOut 55 = .ok (.iconst 1, 1) := by decide +kernel
theorem dX1_ofTakingOut_56 : decode cX1_ofTakingOut 56 = .ok (.goto 4, 3) := by decide +kernel
theorem dX1_ofTakingOut_59 : decode cX1_ofTakingOut 59 = .ok (.iconst 0, 1) := by decide +kernel
theorem dX1_ofTakingOut_60 : decode cX1_ofTakingOut 60 = .ok (.istore_n 3, 1) := by decide +kernel
theorem dX1_ofTakingOut_61 : decode cX1_ofTakingOut 61 = .ok (.iload_n 2, 1) := by decide +kernel
theorem dX1_ofTakingOut_62 : decode cX1_ofTakingOut 62 = .ok (.iconst 1, 1) := by decide +kernel
theorem dX1_ofTakingOut_63 : decode cX1_ofTakingOut 63 = .ok (.iload_n 3, 1) := by decide +kernel
theorem dX1_ofTakingOut_64 : decode cX1_ofTakingOut 64 = .ok (.invokestatic 30, 3) := by decide +kernel
theorem dX1_ofTakingOut_67 : decode cX1_ofTakingOut 67 = .ok (.ireturn, 1) := by decide +kernel
def sX1_ofTakingOut_60 (w : Wl) (l2 : Int32) (s0 : Int32) : Option Int32 := (sX1_firstWrong w l2 (1 : Int32) s0).bind (fun r1 => some r1)
theorem tX1_ofTakingOut_60 {X : Cx} {B : Bs} {sz : Nat} {G : Gf} {r : Int32} (hx : Fx X cX1_ofTakingOut 4 RX1 2 0 0) (hr : Rt X (some .int) 0 0 (RdΨ (.int (r)) G sz)) : ∀ (w : Wl) (l2 : Int32) (s0 : Int32) (hW : Wd (xΓ X) B w G) (h : sX1_ofTakingOut_60  w l2 s0 = some r), J X 4 G sz 0 0 60 [none, none, some (.int l2), none] [.int s0] := by
  intro w l2 s0 hW h
  unfold sX1_ofTakingOut_60 at h
  refine J_is4 hx rfl (by decide) (hc_of rfl) rfl dX1_ofTakingOut_60 ?_
  refine J_il4 hx rfl rfl dX1_ofTakingOut_61 ?_
  refine J_iconst hx (1 : Int32) dX1_ofTakingOut_62 rfl ?_
  refine J_il4 hx rfl rfl dX1_ofTakingOut_63 ?_
  obtain ⟨r1, hr2, h⟩ := bnd h
  refine J_rdS hx (kX1_firstWrong  hW hr2) ml_X1_30 lk_X1_firstWrong (rest := []) rfl rfl (by decide) (by decide) (Nat.le_of_ble_eq_true rfl) (Nat.le_refl 0) (Nat.le_refl 0) dX1_ofTakingOut_64 ?_
  exact J_iretR hx hr dX1_ofTakingOut_67 (Nat.le_refl 0) (Nat.le_refl 0) (Option.some.inj h)
def sX1_ofTakingOut (w : Wl) (l1 : Int32) : Option Int32 := (sX6_hasCrate w l1).bind (fun r1 => (if r1 = true then (idx l1 12).bind (fun c4 => (if (w (29 + c4) 2) = (-1 : Int32) then sX1_ofTakingOut_60 w (bI r1) (0 : Int32) else (if (w (29 + c4) 1) = 0 then (sX6_isWithinReach w l1).bind (fun r10 => (if r10 = true then sX1_ofTakingOut_60 w (bI r1) (1 : Int32) else sX1_ofTakingOut_60 w (bI r1) (0 : Int32))) else sX1_ofTakingOut_60 w (bI r1) (0 : Int32)))) else sX1_ofTakingOut_60 w (bI r1) (0 : Int32)))
theorem kX1_ofTakingOut {l : Launch} {Γ : Gl} {B : Bs} {w : Wl} {G : Gf} {sz : Nat} {l1 : Int32} {r : Int32} (hW : Wd Γ B w G) (h : sX1_ofTakingOut w l1 = some r) : CtR l Γ yX1_ofTakingOut cX1_ofTakingOut 4 (some .int) 2 [.ref (B.1 + 73), .int l1] G sz (.int (r)) := by
  refine Ct.of rfl (Nat.le_of_ble_eq_true rfl) fun X hx hr hl hΓ hnm => ?_
  subst hl hΓ
  show J X 4 G sz 0 0 0 [some (.ref (B.1 + 73)), some (.int l1), none, none] []
  unfold sX1_ofTakingOut at h
  refine J_al4 hx rfl rfl dX1_ofTakingOut_0 ?_
  refine g1_0 hx hW 1 (rfl : kd 73 = 11) fl_X1_9 rfl dX1_ofTakingOut_1 ?_
  refine J_il4 hx rfl rfl dX1_ofTakingOut_4 ?_
  obtain ⟨r1, hr2, h⟩ := bnd h
  refine J_rdV hx (kX6_hasCrate  hW hr2) ml_X1_51 lk_X6_hasCrate (ci := 5) rfl (hW.obj (rfl : kd 1 = 2) (by decide) (by decide)) (rest := []) rfl rfl (by decide) (by decide) (Nat.le_of_ble_eq_true rfl) (Nat.le_refl 0) (Nat.le_refl 0) dX1_ofTakingOut_5 ?_
  refine J_is4 hx rfl (by decide) (hc_of rfl) rfl dX1_ofTakingOut_8 ?_
  refine J_il4 hx rfl rfl dX1_ofTakingOut_9 ?_
  refine J_bif_eq hx 59 dX1_ofTakingOut_10 rfl (fun h3 => ?_) (fun h3 => ?_)
  · replace h := neg h (bft h3)
    refine J_iconst hx (0 : Int32) dX1_ofTakingOut_59 rfl ?_
    refine J_lw (ls' := [none, none, some (.int (bI r1)), none]) (lwN (lwN (lwS (lwN lwZ)))) ?_
    exact tX1_ofTakingOut_60 hx hr _ _ _  hW h
  · replace h := pos h h3
    refine J_al4 hx rfl rfl dX1_ofTakingOut_13 ?_
    refine g1_0 hx hW 1 (rfl : kd 73 = 11) fl_X1_9 rfl dX1_ofTakingOut_14 ?_
    refine g6_10 hx hW 3 (rfl : kd 1 = 2) fl_X1_57 rfl dX1_ofTakingOut_17 ?_
    refine J_il4 hx rfl rfl dX1_ofTakingOut_20 ?_
    obtain ⟨c4, hc5, h⟩ := bnd h
    refine J_a4 hx hW (29 + c4) (rfl : kd 3 = 4) hc5 rfl dX1_ofTakingOut_21 fun hk6 => ?_
    refine g3_2 hx hW hk6 fl_X1_76 dX1_ofTakingOut_22 ?_
    refine J_iconst hx (-1 : Int32) dX1_ofTakingOut_25 rfl ?_
    refine J_icmp_eq hx 59 dX1_ofTakingOut_26 rfl (fun h7 => ?_) (fun h7 => ?_)
    · replace h := pos h h7
      refine J_iconst hx (0 : Int32) dX1_ofTakingOut_59 rfl ?_
      refine J_lw (ls' := [none, none, some (.int (bI r1)), none]) (lwN (lwN (lwS (lwN lwZ)))) ?_
      exact tX1_ofTakingOut_60 hx hr _ _ _  hW h
    · replace h := neg h h7
      refine J_al4 hx rfl rfl dX1_ofTakingOut_29 ?_
      refine g1_0 hx hW 1 (rfl : kd 73 = 11) fl_X1_9 rfl dX1_ofTakingOut_30 ?_
      refine g6_10 hx hW 3 (rfl : kd 1 = 2) fl_X1_57 rfl dX1_ofTakingOut_33 ?_
      refine J_il4 hx rfl rfl dX1_ofTakingOut_36 ?_
      refine J_a4 hx hW (29 + c4) (rfl : kd 3 = 4) hc5 rfl dX1_ofTakingOut_37 fun hk8 => ?_
      refine g3_1 hx hW hk8 fl_X1_61 dX1_ofTakingOut_38 ?_
      refine J_if_ne hx 59 dX1_ofTakingOut_41 rfl (fun h9 => ?_) (fun h9 => ?_)
      · replace h := neg h h9
        refine J_iconst hx (0 : Int32) dX1_ofTakingOut_59 rfl ?_
        refine J_lw (ls' := [none, none, some (.int (bI r1)), none]) (lwN (lwN (lwS (lwN lwZ)))) ?_
        exact tX1_ofTakingOut_60 hx hr _ _ _  hW h
      · replace h := pos h h9
        refine J_al4 hx rfl rfl dX1_ofTakingOut_44 ?_
        refine g1_0 hx hW 1 (rfl : kd 73 = 11) fl_X1_9 rfl dX1_ofTakingOut_45 ?_
        refine J_il4 hx rfl rfl dX1_ofTakingOut_48 ?_
        obtain ⟨r10, hr11, h⟩ := bnd h
        refine J_rdV hx (kX6_isWithinReach  hW hr11) ml_X1_67 lk_X6_isWithinReach (ci := 5) rfl (hW.obj (rfl : kd 1 = 2) (by decide) (by decide)) (rest := []) rfl rfl (by decide) (by decide) (Nat.le_of_ble_eq_true rfl) (Nat.le_refl 0) (Nat.le_refl 0) dX1_ofTakingOut_49 ?_
        refine J_bif_eq hx 59 dX1_ofTakingOut_52 rfl (fun h12 => ?_) (fun h12 => ?_)
        · replace h := neg h (bft h12)
          refine J_iconst hx (0 : Int32) dX1_ofTakingOut_59 rfl ?_
          refine J_lw (ls' := [none, none, some (.int (bI r1)), none]) (lwN (lwN (lwS (lwN lwZ)))) ?_
          exact tX1_ofTakingOut_60 hx hr _ _ _  hW h
        · replace h := pos h h12
          refine J_iconst hx (1 : Int32) dX1_ofTakingOut_55 rfl ?_
          refine J_goto hx 60 dX1_ofTakingOut_56 rfl ?_
          refine J_lw (ls' := [none, none, some (.int (bI r1)), none]) (lwN (lwN (lwS (lwN lwZ)))) ?_
          exact tX1_ofTakingOut_60 hx hr _ _ _  hW h
theorem dX1_ofPacking_0 : decode cX1_ofPacking 0 = .ok (.aload_n 0, 1) := by decide +kernel
theorem dX1_ofPacking_1 : decode cX1_ofPacking 1 = .ok (.getfield 9, 3) := by decide +kernel
theorem dX1_ofPacking_4 : decode cX1_ofPacking 4 = .ok (.iload_n 1, 1) := by decide +kernel
theorem dX1_ofPacking_5 : decode cX1_ofPacking 5 = .ok (.invokevirtual 79, 3) := by decide +kernel
theorem dX1_ofPacking_8 : decode cX1_ofPacking 8 = .ok (.ifCond .eq 18, 3) := by decide +kernel
theorem dX1_ofPacking_11 : decode cX1_ofPacking 11 = .ok (.aload_n 0, 1) := by decide +kernel
theorem dX1_ofPacking_12 : decode cX1_ofPacking 12 = .ok (.getfield 9, 3) := by decide +kernel
theorem dX1_ofPacking_15 : decode cX1_ofPacking 15 = .ok (.iload_n 2, 1) := by decide +kernel
theorem dX1_ofPacking_16 : decode cX1_ofPacking 16 = .ok (.invokevirtual 51, 3) := by decide +kernel
theorem dX1_ofPacking_19 : decode cX1_ofPacking 19 = .ok (.ifCond .eq 7, 3) := by decide +kernel
theorem dX1_ofPacking_22 : decode cX1_ofPacking 22 = .ok (.iconst 1, 1) := by decide +kernel
theorem dX1_ofPacking_23 : decode cX1_ofPacking 23 = .ok (.goto 4, 3) := by decide +kernel
theorem dX1_ofPacking_26 : decode cX1_ofPacking 26 = .ok (.iconst 0, 1) := by decide +kernel
theorem dX1_ofPacking_27 : decode cX1_ofPacking 27 = .ok (.istore_n 3, 1) := by decide +kernel
theorem dX1_ofPacking_28 : decode cX1_ofPacking 28 = .ok (.iload_n 3, 1) := by decide +kernel
theorem dX1_ofPacking_29 : decode cX1_ofPacking 29 = .ok (.ifCond .eq 72, 3) := by decide +kernel
theorem dX1_ofPacking_32 : decode cX1_ofPacking 32 = .ok (.aload_n 0, 1) := by decide +kernel
theorem dX1_ofPacking_33 : decode cX1_ofPacking 33 = .ok (.getfield 9, 3) := by decide +kernel
theorem dX1_ofPacking_36 : decode cX1_ofPacking 36 = .ok (.getfield 82, 3) := by decide +kernel
theorem dX1_ofPacking_39 : decode cX1_ofPacking 39 = .ok (.iload_n 1, 1) := by decide +kernel
theorem dX1_ofPacking_40 : decode cX1_ofPacking 40 = .ok (.aaload, 1) := by decide +kernel
theorem dX1_ofPacking_41 : decode cX1_ofPacking 41 = .ok (.getfield 86, 3) := by decide +kernel
theorem dX1_ofPacking_44 : decode cX1_ofPacking 44 = .ok (.iconst (-1), 1) := by decide +kernel
theorem dX1_ofPacking_45 : decode cX1_ofPacking 45 = .ok (.if_icmp .ne 56, 3) := by decide +kernel
theorem dX1_ofPacking_48 : decode cX1_ofPacking 48 = .ok (.aload_n 0, 1) := by decide +kernel
theorem dX1_ofPacking_49 : decode cX1_ofPacking 49 = .ok (.getfield 9, 3) := by decide +kernel
theorem dX1_ofPacking_52 : decode cX1_ofPacking 52 = .ok (.getfield 57, 3) := by decide +kernel
theorem dX1_ofPacking_55 : decode cX1_ofPacking 55 = .ok (.iload_n 2, 1) := by decide +kernel
theorem dX1_ofPacking_56 : decode cX1_ofPacking 56 = .ok (.aaload, 1) := by decide +kernel
theorem dX1_ofPacking_57 : decode cX1_ofPacking 57 = .ok (.getfield 61, 3) := by decide +kernel
theorem dX1_ofPacking_60 : decode cX1_ofPacking 60 = .ok (.ifCond .eq 41, 3) := by decide +kernel
theorem dX1_ofPacking_63 : decode cX1_ofPacking 63 = .ok (.aload_n 0, 1) := by decide +kernel
theorem dX1_ofPacking_64 : decode cX1_ofPacking 64 = .ok (.getfield 9, 3) := by decide +kernel
theorem dX1_ofPacking_67 : decode cX1_ofPacking 67 = .ok (.iload_n 2, 1) := by decide +kernel
theorem dX1_ofPacking_68 : decode cX1_ofPacking 68 = .ok (.invokevirtual 67, 3) := by decide +kernel
theorem dX1_ofPacking_71 : decode cX1_ofPacking 71 = .ok (.ifCond .eq 30, 3) := by decide +kernel
theorem dX1_ofPacking_74 : decode cX1_ofPacking 74 = .ok (.aload_n 0, 1) := by decide +kernel
theorem dX1_ofPacking_75 : decode cX1_ofPacking 75 = .ok (.getfield 9, 3) := by decide +kernel
theorem dX1_ofPacking_78 : decode cX1_ofPacking 78 = .ok (.iload_n 2, 1) := by decide +kernel
theorem dX1_ofPacking_79 : decode cX1_ofPacking 79 = .ok (.invokevirtual 91, 3) := by decide +kernel
theorem dX1_ofPacking_82 : decode cX1_ofPacking 82 = .ok (.aload_n 0, 1) := by decide +kernel
theorem dX1_ofPacking_83 : decode cX1_ofPacking 83 = .ok (.getfield 9, 3) := by decide +kernel
theorem dX1_ofPacking_86 : decode cX1_ofPacking 86 = .ok (.getfield 82, 3) := by decide +kernel
theorem dX1_ofPacking_89 : decode cX1_ofPacking 89 = .ok (.iload_n 1, 1) := by decide +kernel
theorem dX1_ofPacking_90 : decode cX1_ofPacking 90 = .ok (.aaload, 1) := by decide +kernel
theorem dX1_ofPacking_91 : decode cX1_ofPacking 91 = .ok (.getfield 95, 3) := by decide +kernel
theorem dX1_ofPacking_94 : decode cX1_ofPacking 94 = .ok (.if_icmp .ne 7, 3) := by decide +kernel
theorem dX1_ofPacking_97 : decode cX1_ofPacking 97 = .ok (.iconst 1, 1) := by decide +kernel
theorem dX1_ofPacking_98 : decode cX1_ofPacking 98 = .ok (.goto 4, 3) := by decide +kernel
theorem dX1_ofPacking_101 : decode cX1_ofPacking 101 = .ok (.iconst 0, 1) := by decide +kernel
theorem dX1_ofPacking_102 : decode cX1_ofPacking 102 = .ok (.istore 4, 2) := by decide +kernel
theorem dX1_ofPacking_104 : decode cX1_ofPacking 104 = .ok (.iload_n 3, 1) := by decide +kernel
theorem dX1_ofPacking_105 : decode cX1_ofPacking 105 = .ok (.iconst 1, 1) := by decide +kernel
theorem dX1_ofPacking_106 : decode cX1_ofPacking 106 = .ok (.iload 4, 2) := by decide +kernel
theorem dX1_ofPacking_108 : decode cX1_ofPacking 108 = .ok (.invokestatic 30, 3) := by decide +kernel
theorem dX1_ofPacking_111 : decode cX1_ofPacking 111 = .ok (.ireturn, 1) := by decide +kernel
def sX1_ofPacking_102 (w : Wl) (l3 : Int32) (s0 : Int32) : Option Int32 := (sX1_firstWrong w l3 (1 : Int32) s0).bind (fun r1 => some r1)
theorem tX1_ofPacking_102 {X : Cx} {B : Bs} {sz : Nat} {G : Gf} {r : Int32} (hx : Fx X cX1_ofPacking 5 RX1 2 0 0) (hr : Rt X (some .int) 0 0 (RdΨ (.int (r)) G sz)) : ∀ (w : Wl) (l3 : Int32) (s0 : Int32) (hW : Wd (xΓ X) B w G) (h : sX1_ofPacking_102  w l3 s0 = some r), J X 5 G sz 0 0 102 [none, none, none, some (.int l3), none] [.int s0] := by
  intro w l3 s0 hW h
  unfold sX1_ofPacking_102 at h
  refine J_is hx (by decide) (hc_of rfl) rfl dX1_ofPacking_102 ?_
  refine J_il4 hx rfl rfl dX1_ofPacking_104 ?_
  refine J_iconst hx (1 : Int32) dX1_ofPacking_105 rfl ?_
  refine J_il hx rfl dX1_ofPacking_106 ?_
  obtain ⟨r1, hr2, h⟩ := bnd h
  refine J_rdS hx (kX1_firstWrong  hW hr2) ml_X1_30 lk_X1_firstWrong (rest := []) rfl rfl (by decide) (by decide) (Nat.le_of_ble_eq_true rfl) (Nat.le_refl 0) (Nat.le_refl 0) dX1_ofPacking_108 ?_
  exact J_iretR hx hr dX1_ofPacking_111 (Nat.le_refl 0) (Nat.le_refl 0) (Option.some.inj h)
def sX1_ofPacking_27 (w : Wl) (l1 : Int32) (l2 : Int32) (s0 : Int32) : Option Int32 := (if s0 = 0 then sX1_ofPacking_102 w s0 (0 : Int32) else (idx l1 16).bind (fun c2 => (if (w (41 + 2 * c2) 4) = (-1 : Int32) then (idx l2 12).bind (fun c6 => (if (w (29 + c6) 1) = 0 then sX1_ofPacking_102 w s0 (0 : Int32) else (sX6_isWithinReach w l2).bind (fun r10 => (if r10 = true then (sX6_venueOfCrate w l2).bind (fun r13 => (if r13 = (w (41 + 2 * c2) 5) then sX1_ofPacking_102 w s0 (1 : Int32) else sX1_ofPacking_102 w s0 (0 : Int32))) else sX1_ofPacking_102 w s0 (0 : Int32))))) else sX1_ofPacking_102 w s0 (0 : Int32))))
theorem tX1_ofPacking_27 {X : Cx} {B : Bs} {sz : Nat} {G : Gf} {r : Int32} (hx : Fx X cX1_ofPacking 5 RX1 2 0 0) (hr : Rt X (some .int) 0 0 (RdΨ (.int (r)) G sz)) : ∀ (w : Wl) (l1 : Int32) (l2 : Int32) (s0 : Int32) (hW : Wd (xΓ X) B w G) (h : sX1_ofPacking_27  w l1 l2 s0 = some r), J X 5 G sz 0 0 27 [some (.ref (B.1 + 73)), some (.int l1), some (.int l2), none, none] [.int s0] := by
  intro w l1 l2 s0 hW h
  unfold sX1_ofPacking_27 at h
  refine J_is4 hx rfl (by decide) (hc_of rfl) rfl dX1_ofPacking_27 ?_
  refine J_il4 hx rfl rfl dX1_ofPacking_28 ?_
  refine J_if_eq hx 101 dX1_ofPacking_29 rfl (fun h1 => ?_) (fun h1 => ?_)
  · replace h := pos h h1
    refine J_iconst hx (0 : Int32) dX1_ofPacking_101 rfl ?_
    refine J_lw (ls' := [none, none, none, some (.int s0), none]) (lwN (lwN (lwN (lwS (lwN lwZ))))) ?_
    exact tX1_ofPacking_102 hx hr _ _ _  hW h
  · replace h := neg h h1
    refine J_al4 hx rfl rfl dX1_ofPacking_32 ?_
    refine g1_0 hx hW 1 (rfl : kd 73 = 11) fl_X1_9 rfl dX1_ofPacking_33 ?_
    refine g6_11 hx hW 4 (rfl : kd 1 = 2) fl_X1_82 rfl dX1_ofPacking_36 ?_
    refine J_il4 hx rfl rfl dX1_ofPacking_39 ?_
    obtain ⟨c2, hc3, h⟩ := bnd h
    refine J_a5 hx hW (41 + 2 * c2) (rfl : kd 4 = 5) hc3 rfl dX1_ofPacking_40 fun hk4 => ?_
    refine g11_4 hx hW hk4 fl_X1_86 dX1_ofPacking_41 ?_
    refine J_iconst hx (-1 : Int32) dX1_ofPacking_44 rfl ?_
    refine J_icmp_ne hx 101 dX1_ofPacking_45 rfl (fun h5 => ?_) (fun h5 => ?_)
    · replace h := neg h h5
      refine J_iconst hx (0 : Int32) dX1_ofPacking_101 rfl ?_
      refine J_lw (ls' := [none, none, none, some (.int s0), none]) (lwN (lwN (lwN (lwS (lwN lwZ))))) ?_
      exact tX1_ofPacking_102 hx hr _ _ _  hW h
    · replace h := pos h h5
      refine J_al4 hx rfl rfl dX1_ofPacking_48 ?_
      refine g1_0 hx hW 1 (rfl : kd 73 = 11) fl_X1_9 rfl dX1_ofPacking_49 ?_
      refine g6_10 hx hW 3 (rfl : kd 1 = 2) fl_X1_57 rfl dX1_ofPacking_52 ?_
      refine J_il4 hx rfl rfl dX1_ofPacking_55 ?_
      obtain ⟨c6, hc7, h⟩ := bnd h
      refine J_a4 hx hW (29 + c6) (rfl : kd 3 = 4) hc7 rfl dX1_ofPacking_56 fun hk8 => ?_
      refine g3_1 hx hW hk8 fl_X1_61 dX1_ofPacking_57 ?_
      refine J_if_eq hx 101 dX1_ofPacking_60 rfl (fun h9 => ?_) (fun h9 => ?_)
      · replace h := pos h h9
        refine J_iconst hx (0 : Int32) dX1_ofPacking_101 rfl ?_
        refine J_lw (ls' := [none, none, none, some (.int s0), none]) (lwN (lwN (lwN (lwS (lwN lwZ))))) ?_
        exact tX1_ofPacking_102 hx hr _ _ _  hW h
      · replace h := neg h h9
        refine J_al4 hx rfl rfl dX1_ofPacking_63 ?_
        refine g1_0 hx hW 1 (rfl : kd 73 = 11) fl_X1_9 rfl dX1_ofPacking_64 ?_
        refine J_il4 hx rfl rfl dX1_ofPacking_67 ?_
        obtain ⟨r10, hr11, h⟩ := bnd h
        refine J_rdV hx (kX6_isWithinReach  hW hr11) ml_X1_67 lk_X6_isWithinReach (ci := 5) rfl (hW.obj (rfl : kd 1 = 2) (by decide) (by decide)) (rest := []) rfl rfl (by decide) (by decide) (Nat.le_of_ble_eq_true rfl) (Nat.le_refl 0) (Nat.le_refl 0) dX1_ofPacking_68 ?_
        refine J_bif_eq hx 101 dX1_ofPacking_71 rfl (fun h12 => ?_) (fun h12 => ?_)
        · replace h := neg h (bft h12)
          refine J_iconst hx (0 : Int32) dX1_ofPacking_101 rfl ?_
          refine J_lw (ls' := [none, none, none, some (.int s0), none]) (lwN (lwN (lwN (lwS (lwN lwZ))))) ?_
          exact tX1_ofPacking_102 hx hr _ _ _  hW h
        · replace h := pos h h12
          refine J_al4 hx rfl rfl dX1_ofPacking_74 ?_
          refine g1_0 hx hW 1 (rfl : kd 73 = 11) fl_X1_9 rfl dX1_ofPacking_75 ?_
          refine J_il4 hx rfl rfl dX1_ofPacking_78 ?_
          obtain ⟨r13, hr14, h⟩ := bnd h
          refine J_rdV hx (kX6_venueOfCrate  hW hr14) ml_X1_91 lk_X6_venueOfCrate (ci := 5) rfl (hW.obj (rfl : kd 1 = 2) (by decide) (by decide)) (rest := []) rfl rfl (by decide) (by decide) (Nat.le_of_ble_eq_true rfl) (Nat.le_refl 0) (Nat.le_refl 0) dX1_ofPacking_79 ?_
          refine J_al4 hx rfl rfl dX1_ofPacking_82 ?_
          refine g1_0 hx hW 1 (rfl : kd 73 = 11) fl_X1_9 rfl dX1_ofPacking_83 ?_
          refine g6_11 hx hW 4 (rfl : kd 1 = 2) fl_X1_82 rfl dX1_ofPacking_86 ?_
          refine J_il4 hx rfl rfl dX1_ofPacking_89 ?_
          refine J_a5 hx hW (41 + 2 * c2) (rfl : kd 4 = 5) hc3 rfl dX1_ofPacking_90 fun hk15 => ?_
          refine g11_5 hx hW hk15 fl_X1_95 dX1_ofPacking_91 ?_
          refine J_icmp_ne hx 101 dX1_ofPacking_94 rfl (fun h16 => ?_) (fun h16 => ?_)
          · replace h := neg h h16
            refine J_iconst hx (0 : Int32) dX1_ofPacking_101 rfl ?_
            refine J_lw (ls' := [none, none, none, some (.int s0), none]) (lwN (lwN (lwN (lwS (lwN lwZ))))) ?_
            exact tX1_ofPacking_102 hx hr _ _ _  hW h
          · replace h := pos h h16
            refine J_iconst hx (1 : Int32) dX1_ofPacking_97 rfl ?_
            refine J_goto hx 102 dX1_ofPacking_98 rfl ?_
            refine J_lw (ls' := [none, none, none, some (.int s0), none]) (lwN (lwN (lwN (lwS (lwN lwZ))))) ?_
            exact tX1_ofPacking_102 hx hr _ _ _  hW h
def sX1_ofPacking (w : Wl) (l1 : Int32) (l2 : Int32) : Option Int32 := (sX6_hasWork w l1).bind (fun r1 => (if r1 = true then (sX6_hasCrate w l2).bind (fun r4 => (if r4 = true then sX1_ofPacking_27 w l1 l2 (1 : Int32) else sX1_ofPacking_27 w l1 l2 (0 : Int32))) else sX1_ofPacking_27 w l1 l2 (0 : Int32)))
theorem kX1_ofPacking {l : Launch} {Γ : Gl} {B : Bs} {w : Wl} {G : Gf} {sz : Nat} {l1 : Int32} {l2 : Int32} {r : Int32} (hW : Wd Γ B w G) (h : sX1_ofPacking w l1 l2 = some r) : CtR l Γ yX1_ofPacking cX1_ofPacking 5 (some .int) 2 [.ref (B.1 + 73), .int l1, .int l2] G sz (.int (r)) := by
  refine Ct.of rfl (Nat.le_of_ble_eq_true rfl) fun X hx hr hl hΓ hnm => ?_
  subst hl hΓ
  show J X 5 G sz 0 0 0 [some (.ref (B.1 + 73)), some (.int l1), some (.int l2), none, none] []
  unfold sX1_ofPacking at h
  refine J_al4 hx rfl rfl dX1_ofPacking_0 ?_
  refine g1_0 hx hW 1 (rfl : kd 73 = 11) fl_X1_9 rfl dX1_ofPacking_1 ?_
  refine J_il4 hx rfl rfl dX1_ofPacking_4 ?_
  obtain ⟨r1, hr2, h⟩ := bnd h
  refine J_rdV hx (kX6_hasWork  hW hr2) ml_X1_79 lk_X6_hasWork (ci := 5) rfl (hW.obj (rfl : kd 1 = 2) (by decide) (by decide)) (rest := []) rfl rfl (by decide) (by decide) (Nat.le_of_ble_eq_true rfl) (Nat.le_refl 0) (Nat.le_refl 0) dX1_ofPacking_5 ?_
  refine J_bif_eq hx 26 dX1_ofPacking_8 rfl (fun h3 => ?_) (fun h3 => ?_)
  · replace h := neg h (bft h3)
    refine J_iconst hx (0 : Int32) dX1_ofPacking_26 rfl ?_
    exact tX1_ofPacking_27 hx hr _ _ _ _  hW h
  · replace h := pos h h3
    refine J_al4 hx rfl rfl dX1_ofPacking_11 ?_
    refine g1_0 hx hW 1 (rfl : kd 73 = 11) fl_X1_9 rfl dX1_ofPacking_12 ?_
    refine J_il4 hx rfl rfl dX1_ofPacking_15 ?_
    obtain ⟨r4, hr5, h⟩ := bnd h
    refine J_rdV hx (kX6_hasCrate  hW hr5) ml_X1_51 lk_X6_hasCrate (ci := 5) rfl (hW.obj (rfl : kd 1 = 2) (by decide) (by decide)) (rest := []) rfl rfl (by decide) (by decide) (Nat.le_of_ble_eq_true rfl) (Nat.le_refl 0) (Nat.le_refl 0) dX1_ofPacking_16 ?_
    refine J_bif_eq hx 26 dX1_ofPacking_19 rfl (fun h6 => ?_) (fun h6 => ?_)
    · replace h := neg h (bft h6)
      refine J_iconst hx (0 : Int32) dX1_ofPacking_26 rfl ?_
      exact tX1_ofPacking_27 hx hr _ _ _ _  hW h
    · replace h := pos h h6
      refine J_iconst hx (1 : Int32) dX1_ofPacking_22 rfl ?_
      refine J_goto hx 27 dX1_ofPacking_23 rfl ?_
      exact tX1_ofPacking_27 hx hr _ _ _ _  hW h
theorem dX1_ofUnpacking_0 : decode cX1_ofUnpacking 0 = .ok (.aload_n 0, 1) := by decide +kernel
theorem dX1_ofUnpacking_1 : decode cX1_ofUnpacking 1 = .ok (.getfield 9, 3) := by decide +kernel
theorem dX1_ofUnpacking_4 : decode cX1_ofUnpacking 4 = .ok (.iload_n 1, 1) := by decide +kernel
theorem dX1_ofUnpacking_5 : decode cX1_ofUnpacking 5 = .ok (.invokevirtual 79, 3) := by decide +kernel
theorem dX1_ofUnpacking_8 : decode cX1_ofUnpacking 8 = .ok (.istore_n 2, 1) := by decide +kernel
theorem dX1_ofUnpacking_9 : decode cX1_ofUnpacking 9 = .ok (.iload_n 2, 1) := by decide +kernel
theorem dX1_ofUnpacking_10 : decode cX1_ofUnpacking 10 = .ok (.ifCond .eq 18, 3) := by decide +kernel
theorem dX1_ofUnpacking_13 : decode cX1_ofUnpacking 13 = .ok (.aload_n 0, 1) := by decide +kernel
theorem dX1_ofUnpacking_14 : decode cX1_ofUnpacking 14 = .ok (.getfield 9, 3) := by decide +kernel
theorem dX1_ofUnpacking_17 : decode cX1_ofUnpacking 17 = .ok (.getfield 82, 3) := by decide +kernel
theorem dX1_ofUnpacking_20 : decode cX1_ofUnpacking 20 = .ok (.iload_n 1, 1) := by decide +kernel
theorem dX1_ofUnpacking_21 : decode cX1_ofUnpacking 21 = .ok (.aaload, 1) := by decide +kernel
theorem dX1_ofUnpacking_22 : decode cX1_ofUnpacking 22 = .ok (.getfield 86, 3) := by decide +kernel
theorem dX1_ofUnpacking_25 : decode cX1_ofUnpacking 25 = .ok (.goto 4, 3) := by decide +kernel
theorem dX1_ofUnpacking_28 : decode cX1_ofUnpacking 28 = .ok (.iconst (-1), 1) := by decide +kernel
theorem dX1_ofUnpacking_29 : decode cX1_ofUnpacking 29 = .ok (.istore_n 3, 1) := by decide +kernel
theorem dX1_ofUnpacking_30 : decode cX1_ofUnpacking 30 = .ok (.aload_n 0, 1) := by decide +kernel
theorem dX1_ofUnpacking_31 : decode cX1_ofUnpacking 31 = .ok (.getfield 9, 3) := by decide +kernel
theorem dX1_ofUnpacking_34 : decode cX1_ofUnpacking 34 = .ok (.iload_n 3, 1) := by decide +kernel
theorem dX1_ofUnpacking_35 : decode cX1_ofUnpacking 35 = .ok (.invokevirtual 51, 3) := by decide +kernel
theorem dX1_ofUnpacking_38 : decode cX1_ofUnpacking 38 = .ok (.ifCond .eq 33, 3) := by decide +kernel
theorem dX1_ofUnpacking_41 : decode cX1_ofUnpacking 41 = .ok (.aload_n 0, 1) := by decide +kernel
theorem dX1_ofUnpacking_42 : decode cX1_ofUnpacking 42 = .ok (.getfield 9, 3) := by decide +kernel
theorem dX1_ofUnpacking_45 : decode cX1_ofUnpacking 45 = .ok (.getfield 57, 3) := by decide +kernel
theorem dX1_ofUnpacking_48 : decode cX1_ofUnpacking 48 = .ok (.iload_n 3, 1) := by decide +kernel
theorem dX1_ofUnpacking_49 : decode cX1_ofUnpacking 49 = .ok (.aaload, 1) := by decide +kernel
theorem dX1_ofUnpacking_50 : decode cX1_ofUnpacking 50 = .ok (.getfield 61, 3) := by decide +kernel
theorem dX1_ofUnpacking_53 : decode cX1_ofUnpacking 53 = .ok (.ifCond .eq 18, 3) := by decide +kernel
theorem dX1_ofUnpacking_56 : decode cX1_ofUnpacking 56 = .ok (.aload_n 0, 1) := by decide +kernel
theorem dX1_ofUnpacking_57 : decode cX1_ofUnpacking 57 = .ok (.getfield 9, 3) := by decide +kernel
theorem dX1_ofUnpacking_60 : decode cX1_ofUnpacking 60 = .ok (.iload_n 3, 1) := by decide +kernel
theorem dX1_ofUnpacking_61 : decode cX1_ofUnpacking 61 = .ok (.invokevirtual 67, 3) := by decide +kernel
theorem dX1_ofUnpacking_64 : decode cX1_ofUnpacking 64 = .ok (.ifCond .eq 7, 3) := by decide +kernel
theorem dX1_ofUnpacking_67 : decode cX1_ofUnpacking 67 = .ok (.iconst 1, 1) := by decide +kernel
theorem dX1_ofUnpacking_68 : decode cX1_ofUnpacking 68 = .ok (.goto 4, 3) := by decide +kernel
theorem dX1_ofUnpacking_71 : decode cX1_ofUnpacking 71 = .ok (.iconst 0, 1) := by decide +kernel
theorem dX1_ofUnpacking_72 : decode cX1_ofUnpacking 72 = .ok (.istore 4, 2) := by decide +kernel
theorem dX1_ofUnpacking_74 : decode cX1_ofUnpacking 74 = .ok (.iload_n 2, 1) := by decide +kernel
theorem dX1_ofUnpacking_75 : decode cX1_ofUnpacking 75 = .ok (.iconst 1, 1) := by decide +kernel
theorem dX1_ofUnpacking_76 : decode cX1_ofUnpacking 76 = .ok (.iload 4, 2) := by decide +kernel
theorem dX1_ofUnpacking_78 : decode cX1_ofUnpacking 78 = .ok (.invokestatic 30, 3) := by decide +kernel
theorem dX1_ofUnpacking_81 : decode cX1_ofUnpacking 81 = .ok (.ireturn, 1) := by decide +kernel
def sX1_ofUnpacking_72 (w : Wl) (l2 : Int32) (s0 : Int32) : Option Int32 := (sX1_firstWrong w l2 (1 : Int32) s0).bind (fun r1 => some r1)
theorem tX1_ofUnpacking_72 {X : Cx} {B : Bs} {sz : Nat} {G : Gf} {r : Int32} (hx : Fx X cX1_ofUnpacking 5 RX1 2 0 0) (hr : Rt X (some .int) 0 0 (RdΨ (.int (r)) G sz)) : ∀ (w : Wl) (l2 : Int32) (s0 : Int32) (hW : Wd (xΓ X) B w G) (h : sX1_ofUnpacking_72  w l2 s0 = some r), J X 5 G sz 0 0 72 [none, none, some (.int l2), none, none] [.int s0] := by
  intro w l2 s0 hW h
  unfold sX1_ofUnpacking_72 at h
  refine J_is hx (by decide) (hc_of rfl) rfl dX1_ofUnpacking_72 ?_
  refine J_il4 hx rfl rfl dX1_ofUnpacking_74 ?_
  refine J_iconst hx (1 : Int32) dX1_ofUnpacking_75 rfl ?_
  refine J_il hx rfl dX1_ofUnpacking_76 ?_
  obtain ⟨r1, hr2, h⟩ := bnd h
  refine J_rdS hx (kX1_firstWrong  hW hr2) ml_X1_30 lk_X1_firstWrong (rest := []) rfl rfl (by decide) (by decide) (Nat.le_of_ble_eq_true rfl) (Nat.le_refl 0) (Nat.le_refl 0) dX1_ofUnpacking_78 ?_
  exact J_iretR hx hr dX1_ofUnpacking_81 (Nat.le_refl 0) (Nat.le_refl 0) (Option.some.inj h)
def sX1_ofUnpacking_29 (w : Wl) (l2 : Int32) (s0 : Int32) : Option Int32 := (sX6_hasCrate w s0).bind (fun r1 => (if r1 = true then (idx s0 12).bind (fun c4 => (if (w (29 + c4) 1) = 0 then sX1_ofUnpacking_72 w l2 (0 : Int32) else (sX6_isWithinReach w s0).bind (fun r8 => (if r8 = true then sX1_ofUnpacking_72 w l2 (1 : Int32) else sX1_ofUnpacking_72 w l2 (0 : Int32))))) else sX1_ofUnpacking_72 w l2 (0 : Int32)))
theorem tX1_ofUnpacking_29 {X : Cx} {B : Bs} {sz : Nat} {G : Gf} {r : Int32} (hx : Fx X cX1_ofUnpacking 5 RX1 2 0 0) (hr : Rt X (some .int) 0 0 (RdΨ (.int (r)) G sz)) : ∀ (w : Wl) (l2 : Int32) (s0 : Int32) (hW : Wd (xΓ X) B w G) (h : sX1_ofUnpacking_29  w l2 s0 = some r), J X 5 G sz 0 0 29 [some (.ref (B.1 + 73)), none, some (.int l2), none, none] [.int s0] := by
  intro w l2 s0 hW h
  unfold sX1_ofUnpacking_29 at h
  refine J_is4 hx rfl (by decide) (hc_of rfl) rfl dX1_ofUnpacking_29 ?_
  refine J_al4 hx rfl rfl dX1_ofUnpacking_30 ?_
  refine g1_0 hx hW 1 (rfl : kd 73 = 11) fl_X1_9 rfl dX1_ofUnpacking_31 ?_
  refine J_il4 hx rfl rfl dX1_ofUnpacking_34 ?_
  obtain ⟨r1, hr2, h⟩ := bnd h
  refine J_rdV hx (kX6_hasCrate  hW hr2) ml_X1_51 lk_X6_hasCrate (ci := 5) rfl (hW.obj (rfl : kd 1 = 2) (by decide) (by decide)) (rest := []) rfl rfl (by decide) (by decide) (Nat.le_of_ble_eq_true rfl) (Nat.le_refl 0) (Nat.le_refl 0) dX1_ofUnpacking_35 ?_
  refine J_bif_eq hx 71 dX1_ofUnpacking_38 rfl (fun h3 => ?_) (fun h3 => ?_)
  · replace h := neg h (bft h3)
    refine J_iconst hx (0 : Int32) dX1_ofUnpacking_71 rfl ?_
    refine J_lw (ls' := [none, none, some (.int l2), none, none]) (lwN (lwN (lwS (lwN (lwN lwZ))))) ?_
    exact tX1_ofUnpacking_72 hx hr _ _ _  hW h
  · replace h := pos h h3
    refine J_al4 hx rfl rfl dX1_ofUnpacking_41 ?_
    refine g1_0 hx hW 1 (rfl : kd 73 = 11) fl_X1_9 rfl dX1_ofUnpacking_42 ?_
    refine g6_10 hx hW 3 (rfl : kd 1 = 2) fl_X1_57 rfl dX1_ofUnpacking_45 ?_
    refine J_il4 hx rfl rfl dX1_ofUnpacking_48 ?_
    obtain ⟨c4, hc5, h⟩ := bnd h
    refine J_a4 hx hW (29 + c4) (rfl : kd 3 = 4) hc5 rfl dX1_ofUnpacking_49 fun hk6 => ?_
    refine g3_1 hx hW hk6 fl_X1_61 dX1_ofUnpacking_50 ?_
    refine J_if_eq hx 71 dX1_ofUnpacking_53 rfl (fun h7 => ?_) (fun h7 => ?_)
    · replace h := pos h h7
      refine J_iconst hx (0 : Int32) dX1_ofUnpacking_71 rfl ?_
      refine J_lw (ls' := [none, none, some (.int l2), none, none]) (lwN (lwN (lwS (lwN (lwN lwZ))))) ?_
      exact tX1_ofUnpacking_72 hx hr _ _ _  hW h
    · replace h := neg h h7
      refine J_al4 hx rfl rfl dX1_ofUnpacking_56 ?_
      refine g1_0 hx hW 1 (rfl : kd 73 = 11) fl_X1_9 rfl dX1_ofUnpacking_57 ?_
      refine J_il4 hx rfl rfl dX1_ofUnpacking_60 ?_
      obtain ⟨r8, hr9, h⟩ := bnd h
      refine J_rdV hx (kX6_isWithinReach  hW hr9) ml_X1_67 lk_X6_isWithinReach (ci := 5) rfl (hW.obj (rfl : kd 1 = 2) (by decide) (by decide)) (rest := []) rfl rfl (by decide) (by decide) (Nat.le_of_ble_eq_true rfl) (Nat.le_refl 0) (Nat.le_refl 0) dX1_ofUnpacking_61 ?_
      refine J_bif_eq hx 71 dX1_ofUnpacking_64 rfl (fun h10 => ?_) (fun h10 => ?_)
      · replace h := neg h (bft h10)
        refine J_iconst hx (0 : Int32) dX1_ofUnpacking_71 rfl ?_
        refine J_lw (ls' := [none, none, some (.int l2), none, none]) (lwN (lwN (lwS (lwN (lwN lwZ))))) ?_
        exact tX1_ofUnpacking_72 hx hr _ _ _  hW h
      · replace h := pos h h10
        refine J_iconst hx (1 : Int32) dX1_ofUnpacking_67 rfl ?_
        refine J_goto hx 72 dX1_ofUnpacking_68 rfl ?_
        refine J_lw (ls' := [none, none, some (.int l2), none, none]) (lwN (lwN (lwS (lwN (lwN lwZ))))) ?_
        exact tX1_ofUnpacking_72 hx hr _ _ _  hW h
def sX1_ofUnpacking (w : Wl) (l1 : Int32) : Option Int32 := (sX6_hasWork w l1).bind (fun r1 => (if r1 = true then (idx l1 16).bind (fun c4 => sX1_ofUnpacking_29 w (bI r1) (w (41 + 2 * c4) 4)) else sX1_ofUnpacking_29 w (bI r1) (-1 : Int32)))
theorem kX1_ofUnpacking {l : Launch} {Γ : Gl} {B : Bs} {w : Wl} {G : Gf} {sz : Nat} {l1 : Int32} {r : Int32} (hW : Wd Γ B w G) (h : sX1_ofUnpacking w l1 = some r) : CtR l Γ yX1_ofUnpacking cX1_ofUnpacking 5 (some .int) 2 [.ref (B.1 + 73), .int l1] G sz (.int (r)) := by
  refine Ct.of rfl (Nat.le_of_ble_eq_true rfl) fun X hx hr hl hΓ hnm => ?_
  subst hl hΓ
  show J X 5 G sz 0 0 0 [some (.ref (B.1 + 73)), some (.int l1), none, none, none] []
  unfold sX1_ofUnpacking at h
  refine J_al4 hx rfl rfl dX1_ofUnpacking_0 ?_
  refine g1_0 hx hW 1 (rfl : kd 73 = 11) fl_X1_9 rfl dX1_ofUnpacking_1 ?_
  refine J_il4 hx rfl rfl dX1_ofUnpacking_4 ?_
  obtain ⟨r1, hr2, h⟩ := bnd h
  refine J_rdV hx (kX6_hasWork  hW hr2) ml_X1_79 lk_X6_hasWork (ci := 5) rfl (hW.obj (rfl : kd 1 = 2) (by decide) (by decide)) (rest := []) rfl rfl (by decide) (by decide) (Nat.le_of_ble_eq_true rfl) (Nat.le_refl 0) (Nat.le_refl 0) dX1_ofUnpacking_5 ?_
  refine J_is4 hx rfl (by decide) (hc_of rfl) rfl dX1_ofUnpacking_8 ?_
  refine J_il4 hx rfl rfl dX1_ofUnpacking_9 ?_
  refine J_bif_eq hx 28 dX1_ofUnpacking_10 rfl (fun h3 => ?_) (fun h3 => ?_)
  · replace h := neg h (bft h3)
    refine J_iconst hx (-1 : Int32) dX1_ofUnpacking_28 rfl ?_
    refine J_lw (ls' := [some (.ref (B.1 + 73)), none, some (.int (bI r1)), none, none]) (lwS (lwN (lwS (lwN (lwN lwZ))))) ?_
    exact tX1_ofUnpacking_29 hx hr _ _ _  hW h
  · replace h := pos h h3
    refine J_al4 hx rfl rfl dX1_ofUnpacking_13 ?_
    refine g1_0 hx hW 1 (rfl : kd 73 = 11) fl_X1_9 rfl dX1_ofUnpacking_14 ?_
    refine g6_11 hx hW 4 (rfl : kd 1 = 2) fl_X1_82 rfl dX1_ofUnpacking_17 ?_
    refine J_il4 hx rfl rfl dX1_ofUnpacking_20 ?_
    obtain ⟨c4, hc5, h⟩ := bnd h
    refine J_a5 hx hW (41 + 2 * c4) (rfl : kd 4 = 5) hc5 rfl dX1_ofUnpacking_21 fun hk6 => ?_
    refine g11_4 hx hW hk6 fl_X1_86 dX1_ofUnpacking_22 ?_
    refine J_goto hx 29 dX1_ofUnpacking_25 rfl ?_
    refine J_lw (ls' := [some (.ref (B.1 + 73)), none, some (.int (bI r1)), none, none]) (lwS (lwN (lwS (lwN (lwN lwZ))))) ?_
    exact tX1_ofUnpacking_29 hx hr _ _ _  hW h
theorem dX1_ofNumber_0 : decode cX1_ofNumber 0 = .ok (.iload_n 1, 1) := by decide +kernel
theorem dX1_ofNumber_1 : decode cX1_ofNumber 1 = .ok (.ifCond .eq 7, 3) := by decide +kernel
theorem dX1_ofNumber_4 : decode cX1_ofNumber 4 = .ok (.iconst 0, 1) := by decide +kernel
theorem dX1_ofNumber_5 : decode cX1_ofNumber 5 = .ok (.goto 4, 3) := by decide +kernel
theorem dX1_ofNumber_8 : decode cX1_ofNumber 8 = .ok (.iconst 1, 1) := by decide +kernel
theorem dX1_ofNumber_9 : decode cX1_ofNumber 9 = .ok (.ireturn, 1) := by decide +kernel
def sX1_ofNumber (w : Wl) (l1 : Int32) : Option Int32 := (if l1 = 0 then some (1 : Int32) else some (0 : Int32))
theorem kX1_ofNumber {l : Launch} {Γ : Gl} {B : Bs} {w : Wl} {G : Gf} {sz : Nat} {l1 : Int32} {r : Int32} (hW : Wd Γ B w G) (h : sX1_ofNumber w l1 = some r) : CtR l Γ yX1_ofNumber cX1_ofNumber 2 (some .int) 0 [.ref (B.1 + 73), .int l1] G sz (.int (r)) := by
  refine Ct.of rfl (Nat.le_of_ble_eq_true rfl) fun X hx hr hl hΓ hnm => ?_
  subst hl hΓ
  show J X 2 G sz 0 0 0 [some (.ref (B.1 + 73)), some (.int l1)] []
  unfold sX1_ofNumber at h
  refine J_il4 hx rfl rfl dX1_ofNumber_0 ?_
  refine J_if_eq hx 8 dX1_ofNumber_1 rfl (fun h1 => ?_) (fun h1 => ?_)
  · replace h := pos h h1
    refine J_iconst hx (1 : Int32) dX1_ofNumber_8 rfl ?_
    exact J_iretR hx hr dX1_ofNumber_9 (Nat.le_refl 0) (Nat.le_refl 0) (Option.some.inj h)
  · replace h := neg h h1
    refine J_iconst hx (0 : Int32) dX1_ofNumber_4 rfl ?_
    refine J_goto hx 9 dX1_ofNumber_5 rfl ?_
    exact J_iretR hx hr dX1_ofNumber_9 (Nat.le_refl 0) (Nat.le_refl 0) (Option.some.inj h)
theorem dX1_ofLeg_0 : decode cX1_ofLeg 0 = .ok (.aload_n 0, 1) := by decide +kernel
theorem dX1_ofLeg_1 : decode cX1_ofLeg 1 = .ok (.aload_n 0, 1) := by decide +kernel
theorem dX1_ofLeg_2 : decode cX1_ofLeg 2 = .ok (.getfield 9, 3) := by decide +kernel
theorem dX1_ofLeg_5 : decode cX1_ofLeg 5 = .ok (.iload_n 1, 1) := by decide +kernel
theorem dX1_ofLeg_6 : decode cX1_ofLeg 6 = .ok (.invokevirtual 51, 3) := by decide +kernel
theorem dX1_ofLeg_9 : decode cX1_ofLeg 9 = .ok (.ifCond .eq 29, 3) := by decide +kernel
theorem dX1_ofLeg_12 : decode cX1_ofLeg 12 = .ok (.aload_n 0, 1) := by decide +kernel
theorem dX1_ofLeg_13 : decode cX1_ofLeg 13 = .ok (.getfield 9, 3) := by decide +kernel
theorem dX1_ofLeg_16 : decode cX1_ofLeg 16 = .ok (.iload_n 2, 1) := by decide +kernel
theorem dX1_ofLeg_17 : decode cX1_ofLeg 17 = .ok (.invokevirtual 34, 3) := by decide +kernel
theorem dX1_ofLeg_20 : decode cX1_ofLeg 20 = .ok (.ifCond .eq 18, 3) := by decide +kernel
theorem dX1_ofLeg_23 : decode cX1_ofLeg 23 = .ok (.aload_n 0, 1) := by decide +kernel
theorem dX1_ofLeg_24 : decode cX1_ofLeg 24 = .ok (.getfield 9, 3) := by decide +kernel
theorem dX1_ofLeg_27 : decode cX1_ofLeg 27 = .ok (.iload_n 3, 1) := by decide +kernel
theorem dX1_ofLeg_28 : decode cX1_ofLeg 28 = .ok (.invokevirtual 98, 3) := by decide +kernel
theorem dX1_ofLeg_31 : decode cX1_ofLeg 31 = .ok (.ifCond .eq 7, 3) := by decide +kernel
theorem dX1_ofLeg_34 : decode cX1_ofLeg 34 = .ok (.iconst 1, 1) := by decide +kernel
theorem dX1_ofLeg_35 : decode cX1_ofLeg 35 = .ok (.goto 4, 3) := by decide +kernel
theorem dX1_ofLeg_38 : decode cX1_ofLeg 38 = .ok (.iconst 0, 1) := by decide +kernel
theorem dX1_ofLeg_39 : decode cX1_ofLeg 39 = .ok (.invokevirtual 101, 3) := by decide +kernel
theorem dX1_ofLeg_42 : decode cX1_ofLeg 42 = .ok (.ireturn, 1) := by decide +kernel
def sX1_ofLeg (w : Wl) (l1 : Int32) (l2 : Int32) (l3 : Int32) : Option Int32 := (sX6_hasCrate w l1).bind (fun r1 => (if r1 = true then (sX6_hasVenue w l2).bind (fun r6 => (if r6 = true then (sX6_isCourierOrNone w l3).bind (fun r11 => (if r11 = true then (sX1_ofNumber w (1 : Int32)).bind (fun r16 => some r16) else (sX1_ofNumber w (0 : Int32)).bind (fun r14 => some r14))) else (sX1_ofNumber w (0 : Int32)).bind (fun r9 => some r9))) else (sX1_ofNumber w (0 : Int32)).bind (fun r4 => some r4)))
theorem kX1_ofLeg {l : Launch} {Γ : Gl} {B : Bs} {w : Wl} {G : Gf} {sz : Nat} {l1 : Int32} {l2 : Int32} {l3 : Int32} {r : Int32} (hW : Wd Γ B w G) (h : sX1_ofLeg w l1 l2 l3 = some r) : CtR l Γ yX1_ofLeg cX1_ofLeg 4 (some .int) 2 [.ref (B.1 + 73), .int l1, .int l2, .int l3] G sz (.int (r)) := by
  refine Ct.of rfl (Nat.le_of_ble_eq_true rfl) fun X hx hr hl hΓ hnm => ?_
  subst hl hΓ
  show J X 4 G sz 0 0 0 [some (.ref (B.1 + 73)), some (.int l1), some (.int l2), some (.int l3)] []
  unfold sX1_ofLeg at h
  refine J_al4 hx rfl rfl dX1_ofLeg_0 ?_
  refine J_al4 hx rfl rfl dX1_ofLeg_1 ?_
  refine g1_0 hx hW 1 (rfl : kd 73 = 11) fl_X1_9 rfl dX1_ofLeg_2 ?_
  refine J_il4 hx rfl rfl dX1_ofLeg_5 ?_
  obtain ⟨r1, hr2, h⟩ := bnd h
  refine J_rdV hx (kX6_hasCrate  hW hr2) ml_X1_51 lk_X6_hasCrate (ci := 5) rfl (hW.obj (rfl : kd 1 = 2) (by decide) (by decide)) (rest := [.ref (B.1 + 73)]) rfl rfl (by decide) (by decide) (Nat.le_of_ble_eq_true rfl) (Nat.le_refl 0) (Nat.le_refl 0) dX1_ofLeg_6 ?_
  refine J_bif_eq hx 38 dX1_ofLeg_9 rfl (fun h3 => ?_) (fun h3 => ?_)
  · replace h := neg h (bft h3)
    refine J_iconst hx (0 : Int32) dX1_ofLeg_38 rfl ?_
    obtain ⟨r4, hr5, h⟩ := bnd h
    refine J_rdV hx (kX1_ofNumber  hW hr5) ml_X1_101 lk_X1_ofNumber (ci := 0) rfl (hW.obj (rfl : kd 73 = 11) (by decide) (by decide)) (rest := []) rfl rfl (by decide) (by decide) (Nat.le_of_ble_eq_true rfl) (Nat.le_refl 0) (Nat.le_refl 0) dX1_ofLeg_39 ?_
    exact J_iretR hx hr dX1_ofLeg_42 (Nat.le_refl 0) (Nat.le_refl 0) (Option.some.inj h)
  · replace h := pos h h3
    refine J_al4 hx rfl rfl dX1_ofLeg_12 ?_
    refine g1_0 hx hW 1 (rfl : kd 73 = 11) fl_X1_9 rfl dX1_ofLeg_13 ?_
    refine J_il4 hx rfl rfl dX1_ofLeg_16 ?_
    obtain ⟨r6, hr7, h⟩ := bnd h
    refine J_rdV hx (kX6_hasVenue  hW hr7) ml_X1_34 lk_X6_hasVenue (ci := 5) rfl (hW.obj (rfl : kd 1 = 2) (by decide) (by decide)) (rest := [.ref (B.1 + 73)]) rfl rfl (by decide) (by decide) (Nat.le_of_ble_eq_true rfl) (Nat.le_refl 0) (Nat.le_refl 0) dX1_ofLeg_17 ?_
    refine J_bif_eq hx 38 dX1_ofLeg_20 rfl (fun h8 => ?_) (fun h8 => ?_)
    · replace h := neg h (bft h8)
      refine J_iconst hx (0 : Int32) dX1_ofLeg_38 rfl ?_
      obtain ⟨r9, hr10, h⟩ := bnd h
      refine J_rdV hx (kX1_ofNumber  hW hr10) ml_X1_101 lk_X1_ofNumber (ci := 0) rfl (hW.obj (rfl : kd 73 = 11) (by decide) (by decide)) (rest := []) rfl rfl (by decide) (by decide) (Nat.le_of_ble_eq_true rfl) (Nat.le_refl 0) (Nat.le_refl 0) dX1_ofLeg_39 ?_
      exact J_iretR hx hr dX1_ofLeg_42 (Nat.le_refl 0) (Nat.le_refl 0) (Option.some.inj h)
    · replace h := pos h h8
      refine J_al4 hx rfl rfl dX1_ofLeg_23 ?_
      refine g1_0 hx hW 1 (rfl : kd 73 = 11) fl_X1_9 rfl dX1_ofLeg_24 ?_
      refine J_il4 hx rfl rfl dX1_ofLeg_27 ?_
      obtain ⟨r11, hr12, h⟩ := bnd h
      refine J_rdV hx (kX6_isCourierOrNone  hW hr12) ml_X1_98 lk_X6_isCourierOrNone (ci := 5) rfl (hW.obj (rfl : kd 1 = 2) (by decide) (by decide)) (rest := [.ref (B.1 + 73)]) rfl rfl (by decide) (by decide) (Nat.le_of_ble_eq_true rfl) (Nat.le_refl 0) (Nat.le_refl 0) dX1_ofLeg_28 ?_
      refine J_bif_eq hx 38 dX1_ofLeg_31 rfl (fun h13 => ?_) (fun h13 => ?_)
      · replace h := neg h (bft h13)
        refine J_iconst hx (0 : Int32) dX1_ofLeg_38 rfl ?_
        obtain ⟨r14, hr15, h⟩ := bnd h
        refine J_rdV hx (kX1_ofNumber  hW hr15) ml_X1_101 lk_X1_ofNumber (ci := 0) rfl (hW.obj (rfl : kd 73 = 11) (by decide) (by decide)) (rest := []) rfl rfl (by decide) (by decide) (Nat.le_of_ble_eq_true rfl) (Nat.le_refl 0) (Nat.le_refl 0) dX1_ofLeg_39 ?_
        exact J_iretR hx hr dX1_ofLeg_42 (Nat.le_refl 0) (Nat.le_refl 0) (Option.some.inj h)
      · replace h := pos h h13
        refine J_iconst hx (1 : Int32) dX1_ofLeg_34 rfl ?_
        refine J_goto hx 39 dX1_ofLeg_35 rfl ?_
        obtain ⟨r16, hr17, h⟩ := bnd h
        refine J_rdV hx (kX1_ofNumber  hW hr17) ml_X1_101 lk_X1_ofNumber (ci := 0) rfl (hW.obj (rfl : kd 73 = 11) (by decide) (by decide)) (rest := []) rfl rfl (by decide) (by decide) (Nat.le_of_ble_eq_true rfl) (Nat.le_refl 0) (Nat.le_refl 0) dX1_ofLeg_39 ?_
        exact J_iretR hx hr dX1_ofLeg_42 (Nat.le_refl 0) (Nat.le_refl 0) (Option.some.inj h)
theorem dX1_reasonOfCrate_0 : decode cX1_reasonOfCrate 0 = .ok (.aload_n 0, 1) := by decide +kernel
theorem dX1_reasonOfCrate_1 : decode cX1_reasonOfCrate 1 = .ok (.getfield 9, 3) := by decide +kernel
theorem dX1_reasonOfCrate_4 : decode cX1_reasonOfCrate 4 = .ok (.getfield 57, 3) := by decide +kernel
theorem dX1_reasonOfCrate_7 : decode cX1_reasonOfCrate 7 = .ok (.iload_n 1, 1) := by decide +kernel
theorem dX1_reasonOfCrate_8 : decode cX1_reasonOfCrate 8 = .ok (.aaload, 1) := by decide +kernel
theorem dX1_reasonOfCrate_9 : decode cX1_reasonOfCrate 9 = .ok (.astore_n 3, 1) := by decide +kernel
theorem dX1_reasonOfCrate_10 : decode cX1_reasonOfCrate 10 = .ok (.aload_n 3, 1) := by decide +kernel
theorem dX1_reasonOfCrate_11 : decode cX1_reasonOfCrate 11 = .ok (.getfield 61, 3) := by decide +kernel
theorem dX1_reasonOfCrate_14 : decode cX1_reasonOfCrate 14 = .ok (.ifCond .eq 5, 3) := by decide +kernel
theorem dX1_reasonOfCrate_17 : decode cX1_reasonOfCrate 17 = .ok (.iconst 1, 1) := by decide +kernel
theorem dX1_reasonOfCrate_18 : decode cX1_reasonOfCrate 18 = .ok (.ireturn, 1) := by decide +kernel
theorem dX1_reasonOfCrate_19 : decode cX1_reasonOfCrate 19 = .ok (.aload_n 3, 1) := by decide +kernel
theorem dX1_reasonOfCrate_20 : decode cX1_reasonOfCrate 20 = .ok (.getfield 76, 3) := by decide +kernel
theorem dX1_reasonOfCrate_23 : decode cX1_reasonOfCrate 23 = .ok (.iconst (-1), 1) := by decide +kernel
theorem dX1_reasonOfCrate_24 : decode cX1_reasonOfCrate 24 = .ok (.if_icmp .eq 5, 3) := by decide +kernel
theorem dX1_reasonOfCrate_27 : decode cX1_reasonOfCrate 27 = .ok (.iconst 2, 1) := by decide +kernel
theorem dX1_reasonOfCrate_28 : decode cX1_reasonOfCrate 28 = .ok (.ireturn, 1) := by decide +kernel
theorem dX1_reasonOfCrate_29 : decode cX1_reasonOfCrate 29 = .ok (.aload_n 3, 1) := by decide +kernel
theorem dX1_reasonOfCrate_30 : decode cX1_reasonOfCrate 30 = .ok (.getfield 125, 3) := by decide +kernel
theorem dX1_reasonOfCrate_33 : decode cX1_reasonOfCrate 33 = .ok (.iconst (-1), 1) := by decide +kernel
theorem dX1_reasonOfCrate_34 : decode cX1_reasonOfCrate 34 = .ok (.if_icmp .eq 5, 3) := by decide +kernel
theorem dX1_reasonOfCrate_37 : decode cX1_reasonOfCrate 37 = .ok (.iconst 3, 1) := by decide +kernel
theorem dX1_reasonOfCrate_38 : decode cX1_reasonOfCrate 38 = .ok (.ireturn, 1) := by decide +kernel
theorem dX1_reasonOfCrate_39 : decode cX1_reasonOfCrate 39 = .ok (.aload_n 0, 1) := by decide +kernel
theorem dX1_reasonOfCrate_40 : decode cX1_reasonOfCrate 40 = .ok (.getfield 9, 3) := by decide +kernel
theorem dX1_reasonOfCrate_43 : decode cX1_reasonOfCrate 43 = .ok (.aload_n 3, 1) := by decide +kernel
theorem dX1_reasonOfCrate_44 : decode cX1_reasonOfCrate 44 = .ok (.getfield 128, 3) := by decide +kernel
theorem dX1_reasonOfCrate_47 : decode cX1_reasonOfCrate 47 = .ok (.iload_n 2, 1) := by decide +kernel
theorem dX1_reasonOfCrate_48 : decode cX1_reasonOfCrate 48 = .ok (.invokevirtual 129, 3) := by decide +kernel
theorem dX1_reasonOfCrate_51 : decode cX1_reasonOfCrate 51 = .ok (.ifCond .ne 7, 3) := by decide +kernel
theorem dX1_reasonOfCrate_54 : decode cX1_reasonOfCrate 54 = .ok (.iconst 4, 1) := by decide +kernel
theorem dX1_reasonOfCrate_55 : decode cX1_reasonOfCrate 55 = .ok (.goto 4, 3) := by decide +kernel
theorem dX1_reasonOfCrate_58 : decode cX1_reasonOfCrate 58 = .ok (.iconst 0, 1) := by decide +kernel
theorem dX1_reasonOfCrate_59 : decode cX1_reasonOfCrate 59 = .ok (.ireturn, 1) := by decide +kernel
def sX1_reasonOfCrate (w : Wl) (l1 : Int32) (l2 : Int32) : Option Int32 := (idx l1 12).bind (fun c1 => (if (w (29 + c1) 1) = 0 then (if (w (29 + c1) 2) = (-1 : Int32) then (if (w (29 + c1) 4) = (-1 : Int32) then (sX6_hoursBetween w (w (29 + c1) 3) l2).bind (fun r7 => (if r7 = 0 then some (4 : Int32) else some (0 : Int32))) else some (3 : Int32)) else some (2 : Int32)) else some (1 : Int32)))
theorem kX1_reasonOfCrate {l : Launch} {Γ : Gl} {B : Bs} {w : Wl} {G : Gf} {sz : Nat} {l1 : Int32} {l2 : Int32} {r : Int32} (hW : Wd Γ B w G) (h : sX1_reasonOfCrate w l1 l2 = some r) : CtR l Γ yX1_reasonOfCrate cX1_reasonOfCrate 4 (some .int) 2 [.ref (B.1 + 73), .int l1, .int l2] G sz (.int (r)) := by
  refine Ct.of rfl (Nat.le_of_ble_eq_true rfl) fun X hx hr hl hΓ hnm => ?_
  subst hl hΓ
  show J X 4 G sz 0 0 0 [some (.ref (B.1 + 73)), some (.int l1), some (.int l2), none] []
  unfold sX1_reasonOfCrate at h
  refine J_al4 hx rfl rfl dX1_reasonOfCrate_0 ?_
  refine g1_0 hx hW 1 (rfl : kd 73 = 11) fl_X1_9 rfl dX1_reasonOfCrate_1 ?_
  refine g6_10 hx hW 3 (rfl : kd 1 = 2) fl_X1_57 rfl dX1_reasonOfCrate_4 ?_
  refine J_il4 hx rfl rfl dX1_reasonOfCrate_7 ?_
  obtain ⟨c1, hc2, h⟩ := bnd h
  refine J_a4 hx hW (29 + c1) (rfl : kd 3 = 4) hc2 rfl dX1_reasonOfCrate_8 fun hk3 => ?_
  refine J_as4 hx rfl (by decide) (hc_of rfl) rfl dX1_reasonOfCrate_9 ?_
  refine J_al4 hx rfl rfl dX1_reasonOfCrate_10 ?_
  refine g3_1 hx hW hk3 fl_X1_61 dX1_reasonOfCrate_11 ?_
  refine J_if_eq hx 19 dX1_reasonOfCrate_14 rfl (fun h4 => ?_) (fun h4 => ?_)
  · replace h := pos h h4
    refine J_al4 hx rfl rfl dX1_reasonOfCrate_19 ?_
    refine g3_2 hx hW hk3 fl_X1_76 dX1_reasonOfCrate_20 ?_
    refine J_iconst hx (-1 : Int32) dX1_reasonOfCrate_23 rfl ?_
    refine J_icmp_eq hx 29 dX1_reasonOfCrate_24 rfl (fun h5 => ?_) (fun h5 => ?_)
    · replace h := pos h h5
      refine J_al4 hx rfl rfl dX1_reasonOfCrate_29 ?_
      refine g3_4 hx hW hk3 fl_X1_125 dX1_reasonOfCrate_30 ?_
      refine J_iconst hx (-1 : Int32) dX1_reasonOfCrate_33 rfl ?_
      refine J_icmp_eq hx 39 dX1_reasonOfCrate_34 rfl (fun h6 => ?_) (fun h6 => ?_)
      · replace h := pos h h6
        refine J_al4 hx rfl rfl dX1_reasonOfCrate_39 ?_
        refine g1_0 hx hW 1 (rfl : kd 73 = 11) fl_X1_9 rfl dX1_reasonOfCrate_40 ?_
        refine J_al4 hx rfl rfl dX1_reasonOfCrate_43 ?_
        refine g3_3 hx hW hk3 fl_X1_128 dX1_reasonOfCrate_44 ?_
        refine J_il4 hx rfl rfl dX1_reasonOfCrate_47 ?_
        obtain ⟨r7, hr8, h⟩ := bnd h
        refine J_rdV hx (kX6_hoursBetween  hW hr8) ml_X1_129 lk_X6_hoursBetween (ci := 5) rfl (hW.obj (rfl : kd 1 = 2) (by decide) (by decide)) (rest := []) rfl rfl (by decide) (by decide) (Nat.le_of_ble_eq_true rfl) (Nat.le_refl 0) (Nat.le_refl 0) dX1_reasonOfCrate_48 ?_
        refine J_if_ne hx 58 dX1_reasonOfCrate_51 rfl (fun h9 => ?_) (fun h9 => ?_)
        · replace h := neg h h9
          refine J_iconst hx (0 : Int32) dX1_reasonOfCrate_58 rfl ?_
          exact J_iretR hx hr dX1_reasonOfCrate_59 (Nat.le_refl 0) (Nat.le_refl 0) (Option.some.inj h)
        · replace h := pos h h9
          refine J_iconst hx (4 : Int32) dX1_reasonOfCrate_54 rfl ?_
          refine J_goto hx 59 dX1_reasonOfCrate_55 rfl ?_
          exact J_iretR hx hr dX1_reasonOfCrate_59 (Nat.le_refl 0) (Nat.le_refl 0) (Option.some.inj h)
      · replace h := neg h h6
        refine J_iconst hx (3 : Int32) dX1_reasonOfCrate_37 rfl ?_
        exact J_iretR hx hr dX1_reasonOfCrate_38 (Nat.le_refl 0) (Nat.le_refl 0) (Option.some.inj h)
    · replace h := neg h h5
      refine J_iconst hx (2 : Int32) dX1_reasonOfCrate_27 rfl ?_
      exact J_iretR hx hr dX1_reasonOfCrate_28 (Nat.le_refl 0) (Nat.le_refl 0) (Option.some.inj h)
  · replace h := neg h h4
    refine J_iconst hx (1 : Int32) dX1_reasonOfCrate_17 rfl ?_
    exact J_iretR hx hr dX1_reasonOfCrate_18 (Nat.le_refl 0) (Nat.le_refl 0) (Option.some.inj h)
theorem dX1_bars_0 : decode cX1_bars 0 = .ok (.aload_n 0, 1) := by decide +kernel
theorem dX1_bars_1 : decode cX1_bars 1 = .ok (.iconst 3, 1) := by decide +kernel
theorem dX1_bars_2 : decode cX1_bars 2 = .ok (.iaload, 1) := by decide +kernel
theorem dX1_bars_3 : decode cX1_bars 3 = .ok (.iload_n 1, 1) := by decide +kernel
theorem dX1_bars_4 : decode cX1_bars 4 = .ok (.ishr, 1) := by decide +kernel
theorem dX1_bars_5 : decode cX1_bars 5 = .ok (.iconst 1, 1) := by decide +kernel
theorem dX1_bars_6 : decode cX1_bars 6 = .ok (.iand, 1) := by decide +kernel
theorem dX1_bars_7 : decode cX1_bars 7 = .ok (.iconst 1, 1) := by decide +kernel
theorem dX1_bars_8 : decode cX1_bars 8 = .ok (.if_icmp .ne 7, 3) := by decide +kernel
theorem dX1_bars_11 : decode cX1_bars 11 = .ok (.iconst 1, 1) := by decide +kernel
theorem dX1_bars_12 : decode cX1_bars 12 = .ok (.goto 4, 3) := by decide +kernel
theorem dX1_bars_15 : decode cX1_bars 15 = .ok (.iconst 0, 1) := by decide +kernel
theorem dX1_bars_16 : decode cX1_bars 16 = .ok (.ireturn, 1) := by decide +kernel
def sX1_bars (w : Wl) (o0 : Nat) (l1 : Int32) : Option Bool := (if (((w o0 3) >>> (l1 &&& 31)) &&& (1 : Int32)) = (1 : Int32) then some true else some false)
theorem kX1_bars {l : Launch} {Γ : Gl} {B : Bs} {w : Wl} {G : Gf} {sz : Nat} {o0 : Nat} {l1 : Int32} {r : Bool} (ho0 : kd o0 = 104) (hW : Wd Γ B w G) (h : sX1_bars w o0 l1 = some r) : CtR l Γ yX1_bars cX1_bars 2 (some .boolean) 0 [.ref (B.1 + o0), .int l1] G sz (.int (bI r)) := by
  refine Ct.of rfl (Nat.le_of_ble_eq_true rfl) fun X hx hr hl hΓ hnm => ?_
  subst hl hΓ
  show J X 2 G sz 0 0 0 [some (.ref (B.1 + o0)), some (.int l1)] []
  unfold sX1_bars at h
  refine J_al4 hx rfl rfl dX1_bars_0 ?_
  refine J_iconst hx (3 : Int32) dX1_bars_1 rfl ?_
  refine J_iaW hx hW ho0 (by decide +kernel : idx (3 : Int32) 4 = some 3) dX1_bars_2 ?_
  refine J_il4 hx rfl rfl dX1_bars_3 ?_
  refine J_ishr hx dX1_bars_4 ?_
  refine J_iconst hx (1 : Int32) dX1_bars_5 rfl ?_
  refine J_iand hx dX1_bars_6 ?_
  refine J_iconst hx (1 : Int32) dX1_bars_7 rfl ?_
  refine J_icmp_ne hx 15 dX1_bars_8 rfl (fun h1 => ?_) (fun h1 => ?_)
  · replace h := neg h h1
    refine J_iconst hx (0 : Int32) dX1_bars_15 rfl ?_
    exact J_zretR hx hr dX1_bars_16 (Nat.le_refl 0) (Nat.le_refl 0) (show (0 : Int32) = bI _ from congrArg bI (Option.some.inj h))
  · replace h := pos h h1
    refine J_iconst hx (1 : Int32) dX1_bars_11 rfl ?_
    refine J_goto hx 16 dX1_bars_12 rfl ?_
    exact J_zretR hx hr dX1_bars_16 (Nat.le_refl 0) (Nat.le_refl 0) (show (1 : Int32) = bI _ from congrArg bI (Option.some.inj h))
theorem dX1_suits_0 : decode cX1_suits 0 = .ok (.aload_n 1, 1) := by decide +kernel
theorem dX1_suits_1 : decode cX1_suits 1 = .ok (.getfield 184, 3) := by decide +kernel
theorem dX1_suits_4 : decode cX1_suits 4 = .ok (.aload_n 0, 1) := by decide +kernel
theorem dX1_suits_5 : decode cX1_suits 5 = .ok (.iconst 0, 1) := by decide +kernel
theorem dX1_suits_6 : decode cX1_suits 6 = .ok (.iaload, 1) := by decide +kernel
theorem dX1_suits_7 : decode cX1_suits 7 = .ok (.if_icmp .lt 27, 3) := by decide +kernel
theorem dX1_suits_10 : decode cX1_suits 10 = .ok (.aload_n 1, 1) := by decide +kernel
theorem dX1_suits_11 : decode cX1_suits 11 = .ok (.getfield 184, 3) := by decide +kernel
theorem dX1_suits_14 : decode cX1_suits 14 = .ok (.aload_n 0, 1) := by decide +kernel
theorem dX1_suits_15 : decode cX1_suits 15 = .ok (.iconst 1, 1) := by decide +kernel
theorem dX1_suits_16 : decode cX1_suits 16 = .ok (.iaload, 1) := by decide +kernel
theorem dX1_suits_17 : decode cX1_suits 17 = .ok (.if_icmp .gt 17, 3) := by decide +kernel
theorem dX1_suits_20 : decode cX1_suits 20 = .ok (.aload_n 1, 1) := by decide +kernel
theorem dX1_suits_21 : decode cX1_suits 21 = .ok (.getfield 187, 3) := by decide +kernel
theorem dX1_suits_24 : decode cX1_suits 24 = .ok (.aload_n 0, 1) := by decide +kernel
theorem dX1_suits_25 : decode cX1_suits 25 = .ok (.iconst 2, 1) := by decide +kernel
theorem dX1_suits_26 : decode cX1_suits 26 = .ok (.iaload, 1) := by decide +kernel
theorem dX1_suits_27 : decode cX1_suits 27 = .ok (.if_icmp .gt 7, 3) := by decide +kernel
theorem dX1_suits_30 : decode cX1_suits 30 = .ok (.iconst 1, 1) := by decide +kernel
theorem dX1_suits_31 : decode cX1_suits 31 = .ok (.goto 4, 3) := by decide +kernel
theorem dX1_suits_34 : decode cX1_suits 34 = .ok (.iconst 0, 1) := by decide +kernel
theorem dX1_suits_35 : decode cX1_suits 35 = .ok (.ireturn, 1) := by decide +kernel
def sX1_suits (w : Wl) (o0 : Nat) (o1 : Nat) : Option Bool := (if (w o1 0) < (w o0 0) then some false else (if (w o0 1) < (w o1 0) then some false else (if (w o0 2) < (w o1 1) then some false else some true)))
theorem kX1_suits {l : Launch} {Γ : Gl} {B : Bs} {w : Wl} {G : Gf} {sz : Nat} {o0 : Nat} {o1 : Nat} {r : Bool} (ho0 : kd o0 = 104) (ho1 : kd o1 = 8) (hW : Wd Γ B w G) (h : sX1_suits w o0 o1 = some r) : CtR l Γ yX1_suits cX1_suits 2 (some .boolean) 0 [.ref (B.1 + o0), .ref (B.1 + o1)] G sz (.int (bI r)) := by
  refine Ct.of rfl (Nat.le_of_ble_eq_true rfl) fun X hx hr hl hΓ hnm => ?_
  subst hl hΓ
  show J X 2 G sz 0 0 0 [some (.ref (B.1 + o0)), some (.ref (B.1 + o1))] []
  unfold sX1_suits at h
  refine J_al4 hx rfl rfl dX1_suits_0 ?_
  refine g9_0 hx hW ho1 fl_X1_184 dX1_suits_1 ?_
  refine J_al4 hx rfl rfl dX1_suits_4 ?_
  refine J_iconst hx (0 : Int32) dX1_suits_5 rfl ?_
  refine J_iaW hx hW ho0 (by decide +kernel : idx (0 : Int32) 4 = some 0) dX1_suits_6 ?_
  refine J_icmp_lt hx 34 dX1_suits_7 rfl (fun h1 => ?_) (fun h1 => ?_)
  · replace h := pos h h1
    refine J_iconst hx (0 : Int32) dX1_suits_34 rfl ?_
    exact J_zretR hx hr dX1_suits_35 (Nat.le_refl 0) (Nat.le_refl 0) (show (0 : Int32) = bI _ from congrArg bI (Option.some.inj h))
  · replace h := neg h h1
    refine J_al4 hx rfl rfl dX1_suits_10 ?_
    refine g9_0 hx hW ho1 fl_X1_184 dX1_suits_11 ?_
    refine J_al4 hx rfl rfl dX1_suits_14 ?_
    refine J_iconst hx (1 : Int32) dX1_suits_15 rfl ?_
    refine J_iaW hx hW ho0 (by decide +kernel : idx (1 : Int32) 4 = some 1) dX1_suits_16 ?_
    refine J_icmp_gt hx 34 dX1_suits_17 rfl (fun h2 => ?_) (fun h2 => ?_)
    · replace h := pos h h2
      refine J_iconst hx (0 : Int32) dX1_suits_34 rfl ?_
      exact J_zretR hx hr dX1_suits_35 (Nat.le_refl 0) (Nat.le_refl 0) (show (0 : Int32) = bI _ from congrArg bI (Option.some.inj h))
    · replace h := neg h h2
      refine J_al4 hx rfl rfl dX1_suits_20 ?_
      refine g9_1 hx hW ho1 fl_X1_187 dX1_suits_21 ?_
      refine J_al4 hx rfl rfl dX1_suits_24 ?_
      refine J_iconst hx (2 : Int32) dX1_suits_25 rfl ?_
      refine J_iaW hx hW ho0 (by decide +kernel : idx (2 : Int32) 4 = some 2) dX1_suits_26 ?_
      refine J_icmp_gt hx 34 dX1_suits_27 rfl (fun h3 => ?_) (fun h3 => ?_)
      · replace h := pos h h3
        refine J_iconst hx (0 : Int32) dX1_suits_34 rfl ?_
        exact J_zretR hx hr dX1_suits_35 (Nat.le_refl 0) (Nat.le_refl 0) (show (0 : Int32) = bI _ from congrArg bI (Option.some.inj h))
      · replace h := neg h h3
        refine J_iconst hx (1 : Int32) dX1_suits_30 rfl ?_
        refine J_goto hx 35 dX1_suits_31 rfl ?_
        exact J_zretR hx hr dX1_suits_35 (Nat.le_refl 0) (Nat.le_refl 0) (show (1 : Int32) = bI _ from congrArg bI (Option.some.inj h))
theorem dX1_reasonOfWorks_0 : decode cX1_reasonOfWorks 0 = .ok (.iconst 0, 1) := by decide +kernel
theorem dX1_reasonOfWorks_1 : decode cX1_reasonOfWorks 1 = .ok (.istore_n 3, 1) := by decide +kernel
theorem dX1_reasonOfWorks_2 : decode cX1_reasonOfWorks 2 = .ok (.iconst 0, 1) := by decide +kernel
theorem dX1_reasonOfWorks_3 : decode cX1_reasonOfWorks 3 = .ok (.istore 4, 2) := by decide +kernel
theorem dX1_reasonOfWorks_5 : decode cX1_reasonOfWorks 5 = .ok (.iconst 0, 1) := by decide +kernel
theorem dX1_reasonOfWorks_6 : decode cX1_reasonOfWorks 6 = .ok (.istore 5, 2) := by decide +kernel
theorem dX1_reasonOfWorks_8 : decode cX1_reasonOfWorks 8 = .ok (.iconst 0, 1) := by decide +kernel
theorem dX1_reasonOfWorks_9 : decode cX1_reasonOfWorks 9 = .ok (.istore 6, 2) := by decide +kernel
theorem dX1_reasonOfWorks_11 : decode cX1_reasonOfWorks 11 = .ok (.iload 6, 2) := by decide +kernel
theorem dX1_reasonOfWorks_13 : decode cX1_reasonOfWorks 13 = .ok (.aload_n 0, 1) := by decide +kernel
theorem dX1_reasonOfWorks_14 : decode cX1_reasonOfWorks 14 = .ok (.getfield 9, 3) := by decide +kernel
theorem dX1_reasonOfWorks_17 : decode cX1_reasonOfWorks 17 = .ok (.getfield 48, 3) := by decide +kernel
theorem dX1_reasonOfWorks_20 : decode cX1_reasonOfWorks 20 = .ok (.if_icmp .ge 127, 3) := by decide +kernel
theorem dX1_reasonOfWorks_23 : decode cX1_reasonOfWorks 23 = .ok (.aload_n 0, 1) := by decide +kernel
theorem dX1_reasonOfWorks_24 : decode cX1_reasonOfWorks 24 = .ok (.getfield 9, 3) := by decide +kernel
theorem dX1_reasonOfWorks_27 : decode cX1_reasonOfWorks 27 = .ok (.getfield 82, 3) := by decide +kernel
theorem dX1_reasonOfWorks_30 : decode cX1_reasonOfWorks 30 = .ok (.iload 6, 2) := by decide +kernel
theorem dX1_reasonOfWorks_32 : decode cX1_reasonOfWorks 32 = .ok (.aaload, 1) := by decide +kernel
theorem dX1_reasonOfWorks_33 : decode cX1_reasonOfWorks 33 = .ok (.astore 7, 2) := by decide +kernel
theorem dX1_reasonOfWorks_35 : decode cX1_reasonOfWorks 35 = .ok (.aload_n 0, 1) := by decide +kernel
theorem dX1_reasonOfWorks_36 : decode cX1_reasonOfWorks 36 = .ok (.getfield 9, 3) := by decide +kernel
theorem dX1_reasonOfWorks_39 : decode cX1_reasonOfWorks 39 = .ok (.aload 7, 2) := by decide +kernel
theorem dX1_reasonOfWorks_41 : decode cX1_reasonOfWorks 41 = .ok (.getfield 86, 3) := by decide +kernel
theorem dX1_reasonOfWorks_44 : decode cX1_reasonOfWorks 44 = .ok (.iload_n 1, 1) := by decide +kernel
theorem dX1_reasonOfWorks_45 : decode cX1_reasonOfWorks 45 = .ok (.invokevirtual 132, 3) := by decide +kernel
theorem dX1_reasonOfWorks_48 : decode cX1_reasonOfWorks 48 = .ok (.ifCond .eq 93, 3) := by decide +kernel
theorem dX1_reasonOfWorks_51 : decode cX1_reasonOfWorks 51 = .ok (.iload_n 3, 1) := by decide +kernel
theorem dX1_reasonOfWorks_52 : decode cX1_reasonOfWorks 52 = .ok (.ifCond .ne 11, 3) := by decide +kernel
theorem dX1_reasonOfWorks_55 : decode cX1_reasonOfWorks 55 = .ok (.aload 7, 2) := by decide +kernel
theorem dX1_reasonOfWorks_57 : decode cX1_reasonOfWorks 57 = .ok (.getfield 135, 3) := by decide +kernel
theorem dX1_reasonOfWorks_60 : decode cX1_reasonOfWorks 60 = .ok (.ifCond .ne 7, 3) := by decide +kernel
theorem dX1_reasonOfWorks_63 : decode cX1_reasonOfWorks 63 = .ok (.iconst 1, 1) := by decide +kernel
theorem dX1_reasonOfWorks_64 : decode cX1_reasonOfWorks 64 = .ok (.goto 4, 3) := by decide +kernel
theorem dX1_reasonOfWorks_67 : decode cX1_reasonOfWorks 67 = .ok (.iconst 0, 1) := by decide +kernel
theorem dX1_reasonOfWorks_68 : decode cX1_reasonOfWorks 68 = .ok (.istore_n 3, 1) := by decide +kernel
theorem dX1_reasonOfWorks_69 : decode cX1_reasonOfWorks 69 = .ok (.iload 4, 2) := by decide +kernel
theorem dX1_reasonOfWorks_71 : decode cX1_reasonOfWorks 71 = .ok (.ifCond .ne 23, 3) := by decide +kernel
theorem dX1_reasonOfWorks_74 : decode cX1_reasonOfWorks 74 = .ok (.aload_n 0, 1) := by decide +kernel
theorem dX1_reasonOfWorks_75 : decode cX1_reasonOfWorks 75 = .ok (.getfield 9, 3) := by decide +kernel
theorem dX1_reasonOfWorks_78 : decode cX1_reasonOfWorks 78 = .ok (.getfield 138, 3) := by decide +kernel
theorem dX1_reasonOfWorks_81 : decode cX1_reasonOfWorks 81 = .ok (.aload 7, 2) := by decide +kernel
theorem dX1_reasonOfWorks_83 : decode cX1_reasonOfWorks 83 = .ok (.getfield 142, 3) := by decide +kernel
theorem dX1_reasonOfWorks_86 : decode cX1_reasonOfWorks 86 = .ok (.aaload, 1) := by decide +kernel
theorem dX1_reasonOfWorks_87 : decode cX1_reasonOfWorks 87 = .ok (.iload_n 2, 1) := by decide +kernel
theorem dX1_reasonOfWorks_88 : decode cX1_reasonOfWorks 88 = .ok (.invokestatic 145, 3) := by decide +kernel
theorem dX1_reasonOfWorks_91 : decode cX1_reasonOfWorks 91 = .ok (.ifCond .eq 7, 3) := by decide +kernel
theorem dX1_reasonOfWorks_94 : decode cX1_reasonOfWorks 94 = .ok (.iconst 1, 1) := by decide +kernel
theorem dX1_reasonOfWorks_95 : decode cX1_reasonOfWorks 95 = .ok (.goto 4, 3) := by decide +kernel
theorem dX1_reasonOfWorks_98 : decode cX1_reasonOfWorks 98 = .ok (.iconst 0, 1) := by decide +kernel
theorem dX1_reasonOfWorks_99 : decode cX1_reasonOfWorks 99 = .ok (.istore 4, 2) := by decide +kernel
theorem dX1_reasonOfWorks_101 : decode cX1_reasonOfWorks 101 = .ok (.iload 5, 2) := by decide +kernel
theorem dX1_reasonOfWorks_103 : decode cX1_reasonOfWorks 103 = .ok (.ifCond .ne 31, 3) := by decide +kernel
theorem dX1_reasonOfWorks_106 : decode cX1_reasonOfWorks 106 = .ok (.aload_n 0, 1) := by decide +kernel
theorem dX1_reasonOfWorks_107 : decode cX1_reasonOfWorks 107 = .ok (.getfield 9, 3) := by decide +kernel
theorem dX1_reasonOfWorks_110 : decode cX1_reasonOfWorks 110 = .ok (.getfield 138, 3) := by decide +kernel
theorem dX1_reasonOfWorks_113 : decode cX1_reasonOfWorks 113 = .ok (.aload 7, 2) := by decide +kernel
theorem dX1_reasonOfWorks_115 : decode cX1_reasonOfWorks 115 = .ok (.getfield 142, 3) := by decide +kernel
theorem dX1_reasonOfWorks_118 : decode cX1_reasonOfWorks 118 = .ok (.aaload, 1) := by decide +kernel
theorem dX1_reasonOfWorks_119 : decode cX1_reasonOfWorks 119 = .ok (.aload_n 0, 1) := by decide +kernel
theorem dX1_reasonOfWorks_120 : decode cX1_reasonOfWorks 120 = .ok (.getfield 9, 3) := by decide +kernel
theorem dX1_reasonOfWorks_123 : decode cX1_reasonOfWorks 123 = .ok (.getfield 149, 3) := by decide +kernel
theorem dX1_reasonOfWorks_126 : decode cX1_reasonOfWorks 126 = .ok (.iload_n 2, 1) := by decide +kernel
theorem dX1_reasonOfWorks_127 : decode cX1_reasonOfWorks 127 = .ok (.aaload, 1) := by decide +kernel
theorem dX1_reasonOfWorks_128 : decode cX1_reasonOfWorks 128 = .ok (.invokestatic 153, 3) := by decide +kernel
theorem dX1_reasonOfWorks_131 : decode cX1_reasonOfWorks 131 = .ok (.ifCond .ne 7, 3) := by decide +kernel
theorem dX1_reasonOfWorks_134 : decode cX1_reasonOfWorks 134 = .ok (.iconst 1, 1) := by decide +kernel
theorem dX1_reasonOfWorks_135 : decode cX1_reasonOfWorks 135 = .ok (.goto 4, 3) := by decide +kernel
theorem dX1_reasonOfWorks_138 : decode cX1_reasonOfWorks 138 = .ok (.iconst 0, 1) := by decide +kernel
theorem dX1_reasonOfWorks_139 : decode cX1_reasonOfWorks 139 = .ok (.istore 5, 2) := by decide +kernel
theorem dX1_reasonOfWorks_141 : decode cX1_reasonOfWorks 141 = .ok (.iinc 6 1, 3) := by decide +kernel
theorem dX1_reasonOfWorks_144 : decode cX1_reasonOfWorks 144 = .ok (.goto (-133), 3) := by decide +kernel
theorem dX1_reasonOfWorks_147 : decode cX1_reasonOfWorks 147 = .ok (.iload_n 3, 1) := by decide +kernel
theorem dX1_reasonOfWorks_148 : decode cX1_reasonOfWorks 148 = .ok (.ifCond .eq 5, 3) := by decide +kernel
theorem dX1_reasonOfWorks_151 : decode cX1_reasonOfWorks 151 = .ok (.iconst 5, 1) := by decide +kernel
theorem dX1_reasonOfWorks_152 : decode cX1_reasonOfWorks 152 = .ok (.ireturn, 1) := by decide +kernel
theorem dX1_reasonOfWorks_153 : decode cX1_reasonOfWorks 153 = .ok (.iload 4, 2) := by decide +kernel
theorem dX1_reasonOfWorks_155 : decode cX1_reasonOfWorks 155 = .ok (.ifCond .eq 6, 3) := by decide +kernel
theorem dX1_reasonOfWorks_158 : decode cX1_reasonOfWorks 158 = .ok (.bipush 6, 2) := by decide +kernel
theorem dX1_reasonOfWorks_160 : decode cX1_reasonOfWorks 160 = .ok (.ireturn, 1) := by decide +kernel
theorem dX1_reasonOfWorks_161 : decode cX1_reasonOfWorks 161 = .ok (.iload 5, 2) := by decide +kernel
theorem dX1_reasonOfWorks_163 : decode cX1_reasonOfWorks 163 = .ok (.ifCond .eq 8, 3) := by decide +kernel
theorem dX1_reasonOfWorks_166 : decode cX1_reasonOfWorks 166 = .ok (.bipush 7, 2) := by decide +kernel
theorem dX1_reasonOfWorks_168 : decode cX1_reasonOfWorks 168 = .ok (.goto 4, 3) := by decide +kernel
theorem dX1_reasonOfWorks_171 : decode cX1_reasonOfWorks 171 = .ok (.iconst 0, 1) := by decide +kernel
theorem dX1_reasonOfWorks_172 : decode cX1_reasonOfWorks 172 = .ok (.ireturn, 1) := by decide +kernel
def sX1_reasonOfWorks_99 (k11 : Wl → Int32 → Int32 → Int32 → Int32 → Int32 → Int32 → Option Int32) (w : Wl) (l1 : Int32) (l2 : Int32) (l3 : Int32) (l5 : Int32) (l6 : Int32) (o7 : Nat) (s0 : Int32) : Option Int32 := (if l5 = 0 then (idx (w o7 0) 6).bind (fun c2 => (idx l2 8).bind (fun c5 => (sX1_suits w (7 + c2) (13 + 2 * c5)).bind (fun r8 => (if r8 = true then k11 w l1 l2 l3 s0 (0 : Int32) (l6 + 1) else k11 w l1 l2 l3 s0 (1 : Int32) (l6 + 1))))) else k11 w l1 l2 l3 s0 (1 : Int32) (l6 + 1))
theorem tX1_reasonOfWorks_99 {X : Cx} {B : Bs} {sz : Nat} {G : Gf} {r : Int32} (hx : Fx X cX1_reasonOfWorks 8 RX1 2 0 0) (hr : Rt X (some .int) 0 0 (RdΨ (.int (r)) G sz)) (k11 : Wl → Int32 → Int32 → Int32 → Int32 → Int32 → Int32 → Option Int32) (hk11 : ∀ (w : Wl) (l1 : Int32) (l2 : Int32) (l3 : Int32) (l4 : Int32) (l5 : Int32) (l6 : Int32) (hW : Wd (xΓ X) B w G) (h : k11 w l1 l2 l3 l4 l5 l6 = some r), J X 8 G sz 0 0 11 [some (.ref (B.1 + 73)), some (.int l1), some (.int l2), some (.int l3), some (.int l4), some (.int l5), some (.int l6), none] []) : ∀ (w : Wl) (l1 : Int32) (l2 : Int32) (l3 : Int32) (l5 : Int32) (l6 : Int32) (o7 : Nat) (s0 : Int32) (ho7 : kd o7 = 10) (hW : Wd (xΓ X) B w G) (h : sX1_reasonOfWorks_99 k11  w l1 l2 l3 l5 l6 o7 s0 = some r), J X 8 G sz 0 0 99 [some (.ref (B.1 + 73)), some (.int l1), some (.int l2), some (.int l3), none, some (.int l5), some (.int l6), some (.ref (B.1 + o7))] [.int s0] := by
  intro w l1 l2 l3 l5 l6 o7 s0 ho7 hW h
  unfold sX1_reasonOfWorks_99 at h
  refine J_is hx (by decide) (hc_of rfl) rfl dX1_reasonOfWorks_99 ?_
  refine J_il hx rfl dX1_reasonOfWorks_101 ?_
  refine J_if_ne hx 134 dX1_reasonOfWorks_103 rfl (fun h1 => ?_) (fun h1 => ?_)
  · replace h := neg h h1
    refine J_iconst hx (1 : Int32) dX1_reasonOfWorks_134 rfl ?_
    refine J_goto hx 139 dX1_reasonOfWorks_135 rfl ?_
    refine J_is hx (by decide) (hc_of rfl) rfl dX1_reasonOfWorks_139 ?_
    refine J_iinc hx (v' := (l6 + 1)) rfl rfl (by decide) (hc_of rfl) rfl dX1_reasonOfWorks_141 ?_
    refine J_goto hx 11 dX1_reasonOfWorks_144 rfl ?_
    refine J_lw (ls' := [some (.ref (B.1 + 73)), some (.int l1), some (.int l2), some (.int l3), some (.int s0), some (.int (1 : Int32)), some (.int (l6 + 1)), none]) (lwS (lwS (lwS (lwS (lwS (lwS (lwS (lwN lwZ)))))))) ?_
    exact hk11 _ _ _ _ _ _ _  hW h
  · replace h := pos h h1
    refine J_al4 hx rfl rfl dX1_reasonOfWorks_106 ?_
    refine g1_0 hx hW 1 (rfl : kd 73 = 11) fl_X1_9 rfl dX1_reasonOfWorks_107 ?_
    refine g6_13 hx hW 6 (rfl : kd 1 = 2) fl_X1_138 rfl dX1_reasonOfWorks_110 ?_
    refine J_al hx rfl dX1_reasonOfWorks_113 ?_
    refine g11_0 hx hW ho7 fl_X1_142 dX1_reasonOfWorks_115 ?_
    obtain ⟨c2, hc3, h⟩ := bnd h
    refine J_a7 hx hW (7 + c2) (rfl : kd 6 = 7) hc3 rfl dX1_reasonOfWorks_118 fun hk4 => ?_
    refine J_al4 hx rfl rfl dX1_reasonOfWorks_119 ?_
    refine g1_0 hx hW 1 (rfl : kd 73 = 11) fl_X1_9 rfl dX1_reasonOfWorks_120 ?_
    refine g6_9 hx hW 2 (rfl : kd 1 = 2) fl_X1_149 rfl dX1_reasonOfWorks_123 ?_
    refine J_il4 hx rfl rfl dX1_reasonOfWorks_126 ?_
    obtain ⟨c5, hc6, h⟩ := bnd h
    refine J_a3 hx hW (13 + 2 * c5) (rfl : kd 2 = 3) hc6 rfl dX1_reasonOfWorks_127 fun hk7 => ?_
    obtain ⟨r8, hr9, h⟩ := bnd h
    refine J_rdS hx (kX1_suits hk4 hk7 hW hr9) ml_X1_153 lk_X1_suits (rest := []) rfl rfl (by decide) (by decide) (Nat.le_of_ble_eq_true rfl) (Nat.le_refl 0) (Nat.le_refl 0) dX1_reasonOfWorks_128 ?_
    refine J_bif_ne hx 138 dX1_reasonOfWorks_131 rfl (fun h10 => ?_) (fun h10 => ?_)
    · replace h := pos h h10
      refine J_iconst hx (0 : Int32) dX1_reasonOfWorks_138 rfl ?_
      refine J_is hx (by decide) (hc_of rfl) rfl dX1_reasonOfWorks_139 ?_
      refine J_iinc hx (v' := (l6 + 1)) rfl rfl (by decide) (hc_of rfl) rfl dX1_reasonOfWorks_141 ?_
      refine J_goto hx 11 dX1_reasonOfWorks_144 rfl ?_
      refine J_lw (ls' := [some (.ref (B.1 + 73)), some (.int l1), some (.int l2), some (.int l3), some (.int s0), some (.int (0 : Int32)), some (.int (l6 + 1)), none]) (lwS (lwS (lwS (lwS (lwS (lwS (lwS (lwN lwZ)))))))) ?_
      exact hk11 _ _ _ _ _ _ _  hW h
    · replace h := neg h (bft h10)
      refine J_iconst hx (1 : Int32) dX1_reasonOfWorks_134 rfl ?_
      refine J_goto hx 139 dX1_reasonOfWorks_135 rfl ?_
      refine J_is hx (by decide) (hc_of rfl) rfl dX1_reasonOfWorks_139 ?_
      refine J_iinc hx (v' := (l6 + 1)) rfl rfl (by decide) (hc_of rfl) rfl dX1_reasonOfWorks_141 ?_
      refine J_goto hx 11 dX1_reasonOfWorks_144 rfl ?_
      refine J_lw (ls' := [some (.ref (B.1 + 73)), some (.int l1), some (.int l2), some (.int l3), some (.int s0), some (.int (1 : Int32)), some (.int (l6 + 1)), none]) (lwS (lwS (lwS (lwS (lwS (lwS (lwS (lwN lwZ)))))))) ?_
      exact hk11 _ _ _ _ _ _ _  hW h
def sX1_reasonOfWorks_68 (k11 : Wl → Int32 → Int32 → Int32 → Int32 → Int32 → Int32 → Option Int32) (w : Wl) (l1 : Int32) (l2 : Int32) (l4 : Int32) (l5 : Int32) (l6 : Int32) (o7 : Nat) (s0 : Int32) : Option Int32 := (if l4 = 0 then (idx (w o7 0) 6).bind (fun c2 => (sX1_bars w (7 + c2) l2).bind (fun r5 => (if r5 = true then sX1_reasonOfWorks_99 k11 w l1 l2 s0 l5 l6 o7 (1 : Int32) else sX1_reasonOfWorks_99 k11 w l1 l2 s0 l5 l6 o7 (0 : Int32)))) else sX1_reasonOfWorks_99 k11 w l1 l2 s0 l5 l6 o7 (1 : Int32))
theorem tX1_reasonOfWorks_68 {X : Cx} {B : Bs} {sz : Nat} {G : Gf} {r : Int32} (hx : Fx X cX1_reasonOfWorks 8 RX1 2 0 0) (hr : Rt X (some .int) 0 0 (RdΨ (.int (r)) G sz)) (k11 : Wl → Int32 → Int32 → Int32 → Int32 → Int32 → Int32 → Option Int32) (hk11 : ∀ (w : Wl) (l1 : Int32) (l2 : Int32) (l3 : Int32) (l4 : Int32) (l5 : Int32) (l6 : Int32) (hW : Wd (xΓ X) B w G) (h : k11 w l1 l2 l3 l4 l5 l6 = some r), J X 8 G sz 0 0 11 [some (.ref (B.1 + 73)), some (.int l1), some (.int l2), some (.int l3), some (.int l4), some (.int l5), some (.int l6), none] []) : ∀ (w : Wl) (l1 : Int32) (l2 : Int32) (l4 : Int32) (l5 : Int32) (l6 : Int32) (o7 : Nat) (s0 : Int32) (ho7 : kd o7 = 10) (hW : Wd (xΓ X) B w G) (h : sX1_reasonOfWorks_68 k11  w l1 l2 l4 l5 l6 o7 s0 = some r), J X 8 G sz 0 0 68 [some (.ref (B.1 + 73)), some (.int l1), some (.int l2), none, some (.int l4), some (.int l5), some (.int l6), some (.ref (B.1 + o7))] [.int s0] := by
  intro w l1 l2 l4 l5 l6 o7 s0 ho7 hW h
  unfold sX1_reasonOfWorks_68 at h
  refine J_is4 hx rfl (by decide) (hc_of rfl) rfl dX1_reasonOfWorks_68 ?_
  refine J_il hx rfl dX1_reasonOfWorks_69 ?_
  refine J_if_ne hx 94 dX1_reasonOfWorks_71 rfl (fun h1 => ?_) (fun h1 => ?_)
  · replace h := neg h h1
    refine J_iconst hx (1 : Int32) dX1_reasonOfWorks_94 rfl ?_
    refine J_goto hx 99 dX1_reasonOfWorks_95 rfl ?_
    refine J_lw (ls' := [some (.ref (B.1 + 73)), some (.int l1), some (.int l2), some (.int s0), none, some (.int l5), some (.int l6), some (.ref (B.1 + o7))]) (lwS (lwS (lwS (lwS (lwN (lwS (lwS (lwS lwZ)))))))) ?_
    exact tX1_reasonOfWorks_99 hx hr _ hk11 _ _ _ _ _ _ _ _ ho7 hW h
  · replace h := pos h h1
    refine J_al4 hx rfl rfl dX1_reasonOfWorks_74 ?_
    refine g1_0 hx hW 1 (rfl : kd 73 = 11) fl_X1_9 rfl dX1_reasonOfWorks_75 ?_
    refine g6_13 hx hW 6 (rfl : kd 1 = 2) fl_X1_138 rfl dX1_reasonOfWorks_78 ?_
    refine J_al hx rfl dX1_reasonOfWorks_81 ?_
    refine g11_0 hx hW ho7 fl_X1_142 dX1_reasonOfWorks_83 ?_
    obtain ⟨c2, hc3, h⟩ := bnd h
    refine J_a7 hx hW (7 + c2) (rfl : kd 6 = 7) hc3 rfl dX1_reasonOfWorks_86 fun hk4 => ?_
    refine J_il4 hx rfl rfl dX1_reasonOfWorks_87 ?_
    obtain ⟨r5, hr6, h⟩ := bnd h
    refine J_rdS hx (kX1_bars hk4 hW hr6) ml_X1_145 lk_X1_bars (rest := []) rfl rfl (by decide) (by decide) (Nat.le_of_ble_eq_true rfl) (Nat.le_refl 0) (Nat.le_refl 0) dX1_reasonOfWorks_88 ?_
    refine J_bif_eq hx 98 dX1_reasonOfWorks_91 rfl (fun h7 => ?_) (fun h7 => ?_)
    · replace h := neg h (bft h7)
      refine J_iconst hx (0 : Int32) dX1_reasonOfWorks_98 rfl ?_
      refine J_lw (ls' := [some (.ref (B.1 + 73)), some (.int l1), some (.int l2), some (.int s0), none, some (.int l5), some (.int l6), some (.ref (B.1 + o7))]) (lwS (lwS (lwS (lwS (lwN (lwS (lwS (lwS lwZ)))))))) ?_
      exact tX1_reasonOfWorks_99 hx hr _ hk11 _ _ _ _ _ _ _ _ ho7 hW h
    · replace h := pos h h7
      refine J_iconst hx (1 : Int32) dX1_reasonOfWorks_94 rfl ?_
      refine J_goto hx 99 dX1_reasonOfWorks_95 rfl ?_
      refine J_lw (ls' := [some (.ref (B.1 + 73)), some (.int l1), some (.int l2), some (.int s0), none, some (.int l5), some (.int l6), some (.ref (B.1 + o7))]) (lwS (lwS (lwS (lwS (lwN (lwS (lwS (lwS lwZ)))))))) ?_
      exact tX1_reasonOfWorks_99 hx hr _ hk11 _ _ _ _ _ _ _ _ ho7 hW h
def sX1_reasonOfWorks_11 : Nat → Wl → Int32 → Int32 → Int32 → Int32 → Int32 → Int32 → Option Int32
  | 0, _, _, _, _, _, _, _ => none
  | n + 1, w, l1, l2, l3, l4, l5, l6 => (if (w 1 7) ≤ l6 then (if l3 = 0 then (if l4 = 0 then (if l5 = 0 then some (0 : Int32) else some (7 : Int32)) else some (6 : Int32)) else some (5 : Int32)) else (idx l6 16).bind (fun c5 => (sX6_isInOrBelow w (w (41 + 2 * c5) 4) l1).bind (fun r8 => (if r8 = true then (if l3 = 0 then (if (w (41 + 2 * c5) 2) = 0 then sX1_reasonOfWorks_68 (fun w l1 l2 l3 l4 l5 l6 => sX1_reasonOfWorks_11 n w l1 l2 l3 l4 l5 l6) w l1 l2 l4 l5 l6 (41 + 2 * c5) (1 : Int32) else sX1_reasonOfWorks_68 (fun w l1 l2 l3 l4 l5 l6 => sX1_reasonOfWorks_11 n w l1 l2 l3 l4 l5 l6) w l1 l2 l4 l5 l6 (41 + 2 * c5) (0 : Int32)) else sX1_reasonOfWorks_68 (fun w l1 l2 l3 l4 l5 l6 => sX1_reasonOfWorks_11 n w l1 l2 l3 l4 l5 l6) w l1 l2 l4 l5 l6 (41 + 2 * c5) (1 : Int32)) else sX1_reasonOfWorks_11 n w l1 l2 l3 l4 l5 (l6 + 1)))))
theorem tX1_reasonOfWorks_11 {X : Cx} {B : Bs} {sz : Nat} {G : Gf} {r : Int32} (hx : Fx X cX1_reasonOfWorks 8 RX1 2 0 0) (hr : Rt X (some .int) 0 0 (RdΨ (.int (r)) G sz)) : ∀ (n : Nat), ∀ (w : Wl) (l1 : Int32) (l2 : Int32) (l3 : Int32) (l4 : Int32) (l5 : Int32) (l6 : Int32) (hW : Wd (xΓ X) B w G) (h : sX1_reasonOfWorks_11 n w l1 l2 l3 l4 l5 l6 = some r), J X 8 G sz 0 0 11 [some (.ref (B.1 + 73)), some (.int l1), some (.int l2), some (.int l3), some (.int l4), some (.int l5), some (.int l6), none] [] := by
  intro n
  induction n with
  | zero => intro w l1 l2 l3 l4 l5 l6 hW h; rw [sX1_reasonOfWorks_11.eq_1] at h; cases h
  | succ n ih =>
    intro w l1 l2 l3 l4 l5 l6 hW h
    rw [sX1_reasonOfWorks_11.eq_2] at h
    refine J_il hx rfl dX1_reasonOfWorks_11 ?_
    refine J_al4 hx rfl rfl dX1_reasonOfWorks_13 ?_
    refine g1_0 hx hW 1 (rfl : kd 73 = 11) fl_X1_9 rfl dX1_reasonOfWorks_14 ?_
    refine g6_7 hx hW (rfl : kd 1 = 2) fl_X1_48 dX1_reasonOfWorks_17 ?_
    refine J_icmp_ge hx 147 dX1_reasonOfWorks_20 rfl (fun h1 => ?_) (fun h1 => ?_)
    · replace h := pos h h1
      refine J_il4 hx rfl rfl dX1_reasonOfWorks_147 ?_
      refine J_if_eq hx 153 dX1_reasonOfWorks_148 rfl (fun h2 => ?_) (fun h2 => ?_)
      · replace h := pos h h2
        refine J_il hx rfl dX1_reasonOfWorks_153 ?_
        refine J_if_eq hx 161 dX1_reasonOfWorks_155 rfl (fun h3 => ?_) (fun h3 => ?_)
        · replace h := pos h h3
          refine J_il hx rfl dX1_reasonOfWorks_161 ?_
          refine J_if_eq hx 171 dX1_reasonOfWorks_163 rfl (fun h4 => ?_) (fun h4 => ?_)
          · replace h := pos h h4
            refine J_iconst hx (0 : Int32) dX1_reasonOfWorks_171 rfl ?_
            exact J_iretR hx hr dX1_reasonOfWorks_172 (Nat.le_refl 0) (Nat.le_refl 0) (Option.some.inj h)
          · replace h := neg h h4
            refine J_bipush hx (7 : Int32) dX1_reasonOfWorks_166 rfl ?_
            refine J_goto hx 172 dX1_reasonOfWorks_168 rfl ?_
            exact J_iretR hx hr dX1_reasonOfWorks_172 (Nat.le_refl 0) (Nat.le_refl 0) (Option.some.inj h)
        · replace h := neg h h3
          refine J_bipush hx (6 : Int32) dX1_reasonOfWorks_158 rfl ?_
          exact J_iretR hx hr dX1_reasonOfWorks_160 (Nat.le_refl 0) (Nat.le_refl 0) (Option.some.inj h)
      · replace h := neg h h2
        refine J_iconst hx (5 : Int32) dX1_reasonOfWorks_151 rfl ?_
        exact J_iretR hx hr dX1_reasonOfWorks_152 (Nat.le_refl 0) (Nat.le_refl 0) (Option.some.inj h)
    · replace h := neg h h1
      refine J_al4 hx rfl rfl dX1_reasonOfWorks_23 ?_
      refine g1_0 hx hW 1 (rfl : kd 73 = 11) fl_X1_9 rfl dX1_reasonOfWorks_24 ?_
      refine g6_11 hx hW 4 (rfl : kd 1 = 2) fl_X1_82 rfl dX1_reasonOfWorks_27 ?_
      refine J_il hx rfl dX1_reasonOfWorks_30 ?_
      obtain ⟨c5, hc6, h⟩ := bnd h
      refine J_a5 hx hW (41 + 2 * c5) (rfl : kd 4 = 5) hc6 rfl dX1_reasonOfWorks_32 fun hk7 => ?_
      refine J_as hx (by decide) (hc_of rfl) rfl dX1_reasonOfWorks_33 ?_
      refine J_al4 hx rfl rfl dX1_reasonOfWorks_35 ?_
      refine g1_0 hx hW 1 (rfl : kd 73 = 11) fl_X1_9 rfl dX1_reasonOfWorks_36 ?_
      refine J_al hx rfl dX1_reasonOfWorks_39 ?_
      refine g11_4 hx hW hk7 fl_X1_86 dX1_reasonOfWorks_41 ?_
      refine J_il4 hx rfl rfl dX1_reasonOfWorks_44 ?_
      obtain ⟨r8, hr9, h⟩ := bnd h
      refine J_rdV hx (kX6_isInOrBelow  hW hr9) ml_X1_132 lk_X6_isInOrBelow (ci := 5) rfl (hW.obj (rfl : kd 1 = 2) (by decide) (by decide)) (rest := []) rfl rfl (by decide) (by decide) (Nat.le_of_ble_eq_true rfl) (Nat.le_refl 0) (Nat.le_refl 0) dX1_reasonOfWorks_45 ?_
      refine J_bif_eq hx 141 dX1_reasonOfWorks_48 rfl (fun h10 => ?_) (fun h10 => ?_)
      · replace h := neg h (bft h10)
        refine J_iinc hx (v' := (l6 + 1)) rfl rfl (by decide) (hc_of rfl) rfl dX1_reasonOfWorks_141 ?_
        refine J_goto hx 11 dX1_reasonOfWorks_144 rfl ?_
        refine J_lw (ls' := [some (.ref (B.1 + 73)), some (.int l1), some (.int l2), some (.int l3), some (.int l4), some (.int l5), some (.int (l6 + 1)), none]) (lwS (lwS (lwS (lwS (lwS (lwS (lwS (lwN lwZ)))))))) ?_
        exact ih _ _ _ _ _ _ _  hW h
      · replace h := pos h h10
        refine J_il4 hx rfl rfl dX1_reasonOfWorks_51 ?_
        refine J_if_ne hx 63 dX1_reasonOfWorks_52 rfl (fun h11 => ?_) (fun h11 => ?_)
        · replace h := neg h h11
          refine J_iconst hx (1 : Int32) dX1_reasonOfWorks_63 rfl ?_
          refine J_goto hx 68 dX1_reasonOfWorks_64 rfl ?_
          refine J_lw (ls' := [some (.ref (B.1 + 73)), some (.int l1), some (.int l2), none, some (.int l4), some (.int l5), some (.int l6), some (.ref (B.1 + (41 + 2 * c5)))]) (lwS (lwS (lwS (lwN (lwS (lwS (lwS (lwS lwZ)))))))) ?_
          exact tX1_reasonOfWorks_68 hx hr _ ih _ _ _ _ _ _ _ _ hk7 hW h
        · replace h := pos h h11
          refine J_al hx rfl dX1_reasonOfWorks_55 ?_
          refine g11_2 hx hW hk7 fl_X1_135 dX1_reasonOfWorks_57 ?_
          refine J_if_ne hx 67 dX1_reasonOfWorks_60 rfl (fun h12 => ?_) (fun h12 => ?_)
          · replace h := neg h h12
            refine J_iconst hx (0 : Int32) dX1_reasonOfWorks_67 rfl ?_
            refine J_lw (ls' := [some (.ref (B.1 + 73)), some (.int l1), some (.int l2), none, some (.int l4), some (.int l5), some (.int l6), some (.ref (B.1 + (41 + 2 * c5)))]) (lwS (lwS (lwS (lwN (lwS (lwS (lwS (lwS lwZ)))))))) ?_
            exact tX1_reasonOfWorks_68 hx hr _ ih _ _ _ _ _ _ _ _ hk7 hW h
          · replace h := pos h h12
            refine J_iconst hx (1 : Int32) dX1_reasonOfWorks_63 rfl ?_
            refine J_goto hx 68 dX1_reasonOfWorks_64 rfl ?_
            refine J_lw (ls' := [some (.ref (B.1 + 73)), some (.int l1), some (.int l2), none, some (.int l4), some (.int l5), some (.int l6), some (.ref (B.1 + (41 + 2 * c5)))]) (lwS (lwS (lwS (lwN (lwS (lwS (lwS (lwS lwZ)))))))) ?_
            exact tX1_reasonOfWorks_68 hx hr _ ih _ _ _ _ _ _ _ _ hk7 hW h
def sX1_reasonOfWorks (w : Wl) (l1 : Int32) (l2 : Int32) : Option Int32 := sX1_reasonOfWorks_11 FU w l1 l2 (0 : Int32) (0 : Int32) (0 : Int32) (0 : Int32)
theorem kX1_reasonOfWorks {l : Launch} {Γ : Gl} {B : Bs} {w : Wl} {G : Gf} {sz : Nat} {l1 : Int32} {l2 : Int32} {r : Int32} (hW : Wd Γ B w G) (h : sX1_reasonOfWorks w l1 l2 = some r) : CtR l Γ yX1_reasonOfWorks cX1_reasonOfWorks 8 (some .int) 2 [.ref (B.1 + 73), .int l1, .int l2] G sz (.int (r)) := by
  refine Ct.of rfl (Nat.le_of_ble_eq_true rfl) fun X hx hr hl hΓ hnm => ?_
  subst hl hΓ
  show J X 8 G sz 0 0 0 [some (.ref (B.1 + 73)), some (.int l1), some (.int l2), none, none, none, none, none] []
  unfold sX1_reasonOfWorks at h
  refine J_iconst hx (0 : Int32) dX1_reasonOfWorks_0 rfl ?_
  refine J_is4 hx rfl (by decide) (hc_of rfl) rfl dX1_reasonOfWorks_1 ?_
  refine J_iconst hx (0 : Int32) dX1_reasonOfWorks_2 rfl ?_
  refine J_is hx (by decide) (hc_of rfl) rfl dX1_reasonOfWorks_3 ?_
  refine J_iconst hx (0 : Int32) dX1_reasonOfWorks_5 rfl ?_
  refine J_is hx (by decide) (hc_of rfl) rfl dX1_reasonOfWorks_6 ?_
  refine J_iconst hx (0 : Int32) dX1_reasonOfWorks_8 rfl ?_
  refine J_is hx (by decide) (hc_of rfl) rfl dX1_reasonOfWorks_9 ?_
  exact tX1_reasonOfWorks_11 hx hr _ _ _ _ _ _ _ _  hW h
theorem dX1_isAboveCap_0 : decode cX1_isAboveCap 0 = .ok (.aload_n 0, 1) := by decide +kernel
theorem dX1_isAboveCap_1 : decode cX1_isAboveCap 1 = .ok (.getfield 9, 3) := by decide +kernel
theorem dX1_isAboveCap_4 : decode cX1_isAboveCap 4 = .ok (.iload_n 1, 1) := by decide +kernel
theorem dX1_isAboveCap_5 : decode cX1_isAboveCap 5 = .ok (.invokevirtual 157, 3) := by decide +kernel
theorem dX1_isAboveCap_8 : decode cX1_isAboveCap 8 = .ok (.aload_n 0, 1) := by decide +kernel
theorem dX1_isAboveCap_9 : decode cX1_isAboveCap 9 = .ok (.getfield 9, 3) := by decide +kernel
theorem dX1_isAboveCap_12 : decode cX1_isAboveCap 12 = .ok (.iload_n 2, 1) := by decide +kernel
theorem dX1_isAboveCap_13 : decode cX1_isAboveCap 13 = .ok (.invokevirtual 160, 3) := by decide +kernel
theorem dX1_isAboveCap_16 : decode cX1_isAboveCap 16 = .ok (.iadd, 1) := by decide +kernel
theorem dX1_isAboveCap_17 : decode cX1_isAboveCap 17 = .ok (.aload_n 0, 1) := by decide +kernel
theorem dX1_isAboveCap_18 : decode cX1_isAboveCap 18 = .ok (.getfield 9, 3) := by decide +kernel
theorem dX1_isAboveCap_21 : decode cX1_isAboveCap 21 = .ok (.iload_n 2, 1) := by decide +kernel
theorem dX1_isAboveCap_22 : decode cX1_isAboveCap 22 = .ok (.invokevirtual 163, 3) := by decide +kernel
theorem dX1_isAboveCap_25 : decode cX1_isAboveCap 25 = .ok (.iadd, 1) := by decide +kernel
theorem dX1_isAboveCap_26 : decode cX1_isAboveCap 26 = .ok (.istore_n 3, 1) := by decide +kernel
theorem dX1_isAboveCap_27 : decode cX1_isAboveCap 27 = .ok (.iload_n 3, 1) := by decide +kernel
theorem dX1_isAboveCap_28 : decode cX1_isAboveCap 28 = .ok (.aload_n 0, 1) := by decide +kernel
theorem dX1_isAboveCap_29 : decode cX1_isAboveCap 29 = .ok (.getfield 9, 3) := by decide +kernel
theorem dX1_isAboveCap_32 : decode cX1_isAboveCap 32 = .ok (.getfield 149, 3) := by decide +kernel
theorem dX1_isAboveCap_35 : decode cX1_isAboveCap 35 = .ok (.iload_n 2, 1) := by decide +kernel
theorem dX1_isAboveCap_36 : decode cX1_isAboveCap 36 = .ok (.aaload, 1) := by decide +kernel
theorem dX1_isAboveCap_37 : decode cX1_isAboveCap 37 = .ok (.getfield 166, 3) := by decide +kernel
theorem dX1_isAboveCap_40 : decode cX1_isAboveCap 40 = .ok (.if_icmp .le 7, 3) := by decide +kernel
theorem dX1_isAboveCap_43 : decode cX1_isAboveCap 43 = .ok (.iconst 1, 1) := by decide +kernel
theorem dX1_isAboveCap_44 : decode cX1_isAboveCap 44 = .ok (.goto 4, 3) := by decide +kernel
theorem dX1_isAboveCap_47 : decode cX1_isAboveCap 47 = .ok (.iconst 0, 1) := by decide +kernel
theorem dX1_isAboveCap_48 : decode cX1_isAboveCap 48 = .ok (.ireturn, 1) := by decide +kernel
def sX1_isAboveCap (w : Wl) (l1 : Int32) (l2 : Int32) : Option Bool := (sX6_valueInOrBelow w l1).bind (fun r1 => (sX6_valueAt w l2).bind (fun r3 => (sX6_valueOnTheWayTo w l2).bind (fun r5 => (idx l2 8).bind (fun c7 => (if ((r1 + r3) + r5) ≤ (w (13 + 2 * c7) 3) then some false else some true)))))
theorem kX1_isAboveCap {l : Launch} {Γ : Gl} {B : Bs} {w : Wl} {G : Gf} {sz : Nat} {l1 : Int32} {l2 : Int32} {r : Bool} (hW : Wd Γ B w G) (h : sX1_isAboveCap w l1 l2 = some r) : CtR l Γ yX1_isAboveCap cX1_isAboveCap 4 (some .boolean) 3 [.ref (B.1 + 73), .int l1, .int l2] G sz (.int (bI r)) := by
  refine Ct.of rfl (Nat.le_of_ble_eq_true rfl) fun X hx hr hl hΓ hnm => ?_
  subst hl hΓ
  show J X 4 G sz 0 0 0 [some (.ref (B.1 + 73)), some (.int l1), some (.int l2), none] []
  unfold sX1_isAboveCap at h
  refine J_al4 hx rfl rfl dX1_isAboveCap_0 ?_
  refine g1_0 hx hW 1 (rfl : kd 73 = 11) fl_X1_9 rfl dX1_isAboveCap_1 ?_
  refine J_il4 hx rfl rfl dX1_isAboveCap_4 ?_
  obtain ⟨r1, hr2, h⟩ := bnd h
  refine J_rdV hx (kX6_valueInOrBelow  hW hr2) ml_X1_157 lk_X6_valueInOrBelow (ci := 5) rfl (hW.obj (rfl : kd 1 = 2) (by decide) (by decide)) (rest := []) rfl rfl (by decide) (by decide) (Nat.le_of_ble_eq_true rfl) (Nat.le_refl 0) (Nat.le_refl 0) dX1_isAboveCap_5 ?_
  refine J_al4 hx rfl rfl dX1_isAboveCap_8 ?_
  refine g1_0 hx hW 1 (rfl : kd 73 = 11) fl_X1_9 rfl dX1_isAboveCap_9 ?_
  refine J_il4 hx rfl rfl dX1_isAboveCap_12 ?_
  obtain ⟨r3, hr4, h⟩ := bnd h
  refine J_rdV hx (kX6_valueAt  hW hr4) ml_X1_160 lk_X6_valueAt (ci := 5) rfl (hW.obj (rfl : kd 1 = 2) (by decide) (by decide)) (rest := [.int r1]) rfl rfl (by decide) (by decide) (Nat.le_of_ble_eq_true rfl) (Nat.le_refl 0) (Nat.le_refl 0) dX1_isAboveCap_13 ?_
  refine J_iadd hx dX1_isAboveCap_16 ?_
  refine J_al4 hx rfl rfl dX1_isAboveCap_17 ?_
  refine g1_0 hx hW 1 (rfl : kd 73 = 11) fl_X1_9 rfl dX1_isAboveCap_18 ?_
  refine J_il4 hx rfl rfl dX1_isAboveCap_21 ?_
  obtain ⟨r5, hr6, h⟩ := bnd h
  refine J_rdV hx (kX6_valueOnTheWayTo  hW hr6) ml_X1_163 lk_X6_valueOnTheWayTo (ci := 5) rfl (hW.obj (rfl : kd 1 = 2) (by decide) (by decide)) (rest := [.int (r1 + r3)]) rfl rfl (by decide) (by decide) (Nat.le_of_ble_eq_true rfl) (Nat.le_refl 0) (Nat.le_refl 0) dX1_isAboveCap_22 ?_
  refine J_iadd hx dX1_isAboveCap_25 ?_
  refine J_is4 hx rfl (by decide) (hc_of rfl) rfl dX1_isAboveCap_26 ?_
  refine J_il4 hx rfl rfl dX1_isAboveCap_27 ?_
  refine J_al4 hx rfl rfl dX1_isAboveCap_28 ?_
  refine g1_0 hx hW 1 (rfl : kd 73 = 11) fl_X1_9 rfl dX1_isAboveCap_29 ?_
  refine g6_9 hx hW 2 (rfl : kd 1 = 2) fl_X1_149 rfl dX1_isAboveCap_32 ?_
  refine J_il4 hx rfl rfl dX1_isAboveCap_35 ?_
  obtain ⟨c7, hc8, h⟩ := bnd h
  refine J_a3 hx hW (13 + 2 * c7) (rfl : kd 2 = 3) hc8 rfl dX1_isAboveCap_36 fun hk9 => ?_
  refine g9_3 hx hW hk9 fl_X1_166 dX1_isAboveCap_37 ?_
  refine J_icmp_le hx 47 dX1_isAboveCap_40 rfl (fun h10 => ?_) (fun h10 => ?_)
  · replace h := pos h h10
    refine J_iconst hx (0 : Int32) dX1_isAboveCap_47 rfl ?_
    exact J_zretR hx hr dX1_isAboveCap_48 (Nat.le_refl 0) (Nat.le_refl 0) (show (0 : Int32) = bI _ from congrArg bI (Option.some.inj h))
  · replace h := neg h h10
    refine J_iconst hx (1 : Int32) dX1_isAboveCap_43 rfl ?_
    refine J_goto hx 48 dX1_isAboveCap_44 rfl ?_
    exact J_zretR hx hr dX1_isAboveCap_48 (Nat.le_refl 0) (Nat.le_refl 0) (show (1 : Int32) = bI _ from congrArg bI (Option.some.inj h))
theorem dX1_needsCourier_0 : decode cX1_needsCourier 0 = .ok (.iconst 0, 1) := by decide +kernel
theorem dX1_needsCourier_1 : decode cX1_needsCourier 1 = .ok (.istore_n 2, 1) := by decide +kernel
theorem dX1_needsCourier_2 : decode cX1_needsCourier 2 = .ok (.iload_n 2, 1) := by decide +kernel
theorem dX1_needsCourier_3 : decode cX1_needsCourier 3 = .ok (.aload_n 0, 1) := by decide +kernel
theorem dX1_needsCourier_4 : decode cX1_needsCourier 4 = .ok (.getfield 9, 3) := by decide +kernel
theorem dX1_needsCourier_7 : decode cX1_needsCourier 7 = .ok (.getfield 48, 3) := by decide +kernel
theorem dX1_needsCourier_10 : decode cX1_needsCourier 10 = .ok (.if_icmp .ge 49, 3) := by decide +kernel
theorem dX1_needsCourier_13 : decode cX1_needsCourier 13 = .ok (.aload_n 0, 1) := by decide +kernel
theorem dX1_needsCourier_14 : decode cX1_needsCourier 14 = .ok (.getfield 9, 3) := by decide +kernel
theorem dX1_needsCourier_17 : decode cX1_needsCourier 17 = .ok (.getfield 82, 3) := by decide +kernel
theorem dX1_needsCourier_20 : decode cX1_needsCourier 20 = .ok (.iload_n 2, 1) := by decide +kernel
theorem dX1_needsCourier_21 : decode cX1_needsCourier 21 = .ok (.aaload, 1) := by decide +kernel
theorem dX1_needsCourier_22 : decode cX1_needsCourier 22 = .ok (.getfield 181, 3) := by decide +kernel
theorem dX1_needsCourier_25 : decode cX1_needsCourier 25 = .ok (.ifCond .eq 28, 3) := by decide +kernel
theorem dX1_needsCourier_28 : decode cX1_needsCourier 28 = .ok (.aload_n 0, 1) := by decide +kernel
theorem dX1_needsCourier_29 : decode cX1_needsCourier 29 = .ok (.getfield 9, 3) := by decide +kernel
theorem dX1_needsCourier_32 : decode cX1_needsCourier 32 = .ok (.aload_n 0, 1) := by decide +kernel
theorem dX1_needsCourier_33 : decode cX1_needsCourier 33 = .ok (.getfield 9, 3) := by decide +kernel
theorem dX1_needsCourier_36 : decode cX1_needsCourier 36 = .ok (.getfield 82, 3) := by decide +kernel
theorem dX1_needsCourier_39 : decode cX1_needsCourier 39 = .ok (.iload_n 2, 1) := by decide +kernel
theorem dX1_needsCourier_40 : decode cX1_needsCourier 40 = .ok (.aaload, 1) := by decide +kernel
theorem dX1_needsCourier_41 : decode cX1_needsCourier 41 = .ok (.getfield 86, 3) := by decide +kernel
theorem dX1_needsCourier_44 : decode cX1_needsCourier 44 = .ok (.iload_n 1, 1) := by decide +kernel
theorem dX1_needsCourier_45 : decode cX1_needsCourier 45 = .ok (.invokevirtual 132, 3) := by decide +kernel
theorem dX1_needsCourier_48 : decode cX1_needsCourier 48 = .ok (.ifCond .eq 5, 3) := by decide +kernel
theorem dX1_needsCourier_51 : decode cX1_needsCourier 51 = .ok (.iconst 1, 1) := by decide +kernel
theorem dX1_needsCourier_52 : decode cX1_needsCourier 52 = .ok (.ireturn, 1) := by decide +kernel
theorem dX1_needsCourier_53 : decode cX1_needsCourier 53 = .ok (.iinc 2 1, 3) := by decide +kernel
theorem dX1_needsCourier_56 : decode cX1_needsCourier 56 = .ok (.goto (-54), 3) := by decide +kernel
theorem dX1_needsCourier_59 : decode cX1_needsCourier 59 = .ok (.iconst 0, 1) := by decide +kernel
theorem dX1_needsCourier_60 : decode cX1_needsCourier 60 = .ok (.ireturn, 1) := by decide +kernel
def sX1_needsCourier_2 : Nat → Wl → Int32 → Int32 → Option Bool
  | 0, _, _, _ => none
  | n + 1, w, l1, l2 => (if (w 1 7) ≤ l2 then some false else (idx l2 16).bind (fun c2 => (if (w (41 + 2 * c2) 3) = 0 then sX1_needsCourier_2 n w l1 (l2 + 1) else (sX6_isInOrBelow w (w (41 + 2 * c2) 4) l1).bind (fun r7 => (if r7 = true then some true else sX1_needsCourier_2 n w l1 (l2 + 1))))))
theorem tX1_needsCourier_2 {X : Cx} {B : Bs} {sz : Nat} {G : Gf} {r : Bool} (hx : Fx X cX1_needsCourier 3 RX1 2 0 0) (hr : Rt X (some .boolean) 0 0 (RdΨ (.int (bI r)) G sz)) : ∀ (n : Nat), ∀ (w : Wl) (l1 : Int32) (l2 : Int32) (hW : Wd (xΓ X) B w G) (h : sX1_needsCourier_2 n w l1 l2 = some r), J X 3 G sz 0 0 2 [some (.ref (B.1 + 73)), some (.int l1), some (.int l2)] [] := by
  intro n
  induction n with
  | zero => intro w l1 l2 hW h; rw [sX1_needsCourier_2.eq_1] at h; cases h
  | succ n ih =>
    intro w l1 l2 hW h
    rw [sX1_needsCourier_2.eq_2] at h
    refine J_il4 hx rfl rfl dX1_needsCourier_2 ?_
    refine J_al4 hx rfl rfl dX1_needsCourier_3 ?_
    refine g1_0 hx hW 1 (rfl : kd 73 = 11) fl_X1_9 rfl dX1_needsCourier_4 ?_
    refine g6_7 hx hW (rfl : kd 1 = 2) fl_X1_48 dX1_needsCourier_7 ?_
    refine J_icmp_ge hx 59 dX1_needsCourier_10 rfl (fun h1 => ?_) (fun h1 => ?_)
    · replace h := pos h h1
      refine J_iconst hx (0 : Int32) dX1_needsCourier_59 rfl ?_
      exact J_zretR hx hr dX1_needsCourier_60 (Nat.le_refl 0) (Nat.le_refl 0) (show (0 : Int32) = bI _ from congrArg bI (Option.some.inj h))
    · replace h := neg h h1
      refine J_al4 hx rfl rfl dX1_needsCourier_13 ?_
      refine g1_0 hx hW 1 (rfl : kd 73 = 11) fl_X1_9 rfl dX1_needsCourier_14 ?_
      refine g6_11 hx hW 4 (rfl : kd 1 = 2) fl_X1_82 rfl dX1_needsCourier_17 ?_
      refine J_il4 hx rfl rfl dX1_needsCourier_20 ?_
      obtain ⟨c2, hc3, h⟩ := bnd h
      refine J_a5 hx hW (41 + 2 * c2) (rfl : kd 4 = 5) hc3 rfl dX1_needsCourier_21 fun hk4 => ?_
      refine g11_3 hx hW hk4 fl_X1_181 dX1_needsCourier_22 ?_
      refine J_if_eq hx 53 dX1_needsCourier_25 rfl (fun h5 => ?_) (fun h5 => ?_)
      · replace h := pos h h5
        refine J_iinc hx (v' := (l2 + 1)) rfl rfl (by decide) (hc_of rfl) rfl dX1_needsCourier_53 ?_
        refine J_goto hx 2 dX1_needsCourier_56 rfl ?_
        exact ih _ _ _  hW h
      · replace h := neg h h5
        refine J_al4 hx rfl rfl dX1_needsCourier_28 ?_
        refine g1_0 hx hW 1 (rfl : kd 73 = 11) fl_X1_9 rfl dX1_needsCourier_29 ?_
        refine J_al4 hx rfl rfl dX1_needsCourier_32 ?_
        refine g1_0 hx hW 1 (rfl : kd 73 = 11) fl_X1_9 rfl dX1_needsCourier_33 ?_
        refine g6_11 hx hW 4 (rfl : kd 1 = 2) fl_X1_82 rfl dX1_needsCourier_36 ?_
        refine J_il4 hx rfl rfl dX1_needsCourier_39 ?_
        refine J_a5 hx hW (41 + 2 * c2) (rfl : kd 4 = 5) hc3 rfl dX1_needsCourier_40 fun hk6 => ?_
        refine g11_4 hx hW hk6 fl_X1_86 dX1_needsCourier_41 ?_
        refine J_il4 hx rfl rfl dX1_needsCourier_44 ?_
        obtain ⟨r7, hr8, h⟩ := bnd h
        refine J_rdV hx (kX6_isInOrBelow  hW hr8) ml_X1_132 lk_X6_isInOrBelow (ci := 5) rfl (hW.obj (rfl : kd 1 = 2) (by decide) (by decide)) (rest := []) rfl rfl (by decide) (by decide) (Nat.le_of_ble_eq_true rfl) (Nat.le_refl 0) (Nat.le_refl 0) dX1_needsCourier_45 ?_
        refine J_bif_eq hx 53 dX1_needsCourier_48 rfl (fun h9 => ?_) (fun h9 => ?_)
        · replace h := neg h (bft h9)
          refine J_iinc hx (v' := (l2 + 1)) rfl rfl (by decide) (hc_of rfl) rfl dX1_needsCourier_53 ?_
          refine J_goto hx 2 dX1_needsCourier_56 rfl ?_
          exact ih _ _ _  hW h
        · replace h := pos h h9
          refine J_iconst hx (1 : Int32) dX1_needsCourier_51 rfl ?_
          exact J_zretR hx hr dX1_needsCourier_52 (Nat.le_refl 0) (Nat.le_refl 0) (show (1 : Int32) = bI _ from congrArg bI (Option.some.inj h))
def sX1_needsCourier (w : Wl) (l1 : Int32) : Option Bool := sX1_needsCourier_2 FU w l1 (0 : Int32)
theorem kX1_needsCourier {l : Launch} {Γ : Gl} {B : Bs} {w : Wl} {G : Gf} {sz : Nat} {l1 : Int32} {r : Bool} (hW : Wd Γ B w G) (h : sX1_needsCourier w l1 = some r) : CtR l Γ yX1_needsCourier cX1_needsCourier 3 (some .boolean) 2 [.ref (B.1 + 73), .int l1] G sz (.int (bI r)) := by
  refine Ct.of rfl (Nat.le_of_ble_eq_true rfl) fun X hx hr hl hΓ hnm => ?_
  subst hl hΓ
  show J X 3 G sz 0 0 0 [some (.ref (B.1 + 73)), some (.int l1), none] []
  unfold sX1_needsCourier at h
  refine J_iconst hx (0 : Int32) dX1_needsCourier_0 rfl ?_
  refine J_is4 hx rfl (by decide) (hc_of rfl) rfl dX1_needsCourier_1 ?_
  exact tX1_needsCourier_2 hx hr _ _ _ _  hW h
theorem dX1_reasonOfCourier_0 : decode cX1_reasonOfCourier 0 = .ok (.aload_n 0, 1) := by decide +kernel
theorem dX1_reasonOfCourier_1 : decode cX1_reasonOfCourier 1 = .ok (.getfield 9, 3) := by decide +kernel
theorem dX1_reasonOfCourier_4 : decode cX1_reasonOfCourier 4 = .ok (.iload_n 2, 1) := by decide +kernel
theorem dX1_reasonOfCourier_5 : decode cX1_reasonOfCourier 5 = .ok (.invokevirtual 171, 3) := by decide +kernel
theorem dX1_reasonOfCourier_8 : decode cX1_reasonOfCourier 8 = .ok (.ifCond .ne 18, 3) := by decide +kernel
theorem dX1_reasonOfCourier_11 : decode cX1_reasonOfCourier 11 = .ok (.aload_n 0, 1) := by decide +kernel
theorem dX1_reasonOfCourier_12 : decode cX1_reasonOfCourier 12 = .ok (.iload_n 1, 1) := by decide +kernel
theorem dX1_reasonOfCourier_13 : decode cX1_reasonOfCourier 13 = .ok (.invokevirtual 174, 3) := by decide +kernel
theorem dX1_reasonOfCourier_16 : decode cX1_reasonOfCourier 16 = .ok (.ifCond .eq 8, 3) := by decide +kernel
theorem dX1_reasonOfCourier_19 : decode cX1_reasonOfCourier 19 = .ok (.bipush 9, 2) := by decide +kernel
theorem dX1_reasonOfCourier_21 : decode cX1_reasonOfCourier 21 = .ok (.goto 4, 3) := by decide +kernel
theorem dX1_reasonOfCourier_24 : decode cX1_reasonOfCourier 24 = .ok (.iconst 0, 1) := by decide +kernel
theorem dX1_reasonOfCourier_25 : decode cX1_reasonOfCourier 25 = .ok (.ireturn, 1) := by decide +kernel
theorem dX1_reasonOfCourier_26 : decode cX1_reasonOfCourier 26 = .ok (.aload_n 0, 1) := by decide +kernel
theorem dX1_reasonOfCourier_27 : decode cX1_reasonOfCourier 27 = .ok (.getfield 9, 3) := by decide +kernel
theorem dX1_reasonOfCourier_30 : decode cX1_reasonOfCourier 30 = .ok (.getfield 177, 3) := by decide +kernel
theorem dX1_reasonOfCourier_33 : decode cX1_reasonOfCourier 33 = .ok (.iload_n 2, 1) := by decide +kernel
theorem dX1_reasonOfCourier_34 : decode cX1_reasonOfCourier 34 = .ok (.iaload, 1) := by decide +kernel
theorem dX1_reasonOfCourier_35 : decode cX1_reasonOfCourier 35 = .ok (.aload_n 0, 1) := by decide +kernel
theorem dX1_reasonOfCourier_36 : decode cX1_reasonOfCourier 36 = .ok (.getfield 9, 3) := by decide +kernel
theorem dX1_reasonOfCourier_39 : decode cX1_reasonOfCourier 39 = .ok (.getfield 57, 3) := by decide +kernel
theorem dX1_reasonOfCourier_42 : decode cX1_reasonOfCourier 42 = .ok (.iload_n 1, 1) := by decide +kernel
theorem dX1_reasonOfCourier_43 : decode cX1_reasonOfCourier 43 = .ok (.aaload, 1) := by decide +kernel
theorem dX1_reasonOfCourier_44 : decode cX1_reasonOfCourier 44 = .ok (.getfield 128, 3) := by decide +kernel
theorem dX1_reasonOfCourier_47 : decode cX1_reasonOfCourier 47 = .ok (.if_icmp .ne 7, 3) := by decide +kernel
theorem dX1_reasonOfCourier_50 : decode cX1_reasonOfCourier 50 = .ok (.iconst 1, 1) := by decide +kernel
theorem dX1_reasonOfCourier_51 : decode cX1_reasonOfCourier 51 = .ok (.goto 4, 3) := by decide +kernel
theorem dX1_reasonOfCourier_54 : decode cX1_reasonOfCourier 54 = .ok (.iconst 0, 1) := by decide +kernel
theorem dX1_reasonOfCourier_55 : decode cX1_reasonOfCourier 55 = .ok (.istore_n 3, 1) := by decide +kernel
theorem dX1_reasonOfCourier_56 : decode cX1_reasonOfCourier 56 = .ok (.iload_n 3, 1) := by decide +kernel
theorem dX1_reasonOfCourier_57 : decode cX1_reasonOfCourier 57 = .ok (.ifCond .eq 7, 3) := by decide +kernel
theorem dX1_reasonOfCourier_60 : decode cX1_reasonOfCourier 60 = .ok (.iconst 0, 1) := by decide +kernel
theorem dX1_reasonOfCourier_61 : decode cX1_reasonOfCourier 61 = .ok (.goto 5, 3) := by decide +kernel
theorem dX1_reasonOfCourier_64 : decode cX1_reasonOfCourier 64 = .ok (.bipush 10, 2) := by decide +kernel
theorem dX1_reasonOfCourier_66 : decode cX1_reasonOfCourier 66 = .ok (.ireturn, 1) := by decide +kernel
def sX1_reasonOfCourier_55 (w : Wl) (s0 : Int32) : Option Int32 := (if s0 = 0 then some (10 : Int32) else some (0 : Int32))
theorem tX1_reasonOfCourier_55 {X : Cx} {B : Bs} {sz : Nat} {G : Gf} {r : Int32} (hx : Fx X cX1_reasonOfCourier 4 RX1 3 0 0) (hr : Rt X (some .int) 0 0 (RdΨ (.int (r)) G sz)) : ∀ (w : Wl) (s0 : Int32) (hW : Wd (xΓ X) B w G) (h : sX1_reasonOfCourier_55  w s0 = some r), J X 4 G sz 0 0 55 [none, none, none, none] [.int s0] := by
  intro w s0 hW h
  unfold sX1_reasonOfCourier_55 at h
  refine J_is4 hx rfl (by decide) (hc_of rfl) rfl dX1_reasonOfCourier_55 ?_
  refine J_il4 hx rfl rfl dX1_reasonOfCourier_56 ?_
  refine J_if_eq hx 64 dX1_reasonOfCourier_57 rfl (fun h1 => ?_) (fun h1 => ?_)
  · replace h := pos h h1
    refine J_bipush hx (10 : Int32) dX1_reasonOfCourier_64 rfl ?_
    exact J_iretR hx hr dX1_reasonOfCourier_66 (Nat.le_refl 0) (Nat.le_refl 0) (Option.some.inj h)
  · replace h := neg h h1
    refine J_iconst hx (0 : Int32) dX1_reasonOfCourier_60 rfl ?_
    refine J_goto hx 66 dX1_reasonOfCourier_61 rfl ?_
    exact J_iretR hx hr dX1_reasonOfCourier_66 (Nat.le_refl 0) (Nat.le_refl 0) (Option.some.inj h)
def sX1_reasonOfCourier (w : Wl) (l1 : Int32) (l2 : Int32) : Option Int32 := (sX6_hasCourier w l2).bind (fun r1 => (if r1 = true then (idx l2 4).bind (fun c4 => (idx l1 12).bind (fun c6 => (if (w 5 c4) = (w (29 + c6) 3) then sX1_reasonOfCourier_55 w (1 : Int32) else sX1_reasonOfCourier_55 w (0 : Int32)))) else (sX1_needsCourier w l1).bind (fun r10 => (if r10 = true then some (9 : Int32) else some (0 : Int32)))))
theorem kX1_reasonOfCourier {l : Launch} {Γ : Gl} {B : Bs} {w : Wl} {G : Gf} {sz : Nat} {l1 : Int32} {l2 : Int32} {r : Int32} (hW : Wd Γ B w G) (h : sX1_reasonOfCourier w l1 l2 = some r) : CtR l Γ yX1_reasonOfCourier cX1_reasonOfCourier 4 (some .int) 3 [.ref (B.1 + 73), .int l1, .int l2] G sz (.int (r)) := by
  refine Ct.of rfl (Nat.le_of_ble_eq_true rfl) fun X hx hr hl hΓ hnm => ?_
  subst hl hΓ
  show J X 4 G sz 0 0 0 [some (.ref (B.1 + 73)), some (.int l1), some (.int l2), none] []
  unfold sX1_reasonOfCourier at h
  refine J_al4 hx rfl rfl dX1_reasonOfCourier_0 ?_
  refine g1_0 hx hW 1 (rfl : kd 73 = 11) fl_X1_9 rfl dX1_reasonOfCourier_1 ?_
  refine J_il4 hx rfl rfl dX1_reasonOfCourier_4 ?_
  obtain ⟨r1, hr2, h⟩ := bnd h
  refine J_rdV hx (kX6_hasCourier  hW hr2) ml_X1_171 lk_X6_hasCourier (ci := 5) rfl (hW.obj (rfl : kd 1 = 2) (by decide) (by decide)) (rest := []) rfl rfl (by decide) (by decide) (Nat.le_of_ble_eq_true rfl) (Nat.le_refl 0) (Nat.le_refl 0) dX1_reasonOfCourier_5 ?_
  refine J_bif_ne hx 26 dX1_reasonOfCourier_8 rfl (fun h3 => ?_) (fun h3 => ?_)
  · replace h := pos h h3
    refine J_al4 hx rfl rfl dX1_reasonOfCourier_26 ?_
    refine g1_0 hx hW 1 (rfl : kd 73 = 11) fl_X1_9 rfl dX1_reasonOfCourier_27 ?_
    refine g6_12 hx hW 5 (rfl : kd 1 = 2) fl_X1_177 rfl dX1_reasonOfCourier_30 ?_
    refine J_il4 hx rfl rfl dX1_reasonOfCourier_33 ?_
    obtain ⟨c4, hc5, h⟩ := bnd h
    refine J_iaW hx hW (rfl : kd 5 = 104) hc5 dX1_reasonOfCourier_34 ?_
    refine J_al4 hx rfl rfl dX1_reasonOfCourier_35 ?_
    refine g1_0 hx hW 1 (rfl : kd 73 = 11) fl_X1_9 rfl dX1_reasonOfCourier_36 ?_
    refine g6_10 hx hW 3 (rfl : kd 1 = 2) fl_X1_57 rfl dX1_reasonOfCourier_39 ?_
    refine J_il4 hx rfl rfl dX1_reasonOfCourier_42 ?_
    obtain ⟨c6, hc7, h⟩ := bnd h
    refine J_a4 hx hW (29 + c6) (rfl : kd 3 = 4) hc7 rfl dX1_reasonOfCourier_43 fun hk8 => ?_
    refine g3_3 hx hW hk8 fl_X1_128 dX1_reasonOfCourier_44 ?_
    refine J_icmp_ne hx 54 dX1_reasonOfCourier_47 rfl (fun h9 => ?_) (fun h9 => ?_)
    · replace h := neg h h9
      refine J_iconst hx (0 : Int32) dX1_reasonOfCourier_54 rfl ?_
      refine J_lw (ls' := [none, none, none, none]) (lwN (lwN (lwN (lwN lwZ)))) ?_
      exact tX1_reasonOfCourier_55 hx hr _ _  hW h
    · replace h := pos h h9
      refine J_iconst hx (1 : Int32) dX1_reasonOfCourier_50 rfl ?_
      refine J_goto hx 55 dX1_reasonOfCourier_51 rfl ?_
      refine J_lw (ls' := [none, none, none, none]) (lwN (lwN (lwN (lwN lwZ)))) ?_
      exact tX1_reasonOfCourier_55 hx hr _ _  hW h
  · replace h := neg h (bft h3)
    refine J_al4 hx rfl rfl dX1_reasonOfCourier_11 ?_
    refine J_il4 hx rfl rfl dX1_reasonOfCourier_12 ?_
    obtain ⟨r10, hr11, h⟩ := bnd h
    refine J_rdV hx (kX1_needsCourier  hW hr11) ml_X1_174 lk_X1_needsCourier (ci := 0) rfl (hW.obj (rfl : kd 73 = 11) (by decide) (by decide)) (rest := []) rfl rfl (by decide) (by decide) (Nat.le_of_ble_eq_true rfl) (Nat.le_refl 0) (Nat.le_refl 0) dX1_reasonOfCourier_13 ?_
    refine J_bif_eq hx 24 dX1_reasonOfCourier_16 rfl (fun h12 => ?_) (fun h12 => ?_)
    · replace h := neg h (bft h12)
      refine J_iconst hx (0 : Int32) dX1_reasonOfCourier_24 rfl ?_
      exact J_iretR hx hr dX1_reasonOfCourier_25 (Nat.le_refl 0) (Nat.le_refl 0) (Option.some.inj h)
    · replace h := pos h h12
      refine J_bipush hx (9 : Int32) dX1_reasonOfCourier_19 rfl ?_
      refine J_goto hx 25 dX1_reasonOfCourier_21 rfl ?_
      exact J_iretR hx hr dX1_reasonOfCourier_25 (Nat.le_refl 0) (Nat.le_refl 0) (Option.some.inj h)
theorem dX1_reasonAgainst_0 : decode cX1_reasonAgainst 0 = .ok (.aload_n 0, 1) := by decide +kernel
theorem dX1_reasonAgainst_1 : decode cX1_reasonAgainst 1 = .ok (.iload_n 1, 1) := by decide +kernel
theorem dX1_reasonAgainst_2 : decode cX1_reasonAgainst 2 = .ok (.iload_n 2, 1) := by decide +kernel
theorem dX1_reasonAgainst_3 : decode cX1_reasonAgainst 3 = .ok (.invokevirtual 112, 3) := by decide +kernel
theorem dX1_reasonAgainst_6 : decode cX1_reasonAgainst 6 = .ok (.istore 4, 2) := by decide +kernel
theorem dX1_reasonAgainst_8 : decode cX1_reasonAgainst 8 = .ok (.iload 4, 2) := by decide +kernel
theorem dX1_reasonAgainst_10 : decode cX1_reasonAgainst 10 = .ok (.ifCond .ne 11, 3) := by decide +kernel
theorem dX1_reasonAgainst_13 : decode cX1_reasonAgainst 13 = .ok (.aload_n 0, 1) := by decide +kernel
theorem dX1_reasonAgainst_14 : decode cX1_reasonAgainst 14 = .ok (.iload_n 1, 1) := by decide +kernel
theorem dX1_reasonAgainst_15 : decode cX1_reasonAgainst 15 = .ok (.iload_n 2, 1) := by decide +kernel
theorem dX1_reasonAgainst_16 : decode cX1_reasonAgainst 16 = .ok (.invokevirtual 116, 3) := by decide +kernel
theorem dX1_reasonAgainst_19 : decode cX1_reasonAgainst 19 = .ok (.istore 4, 2) := by decide +kernel
theorem dX1_reasonAgainst_21 : decode cX1_reasonAgainst 21 = .ok (.iload 4, 2) := by decide +kernel
theorem dX1_reasonAgainst_23 : decode cX1_reasonAgainst 23 = .ok (.ifCond .ne 16, 3) := by decide +kernel
theorem dX1_reasonAgainst_26 : decode cX1_reasonAgainst 26 = .ok (.aload_n 0, 1) := by decide +kernel
theorem dX1_reasonAgainst_27 : decode cX1_reasonAgainst 27 = .ok (.iload_n 1, 1) := by decide +kernel
theorem dX1_reasonAgainst_28 : decode cX1_reasonAgainst 28 = .ok (.iload_n 2, 1) := by decide +kernel
theorem dX1_reasonAgainst_29 : decode cX1_reasonAgainst 29 = .ok (.invokevirtual 119, 3) := by decide +kernel
theorem dX1_reasonAgainst_32 : decode cX1_reasonAgainst 32 = .ok (.ifCond .eq 7, 3) := by decide +kernel
theorem dX1_reasonAgainst_35 : decode cX1_reasonAgainst 35 = .ok (.bipush 8, 2) := by decide +kernel
theorem dX1_reasonAgainst_37 : decode cX1_reasonAgainst 37 = .ok (.istore 4, 2) := by decide +kernel
theorem dX1_reasonAgainst_39 : decode cX1_reasonAgainst 39 = .ok (.iload 4, 2) := by decide +kernel
theorem dX1_reasonAgainst_41 : decode cX1_reasonAgainst 41 = .ok (.ifCond .ne 11, 3) := by decide +kernel
theorem dX1_reasonAgainst_44 : decode cX1_reasonAgainst 44 = .ok (.aload_n 0, 1) := by decide +kernel
theorem dX1_reasonAgainst_45 : decode cX1_reasonAgainst 45 = .ok (.iload_n 1, 1) := by decide +kernel
theorem dX1_reasonAgainst_46 : decode cX1_reasonAgainst 46 = .ok (.iload_n 3, 1) := by decide +kernel
theorem dX1_reasonAgainst_47 : decode cX1_reasonAgainst 47 = .ok (.invokevirtual 122, 3) := by decide +kernel
theorem dX1_reasonAgainst_50 : decode cX1_reasonAgainst 50 = .ok (.istore 4, 2) := by decide +kernel
theorem dX1_reasonAgainst_52 : decode cX1_reasonAgainst 52 = .ok (.iload 4, 2) := by decide +kernel
theorem dX1_reasonAgainst_54 : decode cX1_reasonAgainst 54 = .ok (.ireturn, 1) := by decide +kernel
def sX1_reasonAgainst_39 (w : Wl) (l1 : Int32) (l3 : Int32) (l4 : Int32) : Option Int32 := (if l4 = 0 then (sX1_reasonOfCourier w l1 l3).bind (fun r2 => some r2) else some l4)
theorem tX1_reasonAgainst_39 {X : Cx} {B : Bs} {sz : Nat} {G : Gf} {r : Int32} (hx : Fx X cX1_reasonAgainst 5 RX1 4 0 0) (hr : Rt X (some .int) 0 0 (RdΨ (.int (r)) G sz)) : ∀ (w : Wl) (l1 : Int32) (l3 : Int32) (l4 : Int32) (hW : Wd (xΓ X) B w G) (h : sX1_reasonAgainst_39  w l1 l3 l4 = some r), J X 5 G sz 0 0 39 [some (.ref (B.1 + 73)), some (.int l1), none, some (.int l3), some (.int l4)] [] := by
  intro w l1 l3 l4 hW h
  unfold sX1_reasonAgainst_39 at h
  refine J_il hx rfl dX1_reasonAgainst_39 ?_
  refine J_if_ne hx 52 dX1_reasonAgainst_41 rfl (fun h1 => ?_) (fun h1 => ?_)
  · replace h := neg h h1
    refine J_il hx rfl dX1_reasonAgainst_52 ?_
    exact J_iretR hx hr dX1_reasonAgainst_54 (Nat.le_refl 0) (Nat.le_refl 0) (Option.some.inj h)
  · replace h := pos h h1
    refine J_al4 hx rfl rfl dX1_reasonAgainst_44 ?_
    refine J_il4 hx rfl rfl dX1_reasonAgainst_45 ?_
    refine J_il4 hx rfl rfl dX1_reasonAgainst_46 ?_
    obtain ⟨r2, hr3, h⟩ := bnd h
    refine J_rdV hx (kX1_reasonOfCourier  hW hr3) ml_X1_122 lk_X1_reasonOfCourier (ci := 0) rfl (hW.obj (rfl : kd 73 = 11) (by decide) (by decide)) (rest := []) rfl rfl (by decide) (by decide) (Nat.le_of_ble_eq_true rfl) (Nat.le_refl 0) (Nat.le_refl 0) dX1_reasonAgainst_47 ?_
    refine J_is hx (by decide) (hc_of rfl) rfl dX1_reasonAgainst_50 ?_
    refine J_il hx rfl dX1_reasonAgainst_52 ?_
    exact J_iretR hx hr dX1_reasonAgainst_54 (Nat.le_refl 0) (Nat.le_refl 0) (Option.some.inj h)
def sX1_reasonAgainst_21 (w : Wl) (l1 : Int32) (l2 : Int32) (l3 : Int32) (l4 : Int32) : Option Int32 := (if l4 = 0 then (sX1_isAboveCap w l1 l2).bind (fun r2 => (if r2 = true then sX1_reasonAgainst_39 w l1 l3 (8 : Int32) else sX1_reasonAgainst_39 w l1 l3 l4)) else sX1_reasonAgainst_39 w l1 l3 l4)
theorem tX1_reasonAgainst_21 {X : Cx} {B : Bs} {sz : Nat} {G : Gf} {r : Int32} (hx : Fx X cX1_reasonAgainst 5 RX1 4 0 0) (hr : Rt X (some .int) 0 0 (RdΨ (.int (r)) G sz)) : ∀ (w : Wl) (l1 : Int32) (l2 : Int32) (l3 : Int32) (l4 : Int32) (hW : Wd (xΓ X) B w G) (h : sX1_reasonAgainst_21  w l1 l2 l3 l4 = some r), J X 5 G sz 0 0 21 [some (.ref (B.1 + 73)), some (.int l1), some (.int l2), some (.int l3), some (.int l4)] [] := by
  intro w l1 l2 l3 l4 hW h
  unfold sX1_reasonAgainst_21 at h
  refine J_il hx rfl dX1_reasonAgainst_21 ?_
  refine J_if_ne hx 39 dX1_reasonAgainst_23 rfl (fun h1 => ?_) (fun h1 => ?_)
  · replace h := neg h h1
    refine J_lw (ls' := [some (.ref (B.1 + 73)), some (.int l1), none, some (.int l3), some (.int l4)]) (lwS (lwS (lwN (lwS (lwS lwZ))))) ?_
    exact tX1_reasonAgainst_39 hx hr _ _ _ _  hW h
  · replace h := pos h h1
    refine J_al4 hx rfl rfl dX1_reasonAgainst_26 ?_
    refine J_il4 hx rfl rfl dX1_reasonAgainst_27 ?_
    refine J_il4 hx rfl rfl dX1_reasonAgainst_28 ?_
    obtain ⟨r2, hr3, h⟩ := bnd h
    refine J_rdV hx (kX1_isAboveCap  hW hr3) ml_X1_119 lk_X1_isAboveCap (ci := 0) rfl (hW.obj (rfl : kd 73 = 11) (by decide) (by decide)) (rest := []) rfl rfl (by decide) (by decide) (Nat.le_of_ble_eq_true rfl) (Nat.le_refl 0) (Nat.le_refl 0) dX1_reasonAgainst_29 ?_
    refine J_bif_eq hx 39 dX1_reasonAgainst_32 rfl (fun h4 => ?_) (fun h4 => ?_)
    · replace h := neg h (bft h4)
      refine J_lw (ls' := [some (.ref (B.1 + 73)), some (.int l1), none, some (.int l3), some (.int l4)]) (lwS (lwS (lwN (lwS (lwS lwZ))))) ?_
      exact tX1_reasonAgainst_39 hx hr _ _ _ _  hW h
    · replace h := pos h h4
      refine J_bipush hx (8 : Int32) dX1_reasonAgainst_35 rfl ?_
      refine J_is hx (by decide) (hc_of rfl) rfl dX1_reasonAgainst_37 ?_
      refine J_lw (ls' := [some (.ref (B.1 + 73)), some (.int l1), none, some (.int l3), some (.int (8 : Int32))]) (lwS (lwS (lwN (lwS (lwS lwZ))))) ?_
      exact tX1_reasonAgainst_39 hx hr _ _ _ _  hW h
def sX1_reasonAgainst (w : Wl) (l1 : Int32) (l2 : Int32) (l3 : Int32) : Option Int32 := (sX1_reasonOfCrate w l1 l2).bind (fun r1 => (if r1 = 0 then (sX1_reasonOfWorks w l1 l2).bind (fun r4 => sX1_reasonAgainst_21 w l1 l2 l3 r4) else sX1_reasonAgainst_21 w l1 l2 l3 r1))
theorem kX1_reasonAgainst {l : Launch} {Γ : Gl} {B : Bs} {w : Wl} {G : Gf} {sz : Nat} {l1 : Int32} {l2 : Int32} {l3 : Int32} {r : Int32} (hW : Wd Γ B w G) (h : sX1_reasonAgainst w l1 l2 l3 = some r) : CtR l Γ yX1_reasonAgainst cX1_reasonAgainst 5 (some .int) 4 [.ref (B.1 + 73), .int l1, .int l2, .int l3] G sz (.int (r)) := by
  refine Ct.of rfl (Nat.le_of_ble_eq_true rfl) fun X hx hr hl hΓ hnm => ?_
  subst hl hΓ
  show J X 5 G sz 0 0 0 [some (.ref (B.1 + 73)), some (.int l1), some (.int l2), some (.int l3), none] []
  unfold sX1_reasonAgainst at h
  refine J_al4 hx rfl rfl dX1_reasonAgainst_0 ?_
  refine J_il4 hx rfl rfl dX1_reasonAgainst_1 ?_
  refine J_il4 hx rfl rfl dX1_reasonAgainst_2 ?_
  obtain ⟨r1, hr2, h⟩ := bnd h
  refine J_rdV hx (kX1_reasonOfCrate  hW hr2) ml_X1_112 lk_X1_reasonOfCrate (ci := 0) rfl (hW.obj (rfl : kd 73 = 11) (by decide) (by decide)) (rest := []) rfl rfl (by decide) (by decide) (Nat.le_of_ble_eq_true rfl) (Nat.le_refl 0) (Nat.le_refl 0) dX1_reasonAgainst_3 ?_
  refine J_is hx (by decide) (hc_of rfl) rfl dX1_reasonAgainst_6 ?_
  refine J_il hx rfl dX1_reasonAgainst_8 ?_
  refine J_if_ne hx 21 dX1_reasonAgainst_10 rfl (fun h3 => ?_) (fun h3 => ?_)
  · replace h := neg h h3
    exact tX1_reasonAgainst_21 hx hr _ _ _ _ _  hW h
  · replace h := pos h h3
    refine J_al4 hx rfl rfl dX1_reasonAgainst_13 ?_
    refine J_il4 hx rfl rfl dX1_reasonAgainst_14 ?_
    refine J_il4 hx rfl rfl dX1_reasonAgainst_15 ?_
    obtain ⟨r4, hr5, h⟩ := bnd h
    refine J_rdV hx (kX1_reasonOfWorks  hW hr5) ml_X1_116 lk_X1_reasonOfWorks (ci := 0) rfl (hW.obj (rfl : kd 73 = 11) (by decide) (by decide)) (rest := []) rfl rfl (by decide) (by decide) (Nat.le_of_ble_eq_true rfl) (Nat.le_refl 0) (Nat.le_refl 0) dX1_reasonAgainst_16 ?_
    refine J_is hx (by decide) (hc_of rfl) rfl dX1_reasonAgainst_19 ?_
    exact tX1_reasonAgainst_21 hx hr _ _ _ _ _  hW h
theorem dX1_ofSending_0 : decode cX1_ofSending 0 = .ok (.aload_n 0, 1) := by decide +kernel
theorem dX1_ofSending_1 : decode cX1_ofSending 1 = .ok (.iload_n 1, 1) := by decide +kernel
theorem dX1_ofSending_2 : decode cX1_ofSending 2 = .ok (.iload_n 2, 1) := by decide +kernel
theorem dX1_ofSending_3 : decode cX1_ofSending 3 = .ok (.iload_n 3, 1) := by decide +kernel
theorem dX1_ofSending_4 : decode cX1_ofSending 4 = .ok (.invokevirtual 105, 3) := by decide +kernel
theorem dX1_ofSending_7 : decode cX1_ofSending 7 = .ok (.ifCond .eq 5, 3) := by decide +kernel
theorem dX1_ofSending_10 : decode cX1_ofSending 10 = .ok (.iconst 1, 1) := by decide +kernel
theorem dX1_ofSending_11 : decode cX1_ofSending 11 = .ok (.ireturn, 1) := by decide +kernel
theorem dX1_ofSending_12 : decode cX1_ofSending 12 = .ok (.aload_n 0, 1) := by decide +kernel
theorem dX1_ofSending_13 : decode cX1_ofSending 13 = .ok (.iload_n 1, 1) := by decide +kernel
theorem dX1_ofSending_14 : decode cX1_ofSending 14 = .ok (.iload_n 2, 1) := by decide +kernel
theorem dX1_ofSending_15 : decode cX1_ofSending 15 = .ok (.iload_n 3, 1) := by decide +kernel
theorem dX1_ofSending_16 : decode cX1_ofSending 16 = .ok (.invokevirtual 109, 3) := by decide +kernel
theorem dX1_ofSending_19 : decode cX1_ofSending 19 = .ok (.ifCond .ne 7, 3) := by decide +kernel
theorem dX1_ofSending_22 : decode cX1_ofSending 22 = .ok (.iconst 0, 1) := by decide +kernel
theorem dX1_ofSending_23 : decode cX1_ofSending 23 = .ok (.goto 4, 3) := by decide +kernel
theorem dX1_ofSending_26 : decode cX1_ofSending 26 = .ok (.iconst 3, 1) := by decide +kernel
theorem dX1_ofSending_27 : decode cX1_ofSending 27 = .ok (.ireturn, 1) := by decide +kernel
def sX1_ofSending (w : Wl) (l1 : Int32) (l2 : Int32) (l3 : Int32) : Option Int32 := (sX1_ofLeg w l1 l2 l3).bind (fun r1 => (if r1 = 0 then (sX1_reasonAgainst w l1 l2 l3).bind (fun r4 => (if r4 = 0 then some (0 : Int32) else some (3 : Int32))) else some (1 : Int32)))
theorem kX1_ofSending {l : Launch} {Γ : Gl} {B : Bs} {w : Wl} {G : Gf} {sz : Nat} {l1 : Int32} {l2 : Int32} {l3 : Int32} {r : Int32} (hW : Wd Γ B w G) (h : sX1_ofSending w l1 l2 l3 = some r) : CtR l Γ yX1_ofSending cX1_ofSending 4 (some .int) 5 [.ref (B.1 + 73), .int l1, .int l2, .int l3] G sz (.int (r)) := by
  refine Ct.of rfl (Nat.le_of_ble_eq_true rfl) fun X hx hr hl hΓ hnm => ?_
  subst hl hΓ
  show J X 4 G sz 0 0 0 [some (.ref (B.1 + 73)), some (.int l1), some (.int l2), some (.int l3)] []
  unfold sX1_ofSending at h
  refine J_al4 hx rfl rfl dX1_ofSending_0 ?_
  refine J_il4 hx rfl rfl dX1_ofSending_1 ?_
  refine J_il4 hx rfl rfl dX1_ofSending_2 ?_
  refine J_il4 hx rfl rfl dX1_ofSending_3 ?_
  obtain ⟨r1, hr2, h⟩ := bnd h
  refine J_rdV hx (kX1_ofLeg  hW hr2) ml_X1_105 lk_X1_ofLeg (ci := 0) rfl (hW.obj (rfl : kd 73 = 11) (by decide) (by decide)) (rest := []) rfl rfl (by decide) (by decide) (Nat.le_of_ble_eq_true rfl) (Nat.le_refl 0) (Nat.le_refl 0) dX1_ofSending_4 ?_
  refine J_if_eq hx 12 dX1_ofSending_7 rfl (fun h3 => ?_) (fun h3 => ?_)
  · replace h := pos h h3
    refine J_al4 hx rfl rfl dX1_ofSending_12 ?_
    refine J_il4 hx rfl rfl dX1_ofSending_13 ?_
    refine J_il4 hx rfl rfl dX1_ofSending_14 ?_
    refine J_il4 hx rfl rfl dX1_ofSending_15 ?_
    obtain ⟨r4, hr5, h⟩ := bnd h
    refine J_rdV hx (kX1_reasonAgainst  hW hr5) ml_X1_109 lk_X1_reasonAgainst (ci := 0) rfl (hW.obj (rfl : kd 73 = 11) (by decide) (by decide)) (rest := []) rfl rfl (by decide) (by decide) (Nat.le_of_ble_eq_true rfl) (Nat.le_refl 0) (Nat.le_refl 0) dX1_ofSending_16 ?_
    refine J_if_ne hx 26 dX1_ofSending_19 rfl (fun h6 => ?_) (fun h6 => ?_)
    · replace h := neg h h6
      refine J_iconst hx (3 : Int32) dX1_ofSending_26 rfl ?_
      exact J_iretR hx hr dX1_ofSending_27 (Nat.le_refl 0) (Nat.le_refl 0) (Option.some.inj h)
    · replace h := pos h h6
      refine J_iconst hx (0 : Int32) dX1_ofSending_22 rfl ?_
      refine J_goto hx 27 dX1_ofSending_23 rfl ?_
      exact J_iretR hx hr dX1_ofSending_27 (Nat.le_refl 0) (Nat.le_refl 0) (Option.some.inj h)
  · replace h := neg h h3
    refine J_iconst hx (1 : Int32) dX1_ofSending_10 rfl ?_
    exact J_iretR hx hr dX1_ofSending_11 (Nat.le_refl 0) (Nat.le_refl 0) (Option.some.inj h)
theorem dX1_ofWaiting_0 : decode cX1_ofWaiting 0 = .ok (.iconst 1, 1) := by decide +kernel
theorem dX1_ofWaiting_1 : decode cX1_ofWaiting 1 = .ok (.iload_n 1, 1) := by decide +kernel
theorem dX1_ofWaiting_2 : decode cX1_ofWaiting 2 = .ok (.iconst 1, 1) := by decide +kernel
theorem dX1_ofWaiting_3 : decode cX1_ofWaiting 3 = .ok (.sipush 240, 3) := by decide +kernel
theorem dX1_ofWaiting_6 : decode cX1_ofWaiting 6 = .ok (.invokestatic 19, 3) := by decide +kernel
theorem dX1_ofWaiting_9 : decode cX1_ofWaiting 9 = .ok (.iconst 1, 1) := by decide +kernel
theorem dX1_ofWaiting_10 : decode cX1_ofWaiting 10 = .ok (.invokestatic 30, 3) := by decide +kernel
theorem dX1_ofWaiting_13 : decode cX1_ofWaiting 13 = .ok (.ireturn, 1) := by decide +kernel
def sX1_ofWaiting (w : Wl) (l1 : Int32) : Option Int32 := (sX1_isIn w l1 (1 : Int32) (240 : Int32)).bind (fun r1 => (sX1_firstWrong w (1 : Int32) (bI r1) (1 : Int32)).bind (fun r3 => some r3))
theorem kX1_ofWaiting {l : Launch} {Γ : Gl} {B : Bs} {w : Wl} {G : Gf} {sz : Nat} {l1 : Int32} {r : Int32} (hW : Wd Γ B w G) (h : sX1_ofWaiting w l1 = some r) : CtR l Γ yX1_ofWaiting cX1_ofWaiting 2 (some .int) 1 [.ref (B.1 + 73), .int l1] G sz (.int (r)) := by
  refine Ct.of rfl (Nat.le_of_ble_eq_true rfl) fun X hx hr hl hΓ hnm => ?_
  subst hl hΓ
  show J X 2 G sz 0 0 0 [some (.ref (B.1 + 73)), some (.int l1)] []
  unfold sX1_ofWaiting at h
  refine J_iconst hx (1 : Int32) dX1_ofWaiting_0 rfl ?_
  refine J_il4 hx rfl rfl dX1_ofWaiting_1 ?_
  refine J_iconst hx (1 : Int32) dX1_ofWaiting_2 rfl ?_
  refine J_sipush hx (240 : Int32) dX1_ofWaiting_3 rfl ?_
  obtain ⟨r1, hr2, h⟩ := bnd h
  refine J_rdS hx (kX1_isIn  hW hr2) ml_X1_19 lk_X1_isIn (rest := [.int (1 : Int32)]) rfl rfl (by decide) (by decide) (Nat.le_of_ble_eq_true rfl) (Nat.le_refl 0) (Nat.le_refl 0) dX1_ofWaiting_6 ?_
  refine J_iconst hx (1 : Int32) dX1_ofWaiting_9 rfl ?_
  obtain ⟨r3, hr4, h⟩ := bnd h
  refine J_rdS hx (kX1_firstWrong  hW hr4) ml_X1_30 lk_X1_firstWrong (rest := []) rfl rfl (by decide) (by decide) (Nat.le_of_ble_eq_true rfl) (Nat.le_refl 0) (Nat.le_refl 0) dX1_ofWaiting_10 ?_
  exact J_iretR hx hr dX1_ofWaiting_13 (Nat.le_refl 0) (Nat.le_refl 0) (Option.some.inj h)
theorem dX1_ofValue_0 : decode cX1_ofValue 0 = .ok (.iload_n 1, 1) := by decide +kernel
theorem dX1_ofValue_1 : decode cX1_ofValue 1 = .ok (.iload_n 2, 1) := by decide +kernel
theorem dX1_ofValue_2 : decode cX1_ofValue 2 = .ok (.ifCond .lt 12, 3) := by decide +kernel
theorem dX1_ofValue_5 : decode cX1_ofValue 5 = .ok (.iload_n 2, 1) := by decide +kernel
theorem dX1_ofValue_6 : decode cX1_ofValue 6 = .ok (.iload_n 3, 1) := by decide +kernel
theorem dX1_ofValue_7 : decode cX1_ofValue 7 = .ok (.if_icmp .ge 7, 3) := by decide +kernel
theorem dX1_ofValue_10 : decode cX1_ofValue 10 = .ok (.iconst 1, 1) := by decide +kernel
theorem dX1_ofValue_11 : decode cX1_ofValue 11 = .ok (.goto 4, 3) := by decide +kernel
theorem dX1_ofValue_14 : decode cX1_ofValue 14 = .ok (.iconst 0, 1) := by decide +kernel
theorem dX1_ofValue_15 : decode cX1_ofValue 15 = .ok (.iconst 1, 1) := by decide +kernel
theorem dX1_ofValue_16 : decode cX1_ofValue 16 = .ok (.invokestatic 30, 3) := by decide +kernel
theorem dX1_ofValue_19 : decode cX1_ofValue 19 = .ok (.ireturn, 1) := by decide +kernel
def sX1_ofValue (w : Wl) (l1 : Int32) (l2 : Int32) (l3 : Int32) : Option Int32 := (if l2 < 0 then (sX1_firstWrong w l1 (0 : Int32) (1 : Int32)).bind (fun r2 => some r2) else (if l3 ≤ l2 then (sX1_firstWrong w l1 (0 : Int32) (1 : Int32)).bind (fun r5 => some r5) else (sX1_firstWrong w l1 (1 : Int32) (1 : Int32)).bind (fun r7 => some r7)))
theorem kX1_ofValue {l : Launch} {Γ : Gl} {B : Bs} {w : Wl} {G : Gf} {sz : Nat} {l1 : Int32} {l2 : Int32} {l3 : Int32} {r : Int32} (hW : Wd Γ B w G) (h : sX1_ofValue w l1 l2 l3 = some r) : CtR l Γ yX1_ofValue cX1_ofValue 4 (some .int) 1 [.ref (B.1 + 73), .int l1, .int l2, .int l3] G sz (.int (r)) := by
  refine Ct.of rfl (Nat.le_of_ble_eq_true rfl) fun X hx hr hl hΓ hnm => ?_
  subst hl hΓ
  show J X 4 G sz 0 0 0 [some (.ref (B.1 + 73)), some (.int l1), some (.int l2), some (.int l3)] []
  unfold sX1_ofValue at h
  refine J_il4 hx rfl rfl dX1_ofValue_0 ?_
  refine J_il4 hx rfl rfl dX1_ofValue_1 ?_
  refine J_if_lt hx 14 dX1_ofValue_2 rfl (fun h1 => ?_) (fun h1 => ?_)
  · replace h := pos h h1
    refine J_iconst hx (0 : Int32) dX1_ofValue_14 rfl ?_
    refine J_iconst hx (1 : Int32) dX1_ofValue_15 rfl ?_
    obtain ⟨r2, hr3, h⟩ := bnd h
    refine J_rdS hx (kX1_firstWrong  hW hr3) ml_X1_30 lk_X1_firstWrong (rest := []) rfl rfl (by decide) (by decide) (Nat.le_of_ble_eq_true rfl) (Nat.le_refl 0) (Nat.le_refl 0) dX1_ofValue_16 ?_
    exact J_iretR hx hr dX1_ofValue_19 (Nat.le_refl 0) (Nat.le_refl 0) (Option.some.inj h)
  · replace h := neg h h1
    refine J_il4 hx rfl rfl dX1_ofValue_5 ?_
    refine J_il4 hx rfl rfl dX1_ofValue_6 ?_
    refine J_icmp_ge hx 14 dX1_ofValue_7 rfl (fun h4 => ?_) (fun h4 => ?_)
    · replace h := pos h h4
      refine J_iconst hx (0 : Int32) dX1_ofValue_14 rfl ?_
      refine J_iconst hx (1 : Int32) dX1_ofValue_15 rfl ?_
      obtain ⟨r5, hr6, h⟩ := bnd h
      refine J_rdS hx (kX1_firstWrong  hW hr6) ml_X1_30 lk_X1_firstWrong (rest := []) rfl rfl (by decide) (by decide) (Nat.le_of_ble_eq_true rfl) (Nat.le_refl 0) (Nat.le_refl 0) dX1_ofValue_16 ?_
      exact J_iretR hx hr dX1_ofValue_19 (Nat.le_refl 0) (Nat.le_refl 0) (Option.some.inj h)
    · replace h := neg h h4
      refine J_iconst hx (1 : Int32) dX1_ofValue_10 rfl ?_
      refine J_goto hx 15 dX1_ofValue_11 rfl ?_
      refine J_iconst hx (1 : Int32) dX1_ofValue_15 rfl ?_
      obtain ⟨r7, hr8, h⟩ := bnd h
      refine J_rdS hx (kX1_firstWrong  hW hr8) ml_X1_30 lk_X1_firstWrong (rest := []) rfl rfl (by decide) (by decide) (Nat.le_of_ble_eq_true rfl) (Nat.le_refl 0) (Nat.le_refl 0) dX1_ofValue_16 ?_
      exact J_iretR hx hr dX1_ofValue_19 (Nat.le_refl 0) (Nat.le_refl 0) (Option.some.inj h)
theorem dX1_ofNoted_0 : decode cX1_ofNoted 0 = .ok (.aload_n 0, 1) := by decide +kernel
theorem dX1_ofNoted_1 : decode cX1_ofNoted 1 = .ok (.getfield 9, 3) := by decide +kernel
theorem dX1_ofNoted_4 : decode cX1_ofNoted 4 = .ok (.iload_n 1, 1) := by decide +kernel
theorem dX1_ofNoted_5 : decode cX1_ofNoted 5 = .ok (.invokevirtual 79, 3) := by decide +kernel
theorem dX1_ofNoted_8 : decode cX1_ofNoted 8 = .ok (.iload_n 2, 1) := by decide +kernel
theorem dX1_ofNoted_9 : decode cX1_ofNoted 9 = .ok (.ifCond .lt 7, 3) := by decide +kernel
theorem dX1_ofNoted_12 : decode cX1_ofNoted 12 = .ok (.iconst 1, 1) := by decide +kernel
theorem dX1_ofNoted_13 : decode cX1_ofNoted 13 = .ok (.goto 4, 3) := by decide +kernel
theorem dX1_ofNoted_16 : decode cX1_ofNoted 16 = .ok (.iconst 0, 1) := by decide +kernel
theorem dX1_ofNoted_17 : decode cX1_ofNoted 17 = .ok (.iconst 1, 1) := by decide +kernel
theorem dX1_ofNoted_18 : decode cX1_ofNoted 18 = .ok (.invokestatic 30, 3) := by decide +kernel
theorem dX1_ofNoted_21 : decode cX1_ofNoted 21 = .ok (.ireturn, 1) := by decide +kernel
def sX1_ofNoted (w : Wl) (l1 : Int32) (l2 : Int32) : Option Int32 := (sX6_hasWork w l1).bind (fun r1 => (if l2 < 0 then (sX1_firstWrong w (bI r1) (0 : Int32) (1 : Int32)).bind (fun r4 => some r4) else (sX1_firstWrong w (bI r1) (1 : Int32) (1 : Int32)).bind (fun r6 => some r6)))
theorem kX1_ofNoted {l : Launch} {Γ : Gl} {B : Bs} {w : Wl} {G : Gf} {sz : Nat} {l1 : Int32} {l2 : Int32} {r : Int32} (hW : Wd Γ B w G) (h : sX1_ofNoted w l1 l2 = some r) : CtR l Γ yX1_ofNoted cX1_ofNoted 3 (some .int) 1 [.ref (B.1 + 73), .int l1, .int l2] G sz (.int (r)) := by
  refine Ct.of rfl (Nat.le_of_ble_eq_true rfl) fun X hx hr hl hΓ hnm => ?_
  subst hl hΓ
  show J X 3 G sz 0 0 0 [some (.ref (B.1 + 73)), some (.int l1), some (.int l2)] []
  unfold sX1_ofNoted at h
  refine J_al4 hx rfl rfl dX1_ofNoted_0 ?_
  refine g1_0 hx hW 1 (rfl : kd 73 = 11) fl_X1_9 rfl dX1_ofNoted_1 ?_
  refine J_il4 hx rfl rfl dX1_ofNoted_4 ?_
  obtain ⟨r1, hr2, h⟩ := bnd h
  refine J_rdV hx (kX6_hasWork  hW hr2) ml_X1_79 lk_X6_hasWork (ci := 5) rfl (hW.obj (rfl : kd 1 = 2) (by decide) (by decide)) (rest := []) rfl rfl (by decide) (by decide) (Nat.le_of_ble_eq_true rfl) (Nat.le_refl 0) (Nat.le_refl 0) dX1_ofNoted_5 ?_
  refine J_il4 hx rfl rfl dX1_ofNoted_8 ?_
  refine J_if_lt hx 16 dX1_ofNoted_9 rfl (fun h3 => ?_) (fun h3 => ?_)
  · replace h := pos h h3
    refine J_iconst hx (0 : Int32) dX1_ofNoted_16 rfl ?_
    refine J_iconst hx (1 : Int32) dX1_ofNoted_17 rfl ?_
    obtain ⟨r4, hr5, h⟩ := bnd h
    refine J_rdS hx (kX1_firstWrong  hW hr5) ml_X1_30 lk_X1_firstWrong (rest := []) rfl rfl (by decide) (by decide) (Nat.le_of_ble_eq_true rfl) (Nat.le_refl 0) (Nat.le_refl 0) dX1_ofNoted_18 ?_
    exact J_iretR hx hr dX1_ofNoted_21 (Nat.le_refl 0) (Nat.le_refl 0) (Option.some.inj h)
  · replace h := neg h h3
    refine J_iconst hx (1 : Int32) dX1_ofNoted_12 rfl ?_
    refine J_goto hx 17 dX1_ofNoted_13 rfl ?_
    refine J_iconst hx (1 : Int32) dX1_ofNoted_17 rfl ?_
    obtain ⟨r6, hr7, h⟩ := bnd h
    refine J_rdS hx (kX1_firstWrong  hW hr7) ml_X1_30 lk_X1_firstWrong (rest := []) rfl rfl (by decide) (by decide) (Nat.le_of_ble_eq_true rfl) (Nat.le_refl 0) (Nat.le_refl 0) dX1_ofNoted_18 ?_
    exact J_iretR hx hr dX1_ofNoted_21 (Nat.le_refl 0) (Nat.le_refl 0) (Option.some.inj h)
theorem dX1_ofByte_0 : decode cX1_ofByte 0 = .ok (.iconst 1, 1) := by decide +kernel
theorem dX1_ofByte_1 : decode cX1_ofByte 1 = .ok (.iload_n 1, 1) := by decide +kernel
theorem dX1_ofByte_2 : decode cX1_ofByte 2 = .ok (.iconst 0, 1) := by decide +kernel
theorem dX1_ofByte_3 : decode cX1_ofByte 3 = .ok (.bipush 127, 2) := by decide +kernel
theorem dX1_ofByte_5 : decode cX1_ofByte 5 = .ok (.invokestatic 19, 3) := by decide +kernel
theorem dX1_ofByte_8 : decode cX1_ofByte 8 = .ok (.iload_n 2, 1) := by decide +kernel
theorem dX1_ofByte_9 : decode cX1_ofByte 9 = .ok (.sipush 150, 3) := by decide +kernel
theorem dX1_ofByte_12 : decode cX1_ofByte 12 = .ok (.if_icmp .ge 7, 3) := by decide +kernel
theorem dX1_ofByte_15 : decode cX1_ofByte 15 = .ok (.iconst 1, 1) := by decide +kernel
theorem dX1_ofByte_16 : decode cX1_ofByte 16 = .ok (.goto 4, 3) := by decide +kernel
theorem dX1_ofByte_19 : decode cX1_ofByte 19 = .ok (.iconst 0, 1) := by decide +kernel
theorem dX1_ofByte_20 : decode cX1_ofByte 20 = .ok (.invokestatic 30, 3) := by decide +kernel
theorem dX1_ofByte_23 : decode cX1_ofByte 23 = .ok (.ireturn, 1) := by decide +kernel
def sX1_ofByte (w : Wl) (l1 : Int32) (l2 : Int32) : Option Int32 := (sX1_isIn w l1 (0 : Int32) (127 : Int32)).bind (fun r1 => (if (150 : Int32) ≤ l2 then (sX1_firstWrong w (1 : Int32) (bI r1) (0 : Int32)).bind (fun r4 => some r4) else (sX1_firstWrong w (1 : Int32) (bI r1) (1 : Int32)).bind (fun r6 => some r6)))
theorem kX1_ofByte {l : Launch} {Γ : Gl} {B : Bs} {w : Wl} {G : Gf} {sz : Nat} {l1 : Int32} {l2 : Int32} {r : Int32} (hW : Wd Γ B w G) (h : sX1_ofByte w l1 l2 = some r) : CtR l Γ yX1_ofByte cX1_ofByte 3 (some .int) 1 [.ref (B.1 + 73), .int l1, .int l2] G sz (.int (r)) := by
  refine Ct.of rfl (Nat.le_of_ble_eq_true rfl) fun X hx hr hl hΓ hnm => ?_
  subst hl hΓ
  show J X 3 G sz 0 0 0 [some (.ref (B.1 + 73)), some (.int l1), some (.int l2)] []
  unfold sX1_ofByte at h
  refine J_iconst hx (1 : Int32) dX1_ofByte_0 rfl ?_
  refine J_il4 hx rfl rfl dX1_ofByte_1 ?_
  refine J_iconst hx (0 : Int32) dX1_ofByte_2 rfl ?_
  refine J_bipush hx (127 : Int32) dX1_ofByte_3 rfl ?_
  obtain ⟨r1, hr2, h⟩ := bnd h
  refine J_rdS hx (kX1_isIn  hW hr2) ml_X1_19 lk_X1_isIn (rest := [.int (1 : Int32)]) rfl rfl (by decide) (by decide) (Nat.le_of_ble_eq_true rfl) (Nat.le_refl 0) (Nat.le_refl 0) dX1_ofByte_5 ?_
  refine J_il4 hx rfl rfl dX1_ofByte_8 ?_
  refine J_sipush hx (150 : Int32) dX1_ofByte_9 rfl ?_
  refine J_icmp_ge hx 19 dX1_ofByte_12 rfl (fun h3 => ?_) (fun h3 => ?_)
  · replace h := pos h h3
    refine J_iconst hx (0 : Int32) dX1_ofByte_19 rfl ?_
    obtain ⟨r4, hr5, h⟩ := bnd h
    refine J_rdS hx (kX1_firstWrong  hW hr5) ml_X1_30 lk_X1_firstWrong (rest := []) rfl rfl (by decide) (by decide) (Nat.le_of_ble_eq_true rfl) (Nat.le_refl 0) (Nat.le_refl 0) dX1_ofByte_20 ?_
    exact J_iretR hx hr dX1_ofByte_23 (Nat.le_refl 0) (Nat.le_refl 0) (Option.some.inj h)
  · replace h := neg h h3
    refine J_iconst hx (1 : Int32) dX1_ofByte_15 rfl ?_
    refine J_goto hx 20 dX1_ofByte_16 rfl ?_
    obtain ⟨r6, hr7, h⟩ := bnd h
    refine J_rdS hx (kX1_firstWrong  hW hr7) ml_X1_30 lk_X1_firstWrong (rest := []) rfl rfl (by decide) (by decide) (Nat.le_of_ble_eq_true rfl) (Nat.le_refl 0) (Nat.le_refl 0) dX1_ofByte_20 ?_
    exact J_iretR hx hr dX1_ofByte_23 (Nat.le_refl 0) (Nat.le_refl 0) (Option.some.inj h)
