/-! Mirrors and walks, written by wip/whole/gen_walks.py -/
theorem dX6_hasVenue_0 : decode cX6_hasVenue 0 = .ok (.iload_n 1, 1) := by decide +kernel
theorem dX6_hasVenue_1 : decode cX6_hasVenue 1 = .ok (.ifCond .lt 15, 3) := by decide +kernel
theorem dX6_hasVenue_4 : decode cX6_hasVenue 4 = .ok (.iload_n 1, 1) := by decide +kernel
theorem dX6_hasVenue_5 : decode cX6_hasVenue 5 = .ok (.aload_n 0, 1) := by decide +kernel
theorem dX6_hasVenue_6 : decode cX6_hasVenue 6 = .ok (.getfield 57, 3) := by decide +kernel
theorem dX6_hasVenue_9 : decode cX6_hasVenue 9 = .ok (.if_icmp .ge 7, 3) := by decide +kernel
theorem dX6_hasVenue_12 : decode cX6_hasVenue 12 = .ok (.iconst 1, 1) := by decide +kernel
theorem dX6_hasVenue_13 : decode cX6_hasVenue 13 = .ok (.goto 4, 3) := by decide +kernel
theorem dX6_hasVenue_16 : decode cX6_hasVenue 16 = .ok (.iconst 0, 1) := by decide +kernel
theorem dX6_hasVenue_17 : decode cX6_hasVenue 17 = .ok (.ireturn, 1) := by decide +kernel
def sX6_hasVenue (w : Wl) (l1 : Int32) : Option Bool := (if l1 < 0 then some false else (if (w 1 5) ≤ l1 then some false else some true))
theorem kX6_hasVenue {l : Launch} {Γ : Gl} {B : Bs} {w : Wl} {G : Gf} {sz : Nat} {l1 : Int32} {r : Bool} (hW : Wd Γ B w G) (h : sX6_hasVenue w l1 = some r) : CtR l Γ yX6_hasVenue cX6_hasVenue 2 (some .boolean) 0 [.ref (B.1 + 1), .int l1] G sz (.int (bI r)) := by
  refine Ct.of rfl (Nat.le_of_ble_eq_true rfl) fun X hx hr hl hΓ hnm => ?_
  subst hl hΓ
  show J X 2 G sz 0 0 0 [some (.ref (B.1 + 1)), some (.int l1)] []
  unfold sX6_hasVenue at h
  refine J_il4 hx rfl rfl dX6_hasVenue_0 ?_
  refine J_if_lt hx 16 dX6_hasVenue_1 rfl (fun h1 => ?_) (fun h1 => ?_)
  · replace h := pos h h1
    refine J_iconst hx (0 : Int32) dX6_hasVenue_16 rfl ?_
    exact J_zretR hx hr dX6_hasVenue_17 (Nat.le_refl 0) (Nat.le_refl 0) (show (0 : Int32) = bI _ from congrArg bI (Option.some.inj h))
  · replace h := neg h h1
    refine J_il4 hx rfl rfl dX6_hasVenue_4 ?_
    refine J_al4 hx rfl rfl dX6_hasVenue_5 ?_
    refine g6_5 hx hW (rfl : kd 1 = 2) fl_X6_57 dX6_hasVenue_6 ?_
    refine J_icmp_ge hx 16 dX6_hasVenue_9 rfl (fun h2 => ?_) (fun h2 => ?_)
    · replace h := pos h h2
      refine J_iconst hx (0 : Int32) dX6_hasVenue_16 rfl ?_
      exact J_zretR hx hr dX6_hasVenue_17 (Nat.le_refl 0) (Nat.le_refl 0) (show (0 : Int32) = bI _ from congrArg bI (Option.some.inj h))
    · replace h := neg h h2
      refine J_iconst hx (1 : Int32) dX6_hasVenue_12 rfl ?_
      refine J_goto hx 17 dX6_hasVenue_13 rfl ?_
      exact J_zretR hx hr dX6_hasVenue_17 (Nat.le_refl 0) (Nat.le_refl 0) (show (1 : Int32) = bI _ from congrArg bI (Option.some.inj h))
theorem dX6_hasCrate_0 : decode cX6_hasCrate 0 = .ok (.iload_n 1, 1) := by decide +kernel
theorem dX6_hasCrate_1 : decode cX6_hasCrate 1 = .ok (.ifCond .lt 15, 3) := by decide +kernel
theorem dX6_hasCrate_4 : decode cX6_hasCrate 4 = .ok (.iload_n 1, 1) := by decide +kernel
theorem dX6_hasCrate_5 : decode cX6_hasCrate 5 = .ok (.aload_n 0, 1) := by decide +kernel
theorem dX6_hasCrate_6 : decode cX6_hasCrate 6 = .ok (.getfield 60, 3) := by decide +kernel
theorem dX6_hasCrate_9 : decode cX6_hasCrate 9 = .ok (.if_icmp .ge 7, 3) := by decide +kernel
theorem dX6_hasCrate_12 : decode cX6_hasCrate 12 = .ok (.iconst 1, 1) := by decide +kernel
theorem dX6_hasCrate_13 : decode cX6_hasCrate 13 = .ok (.goto 4, 3) := by decide +kernel
theorem dX6_hasCrate_16 : decode cX6_hasCrate 16 = .ok (.iconst 0, 1) := by decide +kernel
theorem dX6_hasCrate_17 : decode cX6_hasCrate 17 = .ok (.ireturn, 1) := by decide +kernel
def sX6_hasCrate (w : Wl) (l1 : Int32) : Option Bool := (if l1 < 0 then some false else (if (w 1 6) ≤ l1 then some false else some true))
theorem kX6_hasCrate {l : Launch} {Γ : Gl} {B : Bs} {w : Wl} {G : Gf} {sz : Nat} {l1 : Int32} {r : Bool} (hW : Wd Γ B w G) (h : sX6_hasCrate w l1 = some r) : CtR l Γ yX6_hasCrate cX6_hasCrate 2 (some .boolean) 0 [.ref (B.1 + 1), .int l1] G sz (.int (bI r)) := by
  refine Ct.of rfl (Nat.le_of_ble_eq_true rfl) fun X hx hr hl hΓ hnm => ?_
  subst hl hΓ
  show J X 2 G sz 0 0 0 [some (.ref (B.1 + 1)), some (.int l1)] []
  unfold sX6_hasCrate at h
  refine J_il4 hx rfl rfl dX6_hasCrate_0 ?_
  refine J_if_lt hx 16 dX6_hasCrate_1 rfl (fun h1 => ?_) (fun h1 => ?_)
  · replace h := pos h h1
    refine J_iconst hx (0 : Int32) dX6_hasCrate_16 rfl ?_
    exact J_zretR hx hr dX6_hasCrate_17 (Nat.le_refl 0) (Nat.le_refl 0) (show (0 : Int32) = bI _ from congrArg bI (Option.some.inj h))
  · replace h := neg h h1
    refine J_il4 hx rfl rfl dX6_hasCrate_4 ?_
    refine J_al4 hx rfl rfl dX6_hasCrate_5 ?_
    refine g6_6 hx hW (rfl : kd 1 = 2) fl_X6_60 dX6_hasCrate_6 ?_
    refine J_icmp_ge hx 16 dX6_hasCrate_9 rfl (fun h2 => ?_) (fun h2 => ?_)
    · replace h := pos h h2
      refine J_iconst hx (0 : Int32) dX6_hasCrate_16 rfl ?_
      exact J_zretR hx hr dX6_hasCrate_17 (Nat.le_refl 0) (Nat.le_refl 0) (show (0 : Int32) = bI _ from congrArg bI (Option.some.inj h))
    · replace h := neg h h2
      refine J_iconst hx (1 : Int32) dX6_hasCrate_12 rfl ?_
      refine J_goto hx 17 dX6_hasCrate_13 rfl ?_
      exact J_zretR hx hr dX6_hasCrate_17 (Nat.le_refl 0) (Nat.le_refl 0) (show (1 : Int32) = bI _ from congrArg bI (Option.some.inj h))
theorem dX6_isWithinReach_0 : decode cX6_isWithinReach 0 = .ok (.iload_n 1, 1) := by decide +kernel
theorem dX6_isWithinReach_1 : decode cX6_isWithinReach 1 = .ok (.istore_n 2, 1) := by decide +kernel
theorem dX6_isWithinReach_2 : decode cX6_isWithinReach 2 = .ok (.iconst 0, 1) := by decide +kernel
theorem dX6_isWithinReach_3 : decode cX6_isWithinReach 3 = .ok (.istore_n 3, 1) := by decide +kernel
theorem dX6_isWithinReach_4 : decode cX6_isWithinReach 4 = .ok (.iload_n 3, 1) := by decide +kernel
theorem dX6_isWithinReach_5 : decode cX6_isWithinReach 5 = .ok (.bipush 12, 2) := by decide +kernel
theorem dX6_isWithinReach_7 : decode cX6_isWithinReach 7 = .ok (.if_icmp .ge 61, 3) := by decide +kernel
theorem dX6_isWithinReach_10 : decode cX6_isWithinReach 10 = .ok (.aload_n 0, 1) := by decide +kernel
theorem dX6_isWithinReach_11 : decode cX6_isWithinReach 11 = .ok (.getfield 23, 3) := by decide +kernel
theorem dX6_isWithinReach_14 : decode cX6_isWithinReach 14 = .ok (.iload_n 2, 1) := by decide +kernel
theorem dX6_isWithinReach_15 : decode cX6_isWithinReach 15 = .ok (.aaload, 1) := by decide +kernel
theorem dX6_isWithinReach_16 : decode cX6_isWithinReach 16 = .ok (.getfield 95, 3) := by decide +kernel
theorem dX6_isWithinReach_19 : decode cX6_isWithinReach 19 = .ok (.istore 4, 2) := by decide +kernel
theorem dX6_isWithinReach_21 : decode cX6_isWithinReach 21 = .ok (.aload_n 0, 1) := by decide +kernel
theorem dX6_isWithinReach_22 : decode cX6_isWithinReach 22 = .ok (.iload 4, 2) := by decide +kernel
theorem dX6_isWithinReach_24 : decode cX6_isWithinReach 24 = .ok (.invokevirtual 98, 3) := by decide +kernel
theorem dX6_isWithinReach_27 : decode cX6_isWithinReach 27 = .ok (.ifCond .ne 17, 3) := by decide +kernel
theorem dX6_isWithinReach_30 : decode cX6_isWithinReach 30 = .ok (.aload_n 0, 1) := by decide +kernel
theorem dX6_isWithinReach_31 : decode cX6_isWithinReach 31 = .ok (.aload_n 0, 1) := by decide +kernel
theorem dX6_isWithinReach_32 : decode cX6_isWithinReach 32 = .ok (.getfield 23, 3) := by decide +kernel
theorem dX6_isWithinReach_35 : decode cX6_isWithinReach 35 = .ok (.iload_n 2, 1) := by decide +kernel
theorem dX6_isWithinReach_36 : decode cX6_isWithinReach 36 = .ok (.aaload, 1) := by decide +kernel
theorem dX6_isWithinReach_37 : decode cX6_isWithinReach 37 = .ok (.getfield 101, 3) := by decide +kernel
theorem dX6_isWithinReach_40 : decode cX6_isWithinReach 40 = .ok (.invokevirtual 89, 3) := by decide +kernel
theorem dX6_isWithinReach_43 : decode cX6_isWithinReach 43 = .ok (.ireturn, 1) := by decide +kernel
theorem dX6_isWithinReach_44 : decode cX6_isWithinReach 44 = .ok (.aload_n 0, 1) := by decide +kernel
theorem dX6_isWithinReach_45 : decode cX6_isWithinReach 45 = .ok (.getfield 23, 3) := by decide +kernel
theorem dX6_isWithinReach_48 : decode cX6_isWithinReach 48 = .ok (.iload 4, 2) := by decide +kernel
theorem dX6_isWithinReach_50 : decode cX6_isWithinReach 50 = .ok (.aaload, 1) := by decide +kernel
theorem dX6_isWithinReach_51 : decode cX6_isWithinReach 51 = .ok (.getfield 104, 3) := by decide +kernel
theorem dX6_isWithinReach_54 : decode cX6_isWithinReach 54 = .ok (.ifCond .ne 5, 3) := by decide +kernel
theorem dX6_isWithinReach_57 : decode cX6_isWithinReach 57 = .ok (.iconst 0, 1) := by decide +kernel
theorem dX6_isWithinReach_58 : decode cX6_isWithinReach 58 = .ok (.ireturn, 1) := by decide +kernel
theorem dX6_isWithinReach_59 : decode cX6_isWithinReach 59 = .ok (.iload 4, 2) := by decide +kernel
theorem dX6_isWithinReach_61 : decode cX6_isWithinReach 61 = .ok (.istore_n 2, 1) := by decide +kernel
theorem dX6_isWithinReach_62 : decode cX6_isWithinReach 62 = .ok (.iinc 3 1, 3) := by decide +kernel
theorem dX6_isWithinReach_65 : decode cX6_isWithinReach 65 = .ok (.goto (-61), 3) := by decide +kernel
theorem dX6_isWithinReach_68 : decode cX6_isWithinReach 68 = .ok (.iconst 0, 1) := by decide +kernel
theorem dX6_isWithinReach_69 : decode cX6_isWithinReach 69 = .ok (.ireturn, 1) := by decide +kernel
def sX6_isWithinReach_4 : Nat → Wl → Int32 → Int32 → Option Bool
  | 0, _, _, _ => none
  | n + 1, w, l2, l3 => (if (12 : Int32) ≤ l3 then some false else (idx l2 12).bind (fun c2 => (sX6_hasCrate w (w (29 + c2) 2)).bind (fun r5 => (if r5 = true then (idx (w (29 + c2) 2) 12).bind (fun c8 => (if (w (29 + c8) 1) = 0 then some false else sX6_isWithinReach_4 n w (w (29 + c2) 2) (l3 + 1))) else (sX6_hasVenue w (w (29 + c2) 3)).bind (fun r13 => some r13)))))
theorem tX6_isWithinReach_4 {X : Cx} {B : Bs} {sz : Nat} {G : Gf} {r : Bool} (hx : Fx X cX6_isWithinReach 5 RX6 1 0 0) (hr : Rt X (some .boolean) 0 0 (RdΨ (.int (bI r)) G sz)) : ∀ (n : Nat), ∀ (w : Wl) (l2 : Int32) (l3 : Int32) (hW : Wd (xΓ X) B w G) (h : sX6_isWithinReach_4 n w l2 l3 = some r), J X 5 G sz 0 0 4 [some (.ref (B.1 + 1)), none, some (.int l2), some (.int l3), none] [] := by
  intro n
  induction n with
  | zero => intro w l2 l3 hW h; rw [sX6_isWithinReach_4.eq_1] at h; cases h
  | succ n ih =>
    intro w l2 l3 hW h
    rw [sX6_isWithinReach_4.eq_2] at h
    refine J_il4 hx rfl rfl dX6_isWithinReach_4 ?_
    refine J_bipush hx (12 : Int32) dX6_isWithinReach_5 rfl ?_
    refine J_icmp_ge hx 68 dX6_isWithinReach_7 rfl (fun h1 => ?_) (fun h1 => ?_)
    · replace h := pos h h1
      refine J_iconst hx (0 : Int32) dX6_isWithinReach_68 rfl ?_
      exact J_zretR hx hr dX6_isWithinReach_69 (Nat.le_refl 0) (Nat.le_refl 0) (show (0 : Int32) = bI _ from congrArg bI (Option.some.inj h))
    · replace h := neg h h1
      refine J_al4 hx rfl rfl dX6_isWithinReach_10 ?_
      refine g6_10 hx hW 3 (rfl : kd 1 = 2) fl_X6_23 rfl dX6_isWithinReach_11 ?_
      refine J_il4 hx rfl rfl dX6_isWithinReach_14 ?_
      obtain ⟨c2, hc3, h⟩ := bnd h
      refine J_a4 hx hW (29 + c2) (rfl : kd 3 = 4) hc3 rfl dX6_isWithinReach_15 fun hk4 => ?_
      refine g3_2 hx hW hk4 fl_X6_95 dX6_isWithinReach_16 ?_
      refine J_is hx (by decide) (hc_of rfl) rfl dX6_isWithinReach_19 ?_
      refine J_al4 hx rfl rfl dX6_isWithinReach_21 ?_
      refine J_il hx rfl dX6_isWithinReach_22 ?_
      obtain ⟨r5, hr6, h⟩ := bnd h
      refine J_rdV hx (kX6_hasCrate  hW hr6) ml_X6_98 lk_X6_hasCrate (ci := 5) rfl (hW.obj (rfl : kd 1 = 2) (by decide) (by decide)) (rest := []) rfl rfl (by decide) (by decide) (Nat.le_of_ble_eq_true rfl) (Nat.le_refl 0) (Nat.le_refl 0) dX6_isWithinReach_24 ?_
      refine J_bif_ne hx 44 dX6_isWithinReach_27 rfl (fun h7 => ?_) (fun h7 => ?_)
      · replace h := pos h h7
        refine J_al4 hx rfl rfl dX6_isWithinReach_44 ?_
        refine g6_10 hx hW 3 (rfl : kd 1 = 2) fl_X6_23 rfl dX6_isWithinReach_45 ?_
        refine J_il hx rfl dX6_isWithinReach_48 ?_
        obtain ⟨c8, hc9, h⟩ := bnd h
        refine J_a4 hx hW (29 + c8) (rfl : kd 3 = 4) hc9 rfl dX6_isWithinReach_50 fun hk10 => ?_
        refine g3_1 hx hW hk10 fl_X6_104 dX6_isWithinReach_51 ?_
        refine J_if_ne hx 59 dX6_isWithinReach_54 rfl (fun h11 => ?_) (fun h11 => ?_)
        · replace h := neg h h11
          refine J_il hx rfl dX6_isWithinReach_59 ?_
          refine J_is4 hx rfl (by decide) (hc_of rfl) rfl dX6_isWithinReach_61 ?_
          refine J_iinc hx (v' := (l3 + 1)) rfl rfl (by decide) (hc_of rfl) rfl dX6_isWithinReach_62 ?_
          refine J_goto hx 4 dX6_isWithinReach_65 rfl ?_
          refine J_lw (ls' := [some (.ref (B.1 + 1)), none, some (.int (w (29 + c2) 2)), some (.int (l3 + 1)), none]) (lwS (lwN (lwS (lwS (lwN lwZ))))) ?_
          exact ih _ _ _  hW h
        · replace h := pos h h11
          refine J_iconst hx (0 : Int32) dX6_isWithinReach_57 rfl ?_
          exact J_zretR hx hr dX6_isWithinReach_58 (Nat.le_refl 0) (Nat.le_refl 0) (show (0 : Int32) = bI _ from congrArg bI (Option.some.inj h))
      · replace h := neg h (bft h7)
        refine J_al4 hx rfl rfl dX6_isWithinReach_30 ?_
        refine J_al4 hx rfl rfl dX6_isWithinReach_31 ?_
        refine g6_10 hx hW 3 (rfl : kd 1 = 2) fl_X6_23 rfl dX6_isWithinReach_32 ?_
        refine J_il4 hx rfl rfl dX6_isWithinReach_35 ?_
        refine J_a4 hx hW (29 + c2) (rfl : kd 3 = 4) hc3 rfl dX6_isWithinReach_36 fun hk12 => ?_
        refine g3_3 hx hW hk12 fl_X6_101 dX6_isWithinReach_37 ?_
        obtain ⟨r13, hr14, h⟩ := bnd h
        refine J_rdV hx (kX6_hasVenue  hW hr14) ml_X6_89 lk_X6_hasVenue (ci := 5) rfl (hW.obj (rfl : kd 1 = 2) (by decide) (by decide)) (rest := []) rfl rfl (by decide) (by decide) (Nat.le_of_ble_eq_true rfl) (Nat.le_refl 0) (Nat.le_refl 0) dX6_isWithinReach_40 ?_
        exact J_zretR hx hr dX6_isWithinReach_43 (Nat.le_refl 0) (Nat.le_refl 0) (show (bI r13) = bI _ from congrArg bI (Option.some.inj h))
def sX6_isWithinReach (w : Wl) (l1 : Int32) : Option Bool := sX6_isWithinReach_4 FU w l1 (0 : Int32)
theorem kX6_isWithinReach {l : Launch} {Γ : Gl} {B : Bs} {w : Wl} {G : Gf} {sz : Nat} {l1 : Int32} {r : Bool} (hW : Wd Γ B w G) (h : sX6_isWithinReach w l1 = some r) : CtR l Γ yX6_isWithinReach cX6_isWithinReach 5 (some .boolean) 1 [.ref (B.1 + 1), .int l1] G sz (.int (bI r)) := by
  refine Ct.of rfl (Nat.le_of_ble_eq_true rfl) fun X hx hr hl hΓ hnm => ?_
  subst hl hΓ
  show J X 5 G sz 0 0 0 [some (.ref (B.1 + 1)), some (.int l1), none, none, none] []
  unfold sX6_isWithinReach at h
  refine J_il4 hx rfl rfl dX6_isWithinReach_0 ?_
  refine J_is4 hx rfl (by decide) (hc_of rfl) rfl dX6_isWithinReach_1 ?_
  refine J_iconst hx (0 : Int32) dX6_isWithinReach_2 rfl ?_
  refine J_is4 hx rfl (by decide) (hc_of rfl) rfl dX6_isWithinReach_3 ?_
  refine J_lw (ls' := [some (.ref (B.1 + 1)), none, some (.int l1), some (.int (0 : Int32)), none]) (lwS (lwN (lwS (lwS (lwN lwZ))))) ?_
  exact tX6_isWithinReach_4 hx hr _ _ _ _  hW h
theorem dX6_outermost_0 : decode cX6_outermost 0 = .ok (.iload_n 1, 1) := by decide +kernel
theorem dX6_outermost_1 : decode cX6_outermost 1 = .ok (.istore_n 2, 1) := by decide +kernel
theorem dX6_outermost_2 : decode cX6_outermost 2 = .ok (.iconst 0, 1) := by decide +kernel
theorem dX6_outermost_3 : decode cX6_outermost 3 = .ok (.istore_n 3, 1) := by decide +kernel
theorem dX6_outermost_4 : decode cX6_outermost 4 = .ok (.iload_n 3, 1) := by decide +kernel
theorem dX6_outermost_5 : decode cX6_outermost 5 = .ok (.bipush 12, 2) := by decide +kernel
theorem dX6_outermost_7 : decode cX6_outermost 7 = .ok (.if_icmp .ge 39, 3) := by decide +kernel
theorem dX6_outermost_10 : decode cX6_outermost 10 = .ok (.aload_n 0, 1) := by decide +kernel
theorem dX6_outermost_11 : decode cX6_outermost 11 = .ok (.getfield 23, 3) := by decide +kernel
theorem dX6_outermost_14 : decode cX6_outermost 14 = .ok (.iload_n 2, 1) := by decide +kernel
theorem dX6_outermost_15 : decode cX6_outermost 15 = .ok (.aaload, 1) := by decide +kernel
theorem dX6_outermost_16 : decode cX6_outermost 16 = .ok (.getfield 95, 3) := by decide +kernel
theorem dX6_outermost_19 : decode cX6_outermost 19 = .ok (.istore 4, 2) := by decide +kernel
theorem dX6_outermost_21 : decode cX6_outermost 21 = .ok (.iload 4, 2) := by decide +kernel
theorem dX6_outermost_23 : decode cX6_outermost 23 = .ok (.ifCond .lt 12, 3) := by decide +kernel
theorem dX6_outermost_26 : decode cX6_outermost 26 = .ok (.iload 4, 2) := by decide +kernel
theorem dX6_outermost_28 : decode cX6_outermost 28 = .ok (.aload_n 0, 1) := by decide +kernel
theorem dX6_outermost_29 : decode cX6_outermost 29 = .ok (.getfield 60, 3) := by decide +kernel
theorem dX6_outermost_32 : decode cX6_outermost 32 = .ok (.if_icmp .lt 5, 3) := by decide +kernel
theorem dX6_outermost_35 : decode cX6_outermost 35 = .ok (.iload_n 2, 1) := by decide +kernel
theorem dX6_outermost_36 : decode cX6_outermost 36 = .ok (.ireturn, 1) := by decide +kernel
theorem dX6_outermost_37 : decode cX6_outermost 37 = .ok (.iload 4, 2) := by decide +kernel
theorem dX6_outermost_39 : decode cX6_outermost 39 = .ok (.istore_n 2, 1) := by decide +kernel
theorem dX6_outermost_40 : decode cX6_outermost 40 = .ok (.iinc 3 1, 3) := by decide +kernel
theorem dX6_outermost_43 : decode cX6_outermost 43 = .ok (.goto (-39), 3) := by decide +kernel
theorem dX6_outermost_46 : decode cX6_outermost 46 = .ok (.iload_n 2, 1) := by decide +kernel
theorem dX6_outermost_47 : decode cX6_outermost 47 = .ok (.ireturn, 1) := by decide +kernel
def sX6_outermost_4 : Nat → Wl → Int32 → Int32 → Option Int32
  | 0, _, _, _ => none
  | n + 1, w, l2, l3 => (if (12 : Int32) ≤ l3 then some l2 else (idx l2 12).bind (fun c2 => (if (w (29 + c2) 2) < 0 then some l2 else (if (w (29 + c2) 2) < (w 1 6) then sX6_outermost_4 n w (w (29 + c2) 2) (l3 + 1) else some l2))))
theorem tX6_outermost_4 {X : Cx} {B : Bs} {sz : Nat} {G : Gf} {r : Int32} (hx : Fx X cX6_outermost 5 RX6 0 0 0) (hr : Rt X (some .int) 0 0 (RdΨ (.int (r)) G sz)) : ∀ (n : Nat), ∀ (w : Wl) (l2 : Int32) (l3 : Int32) (hW : Wd (xΓ X) B w G) (h : sX6_outermost_4 n w l2 l3 = some r), J X 5 G sz 0 0 4 [some (.ref (B.1 + 1)), none, some (.int l2), some (.int l3), none] [] := by
  intro n
  induction n with
  | zero => intro w l2 l3 hW h; rw [sX6_outermost_4.eq_1] at h; cases h
  | succ n ih =>
    intro w l2 l3 hW h
    rw [sX6_outermost_4.eq_2] at h
    refine J_il4 hx rfl rfl dX6_outermost_4 ?_
    refine J_bipush hx (12 : Int32) dX6_outermost_5 rfl ?_
    refine J_icmp_ge hx 46 dX6_outermost_7 rfl (fun h1 => ?_) (fun h1 => ?_)
    · replace h := pos h h1
      refine J_il4 hx rfl rfl dX6_outermost_46 ?_
      exact J_iretR hx hr dX6_outermost_47 (Nat.le_refl 0) (Nat.le_refl 0) (Option.some.inj h)
    · replace h := neg h h1
      refine J_al4 hx rfl rfl dX6_outermost_10 ?_
      refine g6_10 hx hW 3 (rfl : kd 1 = 2) fl_X6_23 rfl dX6_outermost_11 ?_
      refine J_il4 hx rfl rfl dX6_outermost_14 ?_
      obtain ⟨c2, hc3, h⟩ := bnd h
      refine J_a4 hx hW (29 + c2) (rfl : kd 3 = 4) hc3 rfl dX6_outermost_15 fun hk4 => ?_
      refine g3_2 hx hW hk4 fl_X6_95 dX6_outermost_16 ?_
      refine J_is hx (by decide) (hc_of rfl) rfl dX6_outermost_19 ?_
      refine J_il hx rfl dX6_outermost_21 ?_
      refine J_if_lt hx 35 dX6_outermost_23 rfl (fun h5 => ?_) (fun h5 => ?_)
      · replace h := pos h h5
        refine J_il4 hx rfl rfl dX6_outermost_35 ?_
        exact J_iretR hx hr dX6_outermost_36 (Nat.le_refl 0) (Nat.le_refl 0) (Option.some.inj h)
      · replace h := neg h h5
        refine J_il hx rfl dX6_outermost_26 ?_
        refine J_al4 hx rfl rfl dX6_outermost_28 ?_
        refine g6_6 hx hW (rfl : kd 1 = 2) fl_X6_60 dX6_outermost_29 ?_
        refine J_icmp_lt hx 37 dX6_outermost_32 rfl (fun h6 => ?_) (fun h6 => ?_)
        · replace h := pos h h6
          refine J_il hx rfl dX6_outermost_37 ?_
          refine J_is4 hx rfl (by decide) (hc_of rfl) rfl dX6_outermost_39 ?_
          refine J_iinc hx (v' := (l3 + 1)) rfl rfl (by decide) (hc_of rfl) rfl dX6_outermost_40 ?_
          refine J_goto hx 4 dX6_outermost_43 rfl ?_
          refine J_lw (ls' := [some (.ref (B.1 + 1)), none, some (.int (w (29 + c2) 2)), some (.int (l3 + 1)), none]) (lwS (lwN (lwS (lwS (lwN lwZ))))) ?_
          exact ih _ _ _  hW h
        · replace h := neg h h6
          refine J_il4 hx rfl rfl dX6_outermost_35 ?_
          exact J_iretR hx hr dX6_outermost_36 (Nat.le_refl 0) (Nat.le_refl 0) (Option.some.inj h)
def sX6_outermost (w : Wl) (l1 : Int32) : Option Int32 := sX6_outermost_4 FU w l1 (0 : Int32)
theorem kX6_outermost {l : Launch} {Γ : Gl} {B : Bs} {w : Wl} {G : Gf} {sz : Nat} {l1 : Int32} {r : Int32} (hW : Wd Γ B w G) (h : sX6_outermost w l1 = some r) : CtR l Γ yX6_outermost cX6_outermost 5 (some .int) 0 [.ref (B.1 + 1), .int l1] G sz (.int (r)) := by
  refine Ct.of rfl (Nat.le_of_ble_eq_true rfl) fun X hx hr hl hΓ hnm => ?_
  subst hl hΓ
  show J X 5 G sz 0 0 0 [some (.ref (B.1 + 1)), some (.int l1), none, none, none] []
  unfold sX6_outermost at h
  refine J_il4 hx rfl rfl dX6_outermost_0 ?_
  refine J_is4 hx rfl (by decide) (hc_of rfl) rfl dX6_outermost_1 ?_
  refine J_iconst hx (0 : Int32) dX6_outermost_2 rfl ?_
  refine J_is4 hx rfl (by decide) (hc_of rfl) rfl dX6_outermost_3 ?_
  refine J_lw (ls' := [some (.ref (B.1 + 1)), none, some (.int l1), some (.int (0 : Int32)), none]) (lwS (lwN (lwS (lwS (lwN lwZ))))) ?_
  exact tX6_outermost_4 hx hr _ _ _ _  hW h
theorem dX6_venueOfCrate_0 : decode cX6_venueOfCrate 0 = .ok (.aload_n 0, 1) := by decide +kernel
theorem dX6_venueOfCrate_1 : decode cX6_venueOfCrate 1 = .ok (.getfield 23, 3) := by decide +kernel
theorem dX6_venueOfCrate_4 : decode cX6_venueOfCrate 4 = .ok (.aload_n 0, 1) := by decide +kernel
theorem dX6_venueOfCrate_5 : decode cX6_venueOfCrate 5 = .ok (.iload_n 1, 1) := by decide +kernel
theorem dX6_venueOfCrate_6 : decode cX6_venueOfCrate 6 = .ok (.invokevirtual 108, 3) := by decide +kernel
theorem dX6_venueOfCrate_9 : decode cX6_venueOfCrate 9 = .ok (.aaload, 1) := by decide +kernel
theorem dX6_venueOfCrate_10 : decode cX6_venueOfCrate 10 = .ok (.getfield 101, 3) := by decide +kernel
theorem dX6_venueOfCrate_13 : decode cX6_venueOfCrate 13 = .ok (.ireturn, 1) := by decide +kernel
def sX6_venueOfCrate (w : Wl) (l1 : Int32) : Option Int32 := (sX6_outermost w l1).bind (fun r1 => (idx r1 12).bind (fun c3 => some (w (29 + c3) 3)))
theorem kX6_venueOfCrate {l : Launch} {Γ : Gl} {B : Bs} {w : Wl} {G : Gf} {sz : Nat} {l1 : Int32} {r : Int32} (hW : Wd Γ B w G) (h : sX6_venueOfCrate w l1 = some r) : CtR l Γ yX6_venueOfCrate cX6_venueOfCrate 2 (some .int) 1 [.ref (B.1 + 1), .int l1] G sz (.int (r)) := by
  refine Ct.of rfl (Nat.le_of_ble_eq_true rfl) fun X hx hr hl hΓ hnm => ?_
  subst hl hΓ
  show J X 2 G sz 0 0 0 [some (.ref (B.1 + 1)), some (.int l1)] []
  unfold sX6_venueOfCrate at h
  refine J_al4 hx rfl rfl dX6_venueOfCrate_0 ?_
  refine g6_10 hx hW 3 (rfl : kd 1 = 2) fl_X6_23 rfl dX6_venueOfCrate_1 ?_
  refine J_al4 hx rfl rfl dX6_venueOfCrate_4 ?_
  refine J_il4 hx rfl rfl dX6_venueOfCrate_5 ?_
  obtain ⟨r1, hr2, h⟩ := bnd h
  refine J_rdV hx (kX6_outermost  hW hr2) ml_X6_108 lk_X6_outermost (ci := 5) rfl (hW.obj (rfl : kd 1 = 2) (by decide) (by decide)) (rest := [.ref (B.1 + 3)]) rfl rfl (by decide) (by decide) (Nat.le_of_ble_eq_true rfl) (Nat.le_refl 0) (Nat.le_refl 0) dX6_venueOfCrate_6 ?_
  obtain ⟨c3, hc4, h⟩ := bnd h
  refine J_a4 hx hW (29 + c3) (rfl : kd 3 = 4) hc4 rfl dX6_venueOfCrate_9 fun hk5 => ?_
  refine g3_3 hx hW hk5 fl_X6_101 dX6_venueOfCrate_10 ?_
  exact J_iretR hx hr dX6_venueOfCrate_13 (Nat.le_refl 0) (Nat.le_refl 0) (Option.some.inj h)
theorem dX6_hasWork_0 : decode cX6_hasWork 0 = .ok (.iload_n 1, 1) := by decide +kernel
theorem dX6_hasWork_1 : decode cX6_hasWork 1 = .ok (.ifCond .lt 15, 3) := by decide +kernel
theorem dX6_hasWork_4 : decode cX6_hasWork 4 = .ok (.iload_n 1, 1) := by decide +kernel
theorem dX6_hasWork_5 : decode cX6_hasWork 5 = .ok (.aload_n 0, 1) := by decide +kernel
theorem dX6_hasWork_6 : decode cX6_hasWork 6 = .ok (.getfield 63, 3) := by decide +kernel
theorem dX6_hasWork_9 : decode cX6_hasWork 9 = .ok (.if_icmp .ge 7, 3) := by decide +kernel
theorem dX6_hasWork_12 : decode cX6_hasWork 12 = .ok (.iconst 1, 1) := by decide +kernel
theorem dX6_hasWork_13 : decode cX6_hasWork 13 = .ok (.goto 4, 3) := by decide +kernel
theorem dX6_hasWork_16 : decode cX6_hasWork 16 = .ok (.iconst 0, 1) := by decide +kernel
theorem dX6_hasWork_17 : decode cX6_hasWork 17 = .ok (.ireturn, 1) := by decide +kernel
def sX6_hasWork (w : Wl) (l1 : Int32) : Option Bool := (if l1 < 0 then some false else (if (w 1 7) ≤ l1 then some false else some true))
theorem kX6_hasWork {l : Launch} {Γ : Gl} {B : Bs} {w : Wl} {G : Gf} {sz : Nat} {l1 : Int32} {r : Bool} (hW : Wd Γ B w G) (h : sX6_hasWork w l1 = some r) : CtR l Γ yX6_hasWork cX6_hasWork 2 (some .boolean) 0 [.ref (B.1 + 1), .int l1] G sz (.int (bI r)) := by
  refine Ct.of rfl (Nat.le_of_ble_eq_true rfl) fun X hx hr hl hΓ hnm => ?_
  subst hl hΓ
  show J X 2 G sz 0 0 0 [some (.ref (B.1 + 1)), some (.int l1)] []
  unfold sX6_hasWork at h
  refine J_il4 hx rfl rfl dX6_hasWork_0 ?_
  refine J_if_lt hx 16 dX6_hasWork_1 rfl (fun h1 => ?_) (fun h1 => ?_)
  · replace h := pos h h1
    refine J_iconst hx (0 : Int32) dX6_hasWork_16 rfl ?_
    exact J_zretR hx hr dX6_hasWork_17 (Nat.le_refl 0) (Nat.le_refl 0) (show (0 : Int32) = bI _ from congrArg bI (Option.some.inj h))
  · replace h := neg h h1
    refine J_il4 hx rfl rfl dX6_hasWork_4 ?_
    refine J_al4 hx rfl rfl dX6_hasWork_5 ?_
    refine g6_7 hx hW (rfl : kd 1 = 2) fl_X6_63 dX6_hasWork_6 ?_
    refine J_icmp_ge hx 16 dX6_hasWork_9 rfl (fun h2 => ?_) (fun h2 => ?_)
    · replace h := pos h h2
      refine J_iconst hx (0 : Int32) dX6_hasWork_16 rfl ?_
      exact J_zretR hx hr dX6_hasWork_17 (Nat.le_refl 0) (Nat.le_refl 0) (show (0 : Int32) = bI _ from congrArg bI (Option.some.inj h))
    · replace h := neg h h2
      refine J_iconst hx (1 : Int32) dX6_hasWork_12 rfl ?_
      refine J_goto hx 17 dX6_hasWork_13 rfl ?_
      exact J_zretR hx hr dX6_hasWork_17 (Nat.le_refl 0) (Nat.le_refl 0) (show (1 : Int32) = bI _ from congrArg bI (Option.some.inj h))
theorem dX6_hasCourier_0 : decode cX6_hasCourier 0 = .ok (.iload_n 1, 1) := by decide +kernel
theorem dX6_hasCourier_1 : decode cX6_hasCourier 1 = .ok (.ifCond .lt 15, 3) := by decide +kernel
theorem dX6_hasCourier_4 : decode cX6_hasCourier 4 = .ok (.iload_n 1, 1) := by decide +kernel
theorem dX6_hasCourier_5 : decode cX6_hasCourier 5 = .ok (.aload_n 0, 1) := by decide +kernel
theorem dX6_hasCourier_6 : decode cX6_hasCourier 6 = .ok (.getfield 66, 3) := by decide +kernel
theorem dX6_hasCourier_9 : decode cX6_hasCourier 9 = .ok (.if_icmp .ge 7, 3) := by decide +kernel
theorem dX6_hasCourier_12 : decode cX6_hasCourier 12 = .ok (.iconst 1, 1) := by decide +kernel
theorem dX6_hasCourier_13 : decode cX6_hasCourier 13 = .ok (.goto 4, 3) := by decide +kernel
theorem dX6_hasCourier_16 : decode cX6_hasCourier 16 = .ok (.iconst 0, 1) := by decide +kernel
theorem dX6_hasCourier_17 : decode cX6_hasCourier 17 = .ok (.ireturn, 1) := by decide +kernel
def sX6_hasCourier (w : Wl) (l1 : Int32) : Option Bool := (if l1 < 0 then some false else (if (w 1 8) ≤ l1 then some false else some true))
theorem kX6_hasCourier {l : Launch} {Γ : Gl} {B : Bs} {w : Wl} {G : Gf} {sz : Nat} {l1 : Int32} {r : Bool} (hW : Wd Γ B w G) (h : sX6_hasCourier w l1 = some r) : CtR l Γ yX6_hasCourier cX6_hasCourier 2 (some .boolean) 0 [.ref (B.1 + 1), .int l1] G sz (.int (bI r)) := by
  refine Ct.of rfl (Nat.le_of_ble_eq_true rfl) fun X hx hr hl hΓ hnm => ?_
  subst hl hΓ
  show J X 2 G sz 0 0 0 [some (.ref (B.1 + 1)), some (.int l1)] []
  unfold sX6_hasCourier at h
  refine J_il4 hx rfl rfl dX6_hasCourier_0 ?_
  refine J_if_lt hx 16 dX6_hasCourier_1 rfl (fun h1 => ?_) (fun h1 => ?_)
  · replace h := pos h h1
    refine J_iconst hx (0 : Int32) dX6_hasCourier_16 rfl ?_
    exact J_zretR hx hr dX6_hasCourier_17 (Nat.le_refl 0) (Nat.le_refl 0) (show (0 : Int32) = bI _ from congrArg bI (Option.some.inj h))
  · replace h := neg h h1
    refine J_il4 hx rfl rfl dX6_hasCourier_4 ?_
    refine J_al4 hx rfl rfl dX6_hasCourier_5 ?_
    refine g6_8 hx hW (rfl : kd 1 = 2) fl_X6_66 dX6_hasCourier_6 ?_
    refine J_icmp_ge hx 16 dX6_hasCourier_9 rfl (fun h2 => ?_) (fun h2 => ?_)
    · replace h := pos h h2
      refine J_iconst hx (0 : Int32) dX6_hasCourier_16 rfl ?_
      exact J_zretR hx hr dX6_hasCourier_17 (Nat.le_refl 0) (Nat.le_refl 0) (show (0 : Int32) = bI _ from congrArg bI (Option.some.inj h))
    · replace h := neg h h2
      refine J_iconst hx (1 : Int32) dX6_hasCourier_12 rfl ?_
      refine J_goto hx 17 dX6_hasCourier_13 rfl ?_
      exact J_zretR hx hr dX6_hasCourier_17 (Nat.le_refl 0) (Nat.le_refl 0) (show (1 : Int32) = bI _ from congrArg bI (Option.some.inj h))
theorem dX6_isCourierOrNone_0 : decode cX6_isCourierOrNone 0 = .ok (.iload_n 1, 1) := by decide +kernel
theorem dX6_isCourierOrNone_1 : decode cX6_isCourierOrNone 1 = .ok (.iconst (-1), 1) := by decide +kernel
theorem dX6_isCourierOrNone_2 : decode cX6_isCourierOrNone 2 = .ok (.if_icmp .eq 11, 3) := by decide +kernel
theorem dX6_isCourierOrNone_5 : decode cX6_isCourierOrNone 5 = .ok (.aload_n 0, 1) := by decide +kernel
theorem dX6_isCourierOrNone_6 : decode cX6_isCourierOrNone 6 = .ok (.iload_n 1, 1) := by decide +kernel
theorem dX6_isCourierOrNone_7 : decode cX6_isCourierOrNone 7 = .ok (.invokevirtual 85, 3) := by decide +kernel
theorem dX6_isCourierOrNone_10 : decode cX6_isCourierOrNone 10 = .ok (.ifCond .eq 7, 3) := by decide +kernel
theorem dX6_isCourierOrNone_13 : decode cX6_isCourierOrNone 13 = .ok (.iconst 1, 1) := by decide +kernel
theorem dX6_isCourierOrNone_14 : decode cX6_isCourierOrNone 14 = .ok (.goto 4, 3) := by decide +kernel
theorem dX6_isCourierOrNone_17 : decode cX6_isCourierOrNone 17 = .ok (.iconst 0, 1) := by decide +kernel
theorem dX6_isCourierOrNone_18 : decode cX6_isCourierOrNone 18 = .ok (.ireturn, 1) := by decide +kernel
def sX6_isCourierOrNone (w : Wl) (l1 : Int32) : Option Bool := (if l1 = (-1 : Int32) then some true else (sX6_hasCourier w l1).bind (fun r2 => (if r2 = true then some true else some false)))
theorem kX6_isCourierOrNone {l : Launch} {Γ : Gl} {B : Bs} {w : Wl} {G : Gf} {sz : Nat} {l1 : Int32} {r : Bool} (hW : Wd Γ B w G) (h : sX6_isCourierOrNone w l1 = some r) : CtR l Γ yX6_isCourierOrNone cX6_isCourierOrNone 2 (some .boolean) 1 [.ref (B.1 + 1), .int l1] G sz (.int (bI r)) := by
  refine Ct.of rfl (Nat.le_of_ble_eq_true rfl) fun X hx hr hl hΓ hnm => ?_
  subst hl hΓ
  show J X 2 G sz 0 0 0 [some (.ref (B.1 + 1)), some (.int l1)] []
  unfold sX6_isCourierOrNone at h
  refine J_il4 hx rfl rfl dX6_isCourierOrNone_0 ?_
  refine J_iconst hx (-1 : Int32) dX6_isCourierOrNone_1 rfl ?_
  refine J_icmp_eq hx 13 dX6_isCourierOrNone_2 rfl (fun h1 => ?_) (fun h1 => ?_)
  · replace h := pos h h1
    refine J_iconst hx (1 : Int32) dX6_isCourierOrNone_13 rfl ?_
    refine J_goto hx 18 dX6_isCourierOrNone_14 rfl ?_
    exact J_zretR hx hr dX6_isCourierOrNone_18 (Nat.le_refl 0) (Nat.le_refl 0) (show (1 : Int32) = bI _ from congrArg bI (Option.some.inj h))
  · replace h := neg h h1
    refine J_al4 hx rfl rfl dX6_isCourierOrNone_5 ?_
    refine J_il4 hx rfl rfl dX6_isCourierOrNone_6 ?_
    obtain ⟨r2, hr3, h⟩ := bnd h
    refine J_rdV hx (kX6_hasCourier  hW hr3) ml_X6_85 lk_X6_hasCourier (ci := 5) rfl (hW.obj (rfl : kd 1 = 2) (by decide) (by decide)) (rest := []) rfl rfl (by decide) (by decide) (Nat.le_of_ble_eq_true rfl) (Nat.le_refl 0) (Nat.le_refl 0) dX6_isCourierOrNone_7 ?_
    refine J_bif_eq hx 17 dX6_isCourierOrNone_10 rfl (fun h4 => ?_) (fun h4 => ?_)
    · replace h := neg h (bft h4)
      refine J_iconst hx (0 : Int32) dX6_isCourierOrNone_17 rfl ?_
      exact J_zretR hx hr dX6_isCourierOrNone_18 (Nat.le_refl 0) (Nat.le_refl 0) (show (0 : Int32) = bI _ from congrArg bI (Option.some.inj h))
    · replace h := pos h h4
      refine J_iconst hx (1 : Int32) dX6_isCourierOrNone_13 rfl ?_
      refine J_goto hx 18 dX6_isCourierOrNone_14 rfl ?_
      exact J_zretR hx hr dX6_isCourierOrNone_18 (Nat.le_refl 0) (Nat.le_refl 0) (show (1 : Int32) = bI _ from congrArg bI (Option.some.inj h))
theorem dX6_hoursBetween_0 : decode cX6_hoursBetween 0 = .ok (.aload_n 0, 1) := by decide +kernel
theorem dX6_hoursBetween_1 : decode cX6_hoursBetween 1 = .ok (.iload_n 1, 1) := by decide +kernel
theorem dX6_hoursBetween_2 : decode cX6_hoursBetween 2 = .ok (.invokevirtual 89, 3) := by decide +kernel
theorem dX6_hoursBetween_5 : decode cX6_hoursBetween 5 = .ok (.ifCond .eq 25, 3) := by decide +kernel
theorem dX6_hoursBetween_8 : decode cX6_hoursBetween 8 = .ok (.aload_n 0, 1) := by decide +kernel
theorem dX6_hoursBetween_9 : decode cX6_hoursBetween 9 = .ok (.iload_n 2, 1) := by decide +kernel
theorem dX6_hoursBetween_10 : decode cX6_hoursBetween 10 = .ok (.invokevirtual 89, 3) := by decide +kernel
theorem dX6_hoursBetween_13 : decode cX6_hoursBetween 13 = .ok (.ifCond .eq 17, 3) := by decide +kernel
theorem dX6_hoursBetween_16 : decode cX6_hoursBetween 16 = .ok (.aload_n 0, 1) := by decide +kernel
theorem dX6_hoursBetween_17 : decode cX6_hoursBetween 17 = .ok (.getfield 17, 3) := by decide +kernel
theorem dX6_hoursBetween_20 : decode cX6_hoursBetween 20 = .ok (.iload_n 1, 1) := by decide +kernel
theorem dX6_hoursBetween_21 : decode cX6_hoursBetween 21 = .ok (.aaload, 1) := by decide +kernel
theorem dX6_hoursBetween_22 : decode cX6_hoursBetween 22 = .ok (.getfield 92, 3) := by decide +kernel
theorem dX6_hoursBetween_25 : decode cX6_hoursBetween 25 = .ok (.iload_n 2, 1) := by decide +kernel
theorem dX6_hoursBetween_26 : decode cX6_hoursBetween 26 = .ok (.iaload, 1) := by decide +kernel
theorem dX6_hoursBetween_27 : decode cX6_hoursBetween 27 = .ok (.goto 4, 3) := by decide +kernel
theorem dX6_hoursBetween_30 : decode cX6_hoursBetween 30 = .ok (.iconst 0, 1) := by decide +kernel
theorem dX6_hoursBetween_31 : decode cX6_hoursBetween 31 = .ok (.ireturn, 1) := by decide +kernel
def sX6_hoursBetween (w : Wl) (l1 : Int32) (l2 : Int32) : Option Int32 := (sX6_hasVenue w l1).bind (fun r1 => (if r1 = true then (sX6_hasVenue w l2).bind (fun r4 => (if r4 = true then (idx l1 8).bind (fun c7 => (idx l2 8).bind (fun c10 => some (w ((13 + 2 * c7) + 1) c10))) else some (0 : Int32))) else some (0 : Int32)))
theorem kX6_hoursBetween {l : Launch} {Γ : Gl} {B : Bs} {w : Wl} {G : Gf} {sz : Nat} {l1 : Int32} {l2 : Int32} {r : Int32} (hW : Wd Γ B w G) (h : sX6_hoursBetween w l1 l2 = some r) : CtR l Γ yX6_hoursBetween cX6_hoursBetween 3 (some .int) 1 [.ref (B.1 + 1), .int l1, .int l2] G sz (.int (r)) := by
  refine Ct.of rfl (Nat.le_of_ble_eq_true rfl) fun X hx hr hl hΓ hnm => ?_
  subst hl hΓ
  show J X 3 G sz 0 0 0 [some (.ref (B.1 + 1)), some (.int l1), some (.int l2)] []
  unfold sX6_hoursBetween at h
  refine J_al4 hx rfl rfl dX6_hoursBetween_0 ?_
  refine J_il4 hx rfl rfl dX6_hoursBetween_1 ?_
  obtain ⟨r1, hr2, h⟩ := bnd h
  refine J_rdV hx (kX6_hasVenue  hW hr2) ml_X6_89 lk_X6_hasVenue (ci := 5) rfl (hW.obj (rfl : kd 1 = 2) (by decide) (by decide)) (rest := []) rfl rfl (by decide) (by decide) (Nat.le_of_ble_eq_true rfl) (Nat.le_refl 0) (Nat.le_refl 0) dX6_hoursBetween_2 ?_
  refine J_bif_eq hx 30 dX6_hoursBetween_5 rfl (fun h3 => ?_) (fun h3 => ?_)
  · replace h := neg h (bft h3)
    refine J_iconst hx (0 : Int32) dX6_hoursBetween_30 rfl ?_
    exact J_iretR hx hr dX6_hoursBetween_31 (Nat.le_refl 0) (Nat.le_refl 0) (Option.some.inj h)
  · replace h := pos h h3
    refine J_al4 hx rfl rfl dX6_hoursBetween_8 ?_
    refine J_il4 hx rfl rfl dX6_hoursBetween_9 ?_
    obtain ⟨r4, hr5, h⟩ := bnd h
    refine J_rdV hx (kX6_hasVenue  hW hr5) ml_X6_89 lk_X6_hasVenue (ci := 5) rfl (hW.obj (rfl : kd 1 = 2) (by decide) (by decide)) (rest := []) rfl rfl (by decide) (by decide) (Nat.le_of_ble_eq_true rfl) (Nat.le_refl 0) (Nat.le_refl 0) dX6_hoursBetween_10 ?_
    refine J_bif_eq hx 30 dX6_hoursBetween_13 rfl (fun h6 => ?_) (fun h6 => ?_)
    · replace h := neg h (bft h6)
      refine J_iconst hx (0 : Int32) dX6_hoursBetween_30 rfl ?_
      exact J_iretR hx hr dX6_hoursBetween_31 (Nat.le_refl 0) (Nat.le_refl 0) (Option.some.inj h)
    · replace h := pos h h6
      refine J_al4 hx rfl rfl dX6_hoursBetween_16 ?_
      refine g6_9 hx hW 2 (rfl : kd 1 = 2) fl_X6_17 rfl dX6_hoursBetween_17 ?_
      refine J_il4 hx rfl rfl dX6_hoursBetween_20 ?_
      obtain ⟨c7, hc8, h⟩ := bnd h
      refine J_a3 hx hW (13 + 2 * c7) (rfl : kd 2 = 3) hc8 rfl dX6_hoursBetween_21 fun hk9 => ?_
      refine g9_5 hx hW ((13 + 2 * c7) + 1) hk9 fl_X6_92 rfl dX6_hoursBetween_22 ?_
      refine J_il4 hx rfl rfl dX6_hoursBetween_25 ?_
      obtain ⟨c10, hc11, h⟩ := bnd h
      refine J_iaW hx hW (kd8 hk9) hc11 dX6_hoursBetween_26 ?_
      refine J_goto hx 31 dX6_hoursBetween_27 rfl ?_
      exact J_iretR hx hr dX6_hoursBetween_31 (Nat.le_refl 0) (Nat.le_refl 0) (Option.some.inj h)
theorem dX6_isInOrBelow_0 : decode cX6_isInOrBelow 0 = .ok (.iload_n 1, 1) := by decide +kernel
theorem dX6_isInOrBelow_1 : decode cX6_isInOrBelow 1 = .ok (.istore_n 3, 1) := by decide +kernel
theorem dX6_isInOrBelow_2 : decode cX6_isInOrBelow 2 = .ok (.iconst 0, 1) := by decide +kernel
theorem dX6_isInOrBelow_3 : decode cX6_isInOrBelow 3 = .ok (.istore 4, 2) := by decide +kernel
theorem dX6_isInOrBelow_5 : decode cX6_isInOrBelow 5 = .ok (.iload 4, 2) := by decide +kernel
theorem dX6_isInOrBelow_7 : decode cX6_isInOrBelow 7 = .ok (.bipush 12, 2) := by decide +kernel
theorem dX6_isInOrBelow_9 : decode cX6_isInOrBelow 9 = .ok (.if_icmp .ge 34, 3) := by decide +kernel
theorem dX6_isInOrBelow_12 : decode cX6_isInOrBelow 12 = .ok (.aload_n 0, 1) := by decide +kernel
theorem dX6_isInOrBelow_13 : decode cX6_isInOrBelow 13 = .ok (.iload_n 3, 1) := by decide +kernel
theorem dX6_isInOrBelow_14 : decode cX6_isInOrBelow 14 = .ok (.invokevirtual 98, 3) := by decide +kernel
theorem dX6_isInOrBelow_17 : decode cX6_isInOrBelow 17 = .ok (.ifCond .eq 26, 3) := by decide +kernel
theorem dX6_isInOrBelow_20 : decode cX6_isInOrBelow 20 = .ok (.iload_n 3, 1) := by decide +kernel
theorem dX6_isInOrBelow_21 : decode cX6_isInOrBelow 21 = .ok (.iload_n 2, 1) := by decide +kernel
theorem dX6_isInOrBelow_22 : decode cX6_isInOrBelow 22 = .ok (.if_icmp .ne 5, 3) := by decide +kernel
theorem dX6_isInOrBelow_25 : decode cX6_isInOrBelow 25 = .ok (.iconst 1, 1) := by decide +kernel
theorem dX6_isInOrBelow_26 : decode cX6_isInOrBelow 26 = .ok (.ireturn, 1) := by decide +kernel
theorem dX6_isInOrBelow_27 : decode cX6_isInOrBelow 27 = .ok (.aload_n 0, 1) := by decide +kernel
theorem dX6_isInOrBelow_28 : decode cX6_isInOrBelow 28 = .ok (.getfield 23, 3) := by decide +kernel
theorem dX6_isInOrBelow_31 : decode cX6_isInOrBelow 31 = .ok (.iload_n 3, 1) := by decide +kernel
theorem dX6_isInOrBelow_32 : decode cX6_isInOrBelow 32 = .ok (.aaload, 1) := by decide +kernel
theorem dX6_isInOrBelow_33 : decode cX6_isInOrBelow 33 = .ok (.getfield 95, 3) := by decide +kernel
theorem dX6_isInOrBelow_36 : decode cX6_isInOrBelow 36 = .ok (.istore_n 3, 1) := by decide +kernel
theorem dX6_isInOrBelow_37 : decode cX6_isInOrBelow 37 = .ok (.iinc 4 1, 3) := by decide +kernel
theorem dX6_isInOrBelow_40 : decode cX6_isInOrBelow 40 = .ok (.goto (-35), 3) := by decide +kernel
theorem dX6_isInOrBelow_43 : decode cX6_isInOrBelow 43 = .ok (.iconst 0, 1) := by decide +kernel
theorem dX6_isInOrBelow_44 : decode cX6_isInOrBelow 44 = .ok (.ireturn, 1) := by decide +kernel
def sX6_isInOrBelow_5 : Nat → Wl → Int32 → Int32 → Int32 → Option Bool
  | 0, _, _, _, _ => none
  | n + 1, w, l2, l3, l4 => (if (12 : Int32) ≤ l4 then some false else (sX6_hasCrate w l3).bind (fun r2 => (if r2 = true then (if l3 = l2 then some true else (idx l3 12).bind (fun c6 => sX6_isInOrBelow_5 n w l2 (w (29 + c6) 2) (l4 + 1))) else some false)))
theorem tX6_isInOrBelow_5 {X : Cx} {B : Bs} {sz : Nat} {G : Gf} {r : Bool} (hx : Fx X cX6_isInOrBelow 5 RX6 1 0 0) (hr : Rt X (some .boolean) 0 0 (RdΨ (.int (bI r)) G sz)) : ∀ (n : Nat), ∀ (w : Wl) (l2 : Int32) (l3 : Int32) (l4 : Int32) (hW : Wd (xΓ X) B w G) (h : sX6_isInOrBelow_5 n w l2 l3 l4 = some r), J X 5 G sz 0 0 5 [some (.ref (B.1 + 1)), none, some (.int l2), some (.int l3), some (.int l4)] [] := by
  intro n
  induction n with
  | zero => intro w l2 l3 l4 hW h; rw [sX6_isInOrBelow_5.eq_1] at h; cases h
  | succ n ih =>
    intro w l2 l3 l4 hW h
    rw [sX6_isInOrBelow_5.eq_2] at h
    refine J_il hx rfl dX6_isInOrBelow_5 ?_
    refine J_bipush hx (12 : Int32) dX6_isInOrBelow_7 rfl ?_
    refine J_icmp_ge hx 43 dX6_isInOrBelow_9 rfl (fun h1 => ?_) (fun h1 => ?_)
    · replace h := pos h h1
      refine J_iconst hx (0 : Int32) dX6_isInOrBelow_43 rfl ?_
      exact J_zretR hx hr dX6_isInOrBelow_44 (Nat.le_refl 0) (Nat.le_refl 0) (show (0 : Int32) = bI _ from congrArg bI (Option.some.inj h))
    · replace h := neg h h1
      refine J_al4 hx rfl rfl dX6_isInOrBelow_12 ?_
      refine J_il4 hx rfl rfl dX6_isInOrBelow_13 ?_
      obtain ⟨r2, hr3, h⟩ := bnd h
      refine J_rdV hx (kX6_hasCrate  hW hr3) ml_X6_98 lk_X6_hasCrate (ci := 5) rfl (hW.obj (rfl : kd 1 = 2) (by decide) (by decide)) (rest := []) rfl rfl (by decide) (by decide) (Nat.le_of_ble_eq_true rfl) (Nat.le_refl 0) (Nat.le_refl 0) dX6_isInOrBelow_14 ?_
      refine J_bif_eq hx 43 dX6_isInOrBelow_17 rfl (fun h4 => ?_) (fun h4 => ?_)
      · replace h := neg h (bft h4)
        refine J_iconst hx (0 : Int32) dX6_isInOrBelow_43 rfl ?_
        exact J_zretR hx hr dX6_isInOrBelow_44 (Nat.le_refl 0) (Nat.le_refl 0) (show (0 : Int32) = bI _ from congrArg bI (Option.some.inj h))
      · replace h := pos h h4
        refine J_il4 hx rfl rfl dX6_isInOrBelow_20 ?_
        refine J_il4 hx rfl rfl dX6_isInOrBelow_21 ?_
        refine J_icmp_ne hx 27 dX6_isInOrBelow_22 rfl (fun h5 => ?_) (fun h5 => ?_)
        · replace h := neg h h5
          refine J_al4 hx rfl rfl dX6_isInOrBelow_27 ?_
          refine g6_10 hx hW 3 (rfl : kd 1 = 2) fl_X6_23 rfl dX6_isInOrBelow_28 ?_
          refine J_il4 hx rfl rfl dX6_isInOrBelow_31 ?_
          obtain ⟨c6, hc7, h⟩ := bnd h
          refine J_a4 hx hW (29 + c6) (rfl : kd 3 = 4) hc7 rfl dX6_isInOrBelow_32 fun hk8 => ?_
          refine g3_2 hx hW hk8 fl_X6_95 dX6_isInOrBelow_33 ?_
          refine J_is4 hx rfl (by decide) (hc_of rfl) rfl dX6_isInOrBelow_36 ?_
          refine J_iinc hx (v' := (l4 + 1)) rfl rfl (by decide) (hc_of rfl) rfl dX6_isInOrBelow_37 ?_
          refine J_goto hx 5 dX6_isInOrBelow_40 rfl ?_
          exact ih _ _ _ _  hW h
        · replace h := pos h h5
          refine J_iconst hx (1 : Int32) dX6_isInOrBelow_25 rfl ?_
          exact J_zretR hx hr dX6_isInOrBelow_26 (Nat.le_refl 0) (Nat.le_refl 0) (show (1 : Int32) = bI _ from congrArg bI (Option.some.inj h))
def sX6_isInOrBelow (w : Wl) (l1 : Int32) (l2 : Int32) : Option Bool := sX6_isInOrBelow_5 FU w l2 l1 (0 : Int32)
theorem kX6_isInOrBelow {l : Launch} {Γ : Gl} {B : Bs} {w : Wl} {G : Gf} {sz : Nat} {l1 : Int32} {l2 : Int32} {r : Bool} (hW : Wd Γ B w G) (h : sX6_isInOrBelow w l1 l2 = some r) : CtR l Γ yX6_isInOrBelow cX6_isInOrBelow 5 (some .boolean) 1 [.ref (B.1 + 1), .int l1, .int l2] G sz (.int (bI r)) := by
  refine Ct.of rfl (Nat.le_of_ble_eq_true rfl) fun X hx hr hl hΓ hnm => ?_
  subst hl hΓ
  show J X 5 G sz 0 0 0 [some (.ref (B.1 + 1)), some (.int l1), some (.int l2), none, none] []
  unfold sX6_isInOrBelow at h
  refine J_il4 hx rfl rfl dX6_isInOrBelow_0 ?_
  refine J_is4 hx rfl (by decide) (hc_of rfl) rfl dX6_isInOrBelow_1 ?_
  refine J_iconst hx (0 : Int32) dX6_isInOrBelow_2 rfl ?_
  refine J_is hx (by decide) (hc_of rfl) rfl dX6_isInOrBelow_3 ?_
  refine J_lw (ls' := [some (.ref (B.1 + 1)), none, some (.int l2), some (.int l1), some (.int (0 : Int32))]) (lwS (lwN (lwS (lwS (lwS lwZ))))) ?_
  exact tX6_isInOrBelow_5 hx hr _ _ _ _ _  hW h
theorem dX6_valueInOrBelow_0 : decode cX6_valueInOrBelow 0 = .ok (.iconst 0, 1) := by decide +kernel
theorem dX6_valueInOrBelow_1 : decode cX6_valueInOrBelow 1 = .ok (.istore_n 2, 1) := by decide +kernel
theorem dX6_valueInOrBelow_2 : decode cX6_valueInOrBelow 2 = .ok (.iconst 0, 1) := by decide +kernel
theorem dX6_valueInOrBelow_3 : decode cX6_valueInOrBelow 3 = .ok (.istore_n 3, 1) := by decide +kernel
theorem dX6_valueInOrBelow_4 : decode cX6_valueInOrBelow 4 = .ok (.iload_n 3, 1) := by decide +kernel
theorem dX6_valueInOrBelow_5 : decode cX6_valueInOrBelow 5 = .ok (.aload_n 0, 1) := by decide +kernel
theorem dX6_valueInOrBelow_6 : decode cX6_valueInOrBelow 6 = .ok (.getfield 63, 3) := by decide +kernel
theorem dX6_valueInOrBelow_9 : decode cX6_valueInOrBelow 9 = .ok (.if_icmp .ge 38, 3) := by decide +kernel
theorem dX6_valueInOrBelow_12 : decode cX6_valueInOrBelow 12 = .ok (.aload_n 0, 1) := by decide +kernel
theorem dX6_valueInOrBelow_13 : decode cX6_valueInOrBelow 13 = .ok (.aload_n 0, 1) := by decide +kernel
theorem dX6_valueInOrBelow_14 : decode cX6_valueInOrBelow 14 = .ok (.getfield 29, 3) := by decide +kernel
theorem dX6_valueInOrBelow_17 : decode cX6_valueInOrBelow 17 = .ok (.iload_n 3, 1) := by decide +kernel
theorem dX6_valueInOrBelow_18 : decode cX6_valueInOrBelow 18 = .ok (.aaload, 1) := by decide +kernel
theorem dX6_valueInOrBelow_19 : decode cX6_valueInOrBelow 19 = .ok (.getfield 112, 3) := by decide +kernel
theorem dX6_valueInOrBelow_22 : decode cX6_valueInOrBelow 22 = .ok (.iload_n 1, 1) := by decide +kernel
theorem dX6_valueInOrBelow_23 : decode cX6_valueInOrBelow 23 = .ok (.invokevirtual 119, 3) := by decide +kernel
theorem dX6_valueInOrBelow_26 : decode cX6_valueInOrBelow 26 = .ok (.ifCond .eq 15, 3) := by decide +kernel
theorem dX6_valueInOrBelow_29 : decode cX6_valueInOrBelow 29 = .ok (.iload_n 2, 1) := by decide +kernel
theorem dX6_valueInOrBelow_30 : decode cX6_valueInOrBelow 30 = .ok (.aload_n 0, 1) := by decide +kernel
theorem dX6_valueInOrBelow_31 : decode cX6_valueInOrBelow 31 = .ok (.getfield 29, 3) := by decide +kernel
theorem dX6_valueInOrBelow_34 : decode cX6_valueInOrBelow 34 = .ok (.iload_n 3, 1) := by decide +kernel
theorem dX6_valueInOrBelow_35 : decode cX6_valueInOrBelow 35 = .ok (.aaload, 1) := by decide +kernel
theorem dX6_valueInOrBelow_36 : decode cX6_valueInOrBelow 36 = .ok (.getfield 123, 3) := by decide +kernel
theorem dX6_valueInOrBelow_39 : decode cX6_valueInOrBelow 39 = .ok (.iadd, 1) := by decide +kernel
theorem dX6_valueInOrBelow_40 : decode cX6_valueInOrBelow 40 = .ok (.istore_n 2, 1) := by decide +kernel
theorem dX6_valueInOrBelow_41 : decode cX6_valueInOrBelow 41 = .ok (.iinc 3 1, 3) := by decide +kernel
theorem dX6_valueInOrBelow_44 : decode cX6_valueInOrBelow 44 = .ok (.goto (-40), 3) := by decide +kernel
theorem dX6_valueInOrBelow_47 : decode cX6_valueInOrBelow 47 = .ok (.iload_n 2, 1) := by decide +kernel
theorem dX6_valueInOrBelow_48 : decode cX6_valueInOrBelow 48 = .ok (.ireturn, 1) := by decide +kernel
def sX6_valueInOrBelow_4 : Nat → Wl → Int32 → Int32 → Int32 → Option Int32
  | 0, _, _, _, _ => none
  | n + 1, w, l1, l2, l3 => (if (w 1 7) ≤ l3 then some l2 else (idx l3 16).bind (fun c2 => (sX6_isInOrBelow w (w (41 + 2 * c2) 4) l1).bind (fun r5 => (if r5 = true then sX6_valueInOrBelow_4 n w l1 (l2 + (w (41 + 2 * c2) 1)) (l3 + 1) else sX6_valueInOrBelow_4 n w l1 l2 (l3 + 1)))))
theorem tX6_valueInOrBelow_4 {X : Cx} {B : Bs} {sz : Nat} {G : Gf} {r : Int32} (hx : Fx X cX6_valueInOrBelow 4 RX6 2 0 0) (hr : Rt X (some .int) 0 0 (RdΨ (.int (r)) G sz)) : ∀ (n : Nat), ∀ (w : Wl) (l1 : Int32) (l2 : Int32) (l3 : Int32) (hW : Wd (xΓ X) B w G) (h : sX6_valueInOrBelow_4 n w l1 l2 l3 = some r), J X 4 G sz 0 0 4 [some (.ref (B.1 + 1)), some (.int l1), some (.int l2), some (.int l3)] [] := by
  intro n
  induction n with
  | zero => intro w l1 l2 l3 hW h; rw [sX6_valueInOrBelow_4.eq_1] at h; cases h
  | succ n ih =>
    intro w l1 l2 l3 hW h
    rw [sX6_valueInOrBelow_4.eq_2] at h
    refine J_il4 hx rfl rfl dX6_valueInOrBelow_4 ?_
    refine J_al4 hx rfl rfl dX6_valueInOrBelow_5 ?_
    refine g6_7 hx hW (rfl : kd 1 = 2) fl_X6_63 dX6_valueInOrBelow_6 ?_
    refine J_icmp_ge hx 47 dX6_valueInOrBelow_9 rfl (fun h1 => ?_) (fun h1 => ?_)
    · replace h := pos h h1
      refine J_il4 hx rfl rfl dX6_valueInOrBelow_47 ?_
      exact J_iretR hx hr dX6_valueInOrBelow_48 (Nat.le_refl 0) (Nat.le_refl 0) (Option.some.inj h)
    · replace h := neg h h1
      refine J_al4 hx rfl rfl dX6_valueInOrBelow_12 ?_
      refine J_al4 hx rfl rfl dX6_valueInOrBelow_13 ?_
      refine g6_11 hx hW 4 (rfl : kd 1 = 2) fl_X6_29 rfl dX6_valueInOrBelow_14 ?_
      refine J_il4 hx rfl rfl dX6_valueInOrBelow_17 ?_
      obtain ⟨c2, hc3, h⟩ := bnd h
      refine J_a5 hx hW (41 + 2 * c2) (rfl : kd 4 = 5) hc3 rfl dX6_valueInOrBelow_18 fun hk4 => ?_
      refine g11_4 hx hW hk4 fl_X6_112 dX6_valueInOrBelow_19 ?_
      refine J_il4 hx rfl rfl dX6_valueInOrBelow_22 ?_
      obtain ⟨r5, hr6, h⟩ := bnd h
      refine J_rdV hx (kX6_isInOrBelow  hW hr6) ml_X6_119 lk_X6_isInOrBelow (ci := 5) rfl (hW.obj (rfl : kd 1 = 2) (by decide) (by decide)) (rest := []) rfl rfl (by decide) (by decide) (Nat.le_of_ble_eq_true rfl) (Nat.le_refl 0) (Nat.le_refl 0) dX6_valueInOrBelow_23 ?_
      refine J_bif_eq hx 41 dX6_valueInOrBelow_26 rfl (fun h7 => ?_) (fun h7 => ?_)
      · replace h := neg h (bft h7)
        refine J_iinc hx (v' := (l3 + 1)) rfl rfl (by decide) (hc_of rfl) rfl dX6_valueInOrBelow_41 ?_
        refine J_goto hx 4 dX6_valueInOrBelow_44 rfl ?_
        exact ih _ _ _ _  hW h
      · replace h := pos h h7
        refine J_il4 hx rfl rfl dX6_valueInOrBelow_29 ?_
        refine J_al4 hx rfl rfl dX6_valueInOrBelow_30 ?_
        refine g6_11 hx hW 4 (rfl : kd 1 = 2) fl_X6_29 rfl dX6_valueInOrBelow_31 ?_
        refine J_il4 hx rfl rfl dX6_valueInOrBelow_34 ?_
        refine J_a5 hx hW (41 + 2 * c2) (rfl : kd 4 = 5) hc3 rfl dX6_valueInOrBelow_35 fun hk8 => ?_
        refine g11_1 hx hW hk8 fl_X6_123 dX6_valueInOrBelow_36 ?_
        refine J_iadd hx dX6_valueInOrBelow_39 ?_
        refine J_is4 hx rfl (by decide) (hc_of rfl) rfl dX6_valueInOrBelow_40 ?_
        refine J_iinc hx (v' := (l3 + 1)) rfl rfl (by decide) (hc_of rfl) rfl dX6_valueInOrBelow_41 ?_
        refine J_goto hx 4 dX6_valueInOrBelow_44 rfl ?_
        exact ih _ _ _ _  hW h
def sX6_valueInOrBelow (w : Wl) (l1 : Int32) : Option Int32 := sX6_valueInOrBelow_4 FU w l1 (0 : Int32) (0 : Int32)
theorem kX6_valueInOrBelow {l : Launch} {Γ : Gl} {B : Bs} {w : Wl} {G : Gf} {sz : Nat} {l1 : Int32} {r : Int32} (hW : Wd Γ B w G) (h : sX6_valueInOrBelow w l1 = some r) : CtR l Γ yX6_valueInOrBelow cX6_valueInOrBelow 4 (some .int) 2 [.ref (B.1 + 1), .int l1] G sz (.int (r)) := by
  refine Ct.of rfl (Nat.le_of_ble_eq_true rfl) fun X hx hr hl hΓ hnm => ?_
  subst hl hΓ
  show J X 4 G sz 0 0 0 [some (.ref (B.1 + 1)), some (.int l1), none, none] []
  unfold sX6_valueInOrBelow at h
  refine J_iconst hx (0 : Int32) dX6_valueInOrBelow_0 rfl ?_
  refine J_is4 hx rfl (by decide) (hc_of rfl) rfl dX6_valueInOrBelow_1 ?_
  refine J_iconst hx (0 : Int32) dX6_valueInOrBelow_2 rfl ?_
  refine J_is4 hx rfl (by decide) (hc_of rfl) rfl dX6_valueInOrBelow_3 ?_
  exact tX6_valueInOrBelow_4 hx hr _ _ _ _ _  hW h
theorem dX6_venueOfWork_0 : decode cX6_venueOfWork 0 = .ok (.aload_n 0, 1) := by decide +kernel
theorem dX6_venueOfWork_1 : decode cX6_venueOfWork 1 = .ok (.getfield 29, 3) := by decide +kernel
theorem dX6_venueOfWork_4 : decode cX6_venueOfWork 4 = .ok (.iload_n 1, 1) := by decide +kernel
theorem dX6_venueOfWork_5 : decode cX6_venueOfWork 5 = .ok (.aaload, 1) := by decide +kernel
theorem dX6_venueOfWork_6 : decode cX6_venueOfWork 6 = .ok (.getfield 112, 3) := by decide +kernel
theorem dX6_venueOfWork_9 : decode cX6_venueOfWork 9 = .ok (.istore_n 2, 1) := by decide +kernel
theorem dX6_venueOfWork_10 : decode cX6_venueOfWork 10 = .ok (.aload_n 0, 1) := by decide +kernel
theorem dX6_venueOfWork_11 : decode cX6_venueOfWork 11 = .ok (.iload_n 2, 1) := by decide +kernel
theorem dX6_venueOfWork_12 : decode cX6_venueOfWork 12 = .ok (.invokevirtual 98, 3) := by decide +kernel
theorem dX6_venueOfWork_15 : decode cX6_venueOfWork 15 = .ok (.ifCond .eq 19, 3) := by decide +kernel
theorem dX6_venueOfWork_18 : decode cX6_venueOfWork 18 = .ok (.aload_n 0, 1) := by decide +kernel
theorem dX6_venueOfWork_19 : decode cX6_venueOfWork 19 = .ok (.getfield 23, 3) := by decide +kernel
theorem dX6_venueOfWork_22 : decode cX6_venueOfWork 22 = .ok (.aload_n 0, 1) := by decide +kernel
theorem dX6_venueOfWork_23 : decode cX6_venueOfWork 23 = .ok (.iload_n 2, 1) := by decide +kernel
theorem dX6_venueOfWork_24 : decode cX6_venueOfWork 24 = .ok (.invokevirtual 108, 3) := by decide +kernel
theorem dX6_venueOfWork_27 : decode cX6_venueOfWork 27 = .ok (.aaload, 1) := by decide +kernel
theorem dX6_venueOfWork_28 : decode cX6_venueOfWork 28 = .ok (.getfield 101, 3) := by decide +kernel
theorem dX6_venueOfWork_31 : decode cX6_venueOfWork 31 = .ok (.goto 12, 3) := by decide +kernel
theorem dX6_venueOfWork_34 : decode cX6_venueOfWork 34 = .ok (.aload_n 0, 1) := by decide +kernel
theorem dX6_venueOfWork_35 : decode cX6_venueOfWork 35 = .ok (.getfield 29, 3) := by decide +kernel
theorem dX6_venueOfWork_38 : decode cX6_venueOfWork 38 = .ok (.iload_n 1, 1) := by decide +kernel
theorem dX6_venueOfWork_39 : decode cX6_venueOfWork 39 = .ok (.aaload, 1) := by decide +kernel
theorem dX6_venueOfWork_40 : decode cX6_venueOfWork 40 = .ok (.getfield 115, 3) := by decide +kernel
theorem dX6_venueOfWork_43 : decode cX6_venueOfWork 43 = .ok (.ireturn, 1) := by decide +kernel
def sX6_venueOfWork (w : Wl) (l1 : Int32) : Option Int32 := (idx l1 16).bind (fun c1 => (sX6_hasCrate w (w (41 + 2 * c1) 4)).bind (fun r4 => (if r4 = true then (sX6_outermost w (w (41 + 2 * c1) 4)).bind (fun r8 => (idx r8 12).bind (fun c10 => some (w (29 + c10) 3))) else some (w (41 + 2 * c1) 5))))
theorem kX6_venueOfWork {l : Launch} {Γ : Gl} {B : Bs} {w : Wl} {G : Gf} {sz : Nat} {l1 : Int32} {r : Int32} (hW : Wd Γ B w G) (h : sX6_venueOfWork w l1 = some r) : CtR l Γ yX6_venueOfWork cX6_venueOfWork 3 (some .int) 1 [.ref (B.1 + 1), .int l1] G sz (.int (r)) := by
  refine Ct.of rfl (Nat.le_of_ble_eq_true rfl) fun X hx hr hl hΓ hnm => ?_
  subst hl hΓ
  show J X 3 G sz 0 0 0 [some (.ref (B.1 + 1)), some (.int l1), none] []
  unfold sX6_venueOfWork at h
  refine J_al4 hx rfl rfl dX6_venueOfWork_0 ?_
  refine g6_11 hx hW 4 (rfl : kd 1 = 2) fl_X6_29 rfl dX6_venueOfWork_1 ?_
  refine J_il4 hx rfl rfl dX6_venueOfWork_4 ?_
  obtain ⟨c1, hc2, h⟩ := bnd h
  refine J_a5 hx hW (41 + 2 * c1) (rfl : kd 4 = 5) hc2 rfl dX6_venueOfWork_5 fun hk3 => ?_
  refine g11_4 hx hW hk3 fl_X6_112 dX6_venueOfWork_6 ?_
  refine J_is4 hx rfl (by decide) (hc_of rfl) rfl dX6_venueOfWork_9 ?_
  refine J_al4 hx rfl rfl dX6_venueOfWork_10 ?_
  refine J_il4 hx rfl rfl dX6_venueOfWork_11 ?_
  obtain ⟨r4, hr5, h⟩ := bnd h
  refine J_rdV hx (kX6_hasCrate  hW hr5) ml_X6_98 lk_X6_hasCrate (ci := 5) rfl (hW.obj (rfl : kd 1 = 2) (by decide) (by decide)) (rest := []) rfl rfl (by decide) (by decide) (Nat.le_of_ble_eq_true rfl) (Nat.le_refl 0) (Nat.le_refl 0) dX6_venueOfWork_12 ?_
  refine J_bif_eq hx 34 dX6_venueOfWork_15 rfl (fun h6 => ?_) (fun h6 => ?_)
  · replace h := neg h (bft h6)
    refine J_al4 hx rfl rfl dX6_venueOfWork_34 ?_
    refine g6_11 hx hW 4 (rfl : kd 1 = 2) fl_X6_29 rfl dX6_venueOfWork_35 ?_
    refine J_il4 hx rfl rfl dX6_venueOfWork_38 ?_
    refine J_a5 hx hW (41 + 2 * c1) (rfl : kd 4 = 5) hc2 rfl dX6_venueOfWork_39 fun hk7 => ?_
    refine g11_5 hx hW hk7 fl_X6_115 dX6_venueOfWork_40 ?_
    exact J_iretR hx hr dX6_venueOfWork_43 (Nat.le_refl 0) (Nat.le_refl 0) (Option.some.inj h)
  · replace h := pos h h6
    refine J_al4 hx rfl rfl dX6_venueOfWork_18 ?_
    refine g6_10 hx hW 3 (rfl : kd 1 = 2) fl_X6_23 rfl dX6_venueOfWork_19 ?_
    refine J_al4 hx rfl rfl dX6_venueOfWork_22 ?_
    refine J_il4 hx rfl rfl dX6_venueOfWork_23 ?_
    obtain ⟨r8, hr9, h⟩ := bnd h
    refine J_rdV hx (kX6_outermost  hW hr9) ml_X6_108 lk_X6_outermost (ci := 5) rfl (hW.obj (rfl : kd 1 = 2) (by decide) (by decide)) (rest := [.ref (B.1 + 3)]) rfl rfl (by decide) (by decide) (Nat.le_of_ble_eq_true rfl) (Nat.le_refl 0) (Nat.le_refl 0) dX6_venueOfWork_24 ?_
    obtain ⟨c10, hc11, h⟩ := bnd h
    refine J_a4 hx hW (29 + c10) (rfl : kd 3 = 4) hc11 rfl dX6_venueOfWork_27 fun hk12 => ?_
    refine g3_3 hx hW hk12 fl_X6_101 dX6_venueOfWork_28 ?_
    refine J_goto hx 43 dX6_venueOfWork_31 rfl ?_
    exact J_iretR hx hr dX6_venueOfWork_43 (Nat.le_refl 0) (Nat.le_refl 0) (Option.some.inj h)
theorem dX6_valueAt_0 : decode cX6_valueAt 0 = .ok (.iconst 0, 1) := by decide +kernel
theorem dX6_valueAt_1 : decode cX6_valueAt 1 = .ok (.istore_n 2, 1) := by decide +kernel
theorem dX6_valueAt_2 : decode cX6_valueAt 2 = .ok (.iconst 0, 1) := by decide +kernel
theorem dX6_valueAt_3 : decode cX6_valueAt 3 = .ok (.istore_n 3, 1) := by decide +kernel
theorem dX6_valueAt_4 : decode cX6_valueAt 4 = .ok (.iload_n 3, 1) := by decide +kernel
theorem dX6_valueAt_5 : decode cX6_valueAt 5 = .ok (.aload_n 0, 1) := by decide +kernel
theorem dX6_valueAt_6 : decode cX6_valueAt 6 = .ok (.getfield 63, 3) := by decide +kernel
theorem dX6_valueAt_9 : decode cX6_valueAt 9 = .ok (.if_icmp .ge 30, 3) := by decide +kernel
theorem dX6_valueAt_12 : decode cX6_valueAt 12 = .ok (.aload_n 0, 1) := by decide +kernel
theorem dX6_valueAt_13 : decode cX6_valueAt 13 = .ok (.iload_n 3, 1) := by decide +kernel
theorem dX6_valueAt_14 : decode cX6_valueAt 14 = .ok (.invokevirtual 126, 3) := by decide +kernel
theorem dX6_valueAt_17 : decode cX6_valueAt 17 = .ok (.iload_n 1, 1) := by decide +kernel
theorem dX6_valueAt_18 : decode cX6_valueAt 18 = .ok (.if_icmp .ne 15, 3) := by decide +kernel
theorem dX6_valueAt_21 : decode cX6_valueAt 21 = .ok (.iload_n 2, 1) := by decide +kernel
theorem dX6_valueAt_22 : decode cX6_valueAt 22 = .ok (.aload_n 0, 1) := by decide +kernel
theorem dX6_valueAt_23 : decode cX6_valueAt 23 = .ok (.getfield 29, 3) := by decide +kernel
theorem dX6_valueAt_26 : decode cX6_valueAt 26 = .ok (.iload_n 3, 1) := by decide +kernel
theorem dX6_valueAt_27 : decode cX6_valueAt 27 = .ok (.aaload, 1) := by decide +kernel
theorem dX6_valueAt_28 : decode cX6_valueAt 28 = .ok (.getfield 123, 3) := by decide +kernel
theorem dX6_valueAt_31 : decode cX6_valueAt 31 = .ok (.iadd, 1) := by decide +kernel
theorem dX6_valueAt_32 : decode cX6_valueAt 32 = .ok (.istore_n 2, 1) := by decide +kernel
theorem dX6_valueAt_33 : decode cX6_valueAt 33 = .ok (.iinc 3 1, 3) := by decide +kernel
theorem dX6_valueAt_36 : decode cX6_valueAt 36 = .ok (.goto (-32), 3) := by decide +kernel
theorem dX6_valueAt_39 : decode cX6_valueAt 39 = .ok (.iload_n 2, 1) := by decide +kernel
theorem dX6_valueAt_40 : decode cX6_valueAt 40 = .ok (.ireturn, 1) := by decide +kernel
def sX6_valueAt_4 : Nat → Wl → Int32 → Int32 → Int32 → Option Int32
  | 0, _, _, _, _ => none
  | n + 1, w, l1, l2, l3 => (if (w 1 7) ≤ l3 then some l2 else (sX6_venueOfWork w l3).bind (fun r2 => (if r2 = l1 then (idx l3 16).bind (fun c5 => sX6_valueAt_4 n w l1 (l2 + (w (41 + 2 * c5) 1)) (l3 + 1)) else sX6_valueAt_4 n w l1 l2 (l3 + 1))))
theorem tX6_valueAt_4 {X : Cx} {B : Bs} {sz : Nat} {G : Gf} {r : Int32} (hx : Fx X cX6_valueAt 4 RX6 2 0 0) (hr : Rt X (some .int) 0 0 (RdΨ (.int (r)) G sz)) : ∀ (n : Nat), ∀ (w : Wl) (l1 : Int32) (l2 : Int32) (l3 : Int32) (hW : Wd (xΓ X) B w G) (h : sX6_valueAt_4 n w l1 l2 l3 = some r), J X 4 G sz 0 0 4 [some (.ref (B.1 + 1)), some (.int l1), some (.int l2), some (.int l3)] [] := by
  intro n
  induction n with
  | zero => intro w l1 l2 l3 hW h; rw [sX6_valueAt_4.eq_1] at h; cases h
  | succ n ih =>
    intro w l1 l2 l3 hW h
    rw [sX6_valueAt_4.eq_2] at h
    refine J_il4 hx rfl rfl dX6_valueAt_4 ?_
    refine J_al4 hx rfl rfl dX6_valueAt_5 ?_
    refine g6_7 hx hW (rfl : kd 1 = 2) fl_X6_63 dX6_valueAt_6 ?_
    refine J_icmp_ge hx 39 dX6_valueAt_9 rfl (fun h1 => ?_) (fun h1 => ?_)
    · replace h := pos h h1
      refine J_il4 hx rfl rfl dX6_valueAt_39 ?_
      exact J_iretR hx hr dX6_valueAt_40 (Nat.le_refl 0) (Nat.le_refl 0) (Option.some.inj h)
    · replace h := neg h h1
      refine J_al4 hx rfl rfl dX6_valueAt_12 ?_
      refine J_il4 hx rfl rfl dX6_valueAt_13 ?_
      obtain ⟨r2, hr3, h⟩ := bnd h
      refine J_rdV hx (kX6_venueOfWork  hW hr3) ml_X6_126 lk_X6_venueOfWork (ci := 5) rfl (hW.obj (rfl : kd 1 = 2) (by decide) (by decide)) (rest := []) rfl rfl (by decide) (by decide) (Nat.le_of_ble_eq_true rfl) (Nat.le_refl 0) (Nat.le_refl 0) dX6_valueAt_14 ?_
      refine J_il4 hx rfl rfl dX6_valueAt_17 ?_
      refine J_icmp_ne hx 33 dX6_valueAt_18 rfl (fun h4 => ?_) (fun h4 => ?_)
      · replace h := neg h h4
        refine J_iinc hx (v' := (l3 + 1)) rfl rfl (by decide) (hc_of rfl) rfl dX6_valueAt_33 ?_
        refine J_goto hx 4 dX6_valueAt_36 rfl ?_
        exact ih _ _ _ _  hW h
      · replace h := pos h h4
        refine J_il4 hx rfl rfl dX6_valueAt_21 ?_
        refine J_al4 hx rfl rfl dX6_valueAt_22 ?_
        refine g6_11 hx hW 4 (rfl : kd 1 = 2) fl_X6_29 rfl dX6_valueAt_23 ?_
        refine J_il4 hx rfl rfl dX6_valueAt_26 ?_
        obtain ⟨c5, hc6, h⟩ := bnd h
        refine J_a5 hx hW (41 + 2 * c5) (rfl : kd 4 = 5) hc6 rfl dX6_valueAt_27 fun hk7 => ?_
        refine g11_1 hx hW hk7 fl_X6_123 dX6_valueAt_28 ?_
        refine J_iadd hx dX6_valueAt_31 ?_
        refine J_is4 hx rfl (by decide) (hc_of rfl) rfl dX6_valueAt_32 ?_
        refine J_iinc hx (v' := (l3 + 1)) rfl rfl (by decide) (hc_of rfl) rfl dX6_valueAt_33 ?_
        refine J_goto hx 4 dX6_valueAt_36 rfl ?_
        exact ih _ _ _ _  hW h
def sX6_valueAt (w : Wl) (l1 : Int32) : Option Int32 := sX6_valueAt_4 FU w l1 (0 : Int32) (0 : Int32)
theorem kX6_valueAt {l : Launch} {Γ : Gl} {B : Bs} {w : Wl} {G : Gf} {sz : Nat} {l1 : Int32} {r : Int32} (hW : Wd Γ B w G) (h : sX6_valueAt w l1 = some r) : CtR l Γ yX6_valueAt cX6_valueAt 4 (some .int) 2 [.ref (B.1 + 1), .int l1] G sz (.int (r)) := by
  refine Ct.of rfl (Nat.le_of_ble_eq_true rfl) fun X hx hr hl hΓ hnm => ?_
  subst hl hΓ
  show J X 4 G sz 0 0 0 [some (.ref (B.1 + 1)), some (.int l1), none, none] []
  unfold sX6_valueAt at h
  refine J_iconst hx (0 : Int32) dX6_valueAt_0 rfl ?_
  refine J_is4 hx rfl (by decide) (hc_of rfl) rfl dX6_valueAt_1 ?_
  refine J_iconst hx (0 : Int32) dX6_valueAt_2 rfl ?_
  refine J_is4 hx rfl (by decide) (hc_of rfl) rfl dX6_valueAt_3 ?_
  exact tX6_valueAt_4 hx hr _ _ _ _ _  hW h
theorem dX6_goalOfWork_0 : decode cX6_goalOfWork 0 = .ok (.aload_n 0, 1) := by decide +kernel
theorem dX6_goalOfWork_1 : decode cX6_goalOfWork 1 = .ok (.getfield 29, 3) := by decide +kernel
theorem dX6_goalOfWork_4 : decode cX6_goalOfWork 4 = .ok (.iload_n 1, 1) := by decide +kernel
theorem dX6_goalOfWork_5 : decode cX6_goalOfWork 5 = .ok (.aaload, 1) := by decide +kernel
theorem dX6_goalOfWork_6 : decode cX6_goalOfWork 6 = .ok (.getfield 112, 3) := by decide +kernel
theorem dX6_goalOfWork_9 : decode cX6_goalOfWork 9 = .ok (.istore_n 2, 1) := by decide +kernel
theorem dX6_goalOfWork_10 : decode cX6_goalOfWork 10 = .ok (.aload_n 0, 1) := by decide +kernel
theorem dX6_goalOfWork_11 : decode cX6_goalOfWork 11 = .ok (.iload_n 2, 1) := by decide +kernel
theorem dX6_goalOfWork_12 : decode cX6_goalOfWork 12 = .ok (.invokevirtual 98, 3) := by decide +kernel
theorem dX6_goalOfWork_15 : decode cX6_goalOfWork 15 = .ok (.ifCond .eq 19, 3) := by decide +kernel
theorem dX6_goalOfWork_18 : decode cX6_goalOfWork 18 = .ok (.aload_n 0, 1) := by decide +kernel
theorem dX6_goalOfWork_19 : decode cX6_goalOfWork 19 = .ok (.getfield 23, 3) := by decide +kernel
theorem dX6_goalOfWork_22 : decode cX6_goalOfWork 22 = .ok (.aload_n 0, 1) := by decide +kernel
theorem dX6_goalOfWork_23 : decode cX6_goalOfWork 23 = .ok (.iload_n 2, 1) := by decide +kernel
theorem dX6_goalOfWork_24 : decode cX6_goalOfWork 24 = .ok (.invokevirtual 108, 3) := by decide +kernel
theorem dX6_goalOfWork_27 : decode cX6_goalOfWork 27 = .ok (.aaload, 1) := by decide +kernel
theorem dX6_goalOfWork_28 : decode cX6_goalOfWork 28 = .ok (.getfield 116, 3) := by decide +kernel
theorem dX6_goalOfWork_31 : decode cX6_goalOfWork 31 = .ok (.goto 4, 3) := by decide +kernel
theorem dX6_goalOfWork_34 : decode cX6_goalOfWork 34 = .ok (.iconst (-1), 1) := by decide +kernel
theorem dX6_goalOfWork_35 : decode cX6_goalOfWork 35 = .ok (.ireturn, 1) := by decide +kernel
def sX6_goalOfWork (w : Wl) (l1 : Int32) : Option Int32 := (idx l1 16).bind (fun c1 => (sX6_hasCrate w (w (41 + 2 * c1) 4)).bind (fun r4 => (if r4 = true then (sX6_outermost w (w (41 + 2 * c1) 4)).bind (fun r7 => (idx r7 12).bind (fun c9 => some (w (29 + c9) 4))) else some (-1 : Int32))))
theorem kX6_goalOfWork {l : Launch} {Γ : Gl} {B : Bs} {w : Wl} {G : Gf} {sz : Nat} {l1 : Int32} {r : Int32} (hW : Wd Γ B w G) (h : sX6_goalOfWork w l1 = some r) : CtR l Γ yX6_goalOfWork cX6_goalOfWork 3 (some .int) 1 [.ref (B.1 + 1), .int l1] G sz (.int (r)) := by
  refine Ct.of rfl (Nat.le_of_ble_eq_true rfl) fun X hx hr hl hΓ hnm => ?_
  subst hl hΓ
  show J X 3 G sz 0 0 0 [some (.ref (B.1 + 1)), some (.int l1), none] []
  unfold sX6_goalOfWork at h
  refine J_al4 hx rfl rfl dX6_goalOfWork_0 ?_
  refine g6_11 hx hW 4 (rfl : kd 1 = 2) fl_X6_29 rfl dX6_goalOfWork_1 ?_
  refine J_il4 hx rfl rfl dX6_goalOfWork_4 ?_
  obtain ⟨c1, hc2, h⟩ := bnd h
  refine J_a5 hx hW (41 + 2 * c1) (rfl : kd 4 = 5) hc2 rfl dX6_goalOfWork_5 fun hk3 => ?_
  refine g11_4 hx hW hk3 fl_X6_112 dX6_goalOfWork_6 ?_
  refine J_is4 hx rfl (by decide) (hc_of rfl) rfl dX6_goalOfWork_9 ?_
  refine J_al4 hx rfl rfl dX6_goalOfWork_10 ?_
  refine J_il4 hx rfl rfl dX6_goalOfWork_11 ?_
  obtain ⟨r4, hr5, h⟩ := bnd h
  refine J_rdV hx (kX6_hasCrate  hW hr5) ml_X6_98 lk_X6_hasCrate (ci := 5) rfl (hW.obj (rfl : kd 1 = 2) (by decide) (by decide)) (rest := []) rfl rfl (by decide) (by decide) (Nat.le_of_ble_eq_true rfl) (Nat.le_refl 0) (Nat.le_refl 0) dX6_goalOfWork_12 ?_
  refine J_bif_eq hx 34 dX6_goalOfWork_15 rfl (fun h6 => ?_) (fun h6 => ?_)
  · replace h := neg h (bft h6)
    refine J_iconst hx (-1 : Int32) dX6_goalOfWork_34 rfl ?_
    exact J_iretR hx hr dX6_goalOfWork_35 (Nat.le_refl 0) (Nat.le_refl 0) (Option.some.inj h)
  · replace h := pos h h6
    refine J_al4 hx rfl rfl dX6_goalOfWork_18 ?_
    refine g6_10 hx hW 3 (rfl : kd 1 = 2) fl_X6_23 rfl dX6_goalOfWork_19 ?_
    refine J_al4 hx rfl rfl dX6_goalOfWork_22 ?_
    refine J_il4 hx rfl rfl dX6_goalOfWork_23 ?_
    obtain ⟨r7, hr8, h⟩ := bnd h
    refine J_rdV hx (kX6_outermost  hW hr8) ml_X6_108 lk_X6_outermost (ci := 5) rfl (hW.obj (rfl : kd 1 = 2) (by decide) (by decide)) (rest := [.ref (B.1 + 3)]) rfl rfl (by decide) (by decide) (Nat.le_of_ble_eq_true rfl) (Nat.le_refl 0) (Nat.le_refl 0) dX6_goalOfWork_24 ?_
    obtain ⟨c9, hc10, h⟩ := bnd h
    refine J_a4 hx hW (29 + c9) (rfl : kd 3 = 4) hc10 rfl dX6_goalOfWork_27 fun hk11 => ?_
    refine g3_4 hx hW hk11 fl_X6_116 dX6_goalOfWork_28 ?_
    refine J_goto hx 35 dX6_goalOfWork_31 rfl ?_
    exact J_iretR hx hr dX6_goalOfWork_35 (Nat.le_refl 0) (Nat.le_refl 0) (Option.some.inj h)
theorem dX6_valueOnTheWayTo_0 : decode cX6_valueOnTheWayTo 0 = .ok (.iconst 0, 1) := by decide +kernel
theorem dX6_valueOnTheWayTo_1 : decode cX6_valueOnTheWayTo 1 = .ok (.istore_n 2, 1) := by decide +kernel
theorem dX6_valueOnTheWayTo_2 : decode cX6_valueOnTheWayTo 2 = .ok (.iconst 0, 1) := by decide +kernel
theorem dX6_valueOnTheWayTo_3 : decode cX6_valueOnTheWayTo 3 = .ok (.istore_n 3, 1) := by decide +kernel
theorem dX6_valueOnTheWayTo_4 : decode cX6_valueOnTheWayTo 4 = .ok (.iload_n 3, 1) := by decide +kernel
theorem dX6_valueOnTheWayTo_5 : decode cX6_valueOnTheWayTo 5 = .ok (.aload_n 0, 1) := by decide +kernel
theorem dX6_valueOnTheWayTo_6 : decode cX6_valueOnTheWayTo 6 = .ok (.getfield 63, 3) := by decide +kernel
theorem dX6_valueOnTheWayTo_9 : decode cX6_valueOnTheWayTo 9 = .ok (.if_icmp .ge 30, 3) := by decide +kernel
theorem dX6_valueOnTheWayTo_12 : decode cX6_valueOnTheWayTo 12 = .ok (.aload_n 0, 1) := by decide +kernel
theorem dX6_valueOnTheWayTo_13 : decode cX6_valueOnTheWayTo 13 = .ok (.iload_n 3, 1) := by decide +kernel
theorem dX6_valueOnTheWayTo_14 : decode cX6_valueOnTheWayTo 14 = .ok (.invokevirtual 129, 3) := by decide +kernel
theorem dX6_valueOnTheWayTo_17 : decode cX6_valueOnTheWayTo 17 = .ok (.iload_n 1, 1) := by decide +kernel
theorem dX6_valueOnTheWayTo_18 : decode cX6_valueOnTheWayTo 18 = .ok (.if_icmp .ne 15, 3) := by decide +kernel
theorem dX6_valueOnTheWayTo_21 : decode cX6_valueOnTheWayTo 21 = .ok (.iload_n 2, 1) := by decide +kernel
theorem dX6_valueOnTheWayTo_22 : decode cX6_valueOnTheWayTo 22 = .ok (.aload_n 0, 1) := by decide +kernel
theorem dX6_valueOnTheWayTo_23 : decode cX6_valueOnTheWayTo 23 = .ok (.getfield 29, 3) := by decide +kernel
theorem dX6_valueOnTheWayTo_26 : decode cX6_valueOnTheWayTo 26 = .ok (.iload_n 3, 1) := by decide +kernel
theorem dX6_valueOnTheWayTo_27 : decode cX6_valueOnTheWayTo 27 = .ok (.aaload, 1) := by decide +kernel
theorem dX6_valueOnTheWayTo_28 : decode cX6_valueOnTheWayTo 28 = .ok (.getfield 123, 3) := by decide +kernel
theorem dX6_valueOnTheWayTo_31 : decode cX6_valueOnTheWayTo 31 = .ok (.iadd, 1) := by decide +kernel
theorem dX6_valueOnTheWayTo_32 : decode cX6_valueOnTheWayTo 32 = .ok (.istore_n 2, 1) := by decide +kernel
theorem dX6_valueOnTheWayTo_33 : decode cX6_valueOnTheWayTo 33 = .ok (.iinc 3 1, 3) := by decide +kernel
theorem dX6_valueOnTheWayTo_36 : decode cX6_valueOnTheWayTo 36 = .ok (.goto (-32), 3) := by decide +kernel
theorem dX6_valueOnTheWayTo_39 : decode cX6_valueOnTheWayTo 39 = .ok (.iload_n 2, 1) := by decide +kernel
theorem dX6_valueOnTheWayTo_40 : decode cX6_valueOnTheWayTo 40 = .ok (.ireturn, 1) := by decide +kernel
def sX6_valueOnTheWayTo_4 : Nat → Wl → Int32 → Int32 → Int32 → Option Int32
  | 0, _, _, _, _ => none
  | n + 1, w, l1, l2, l3 => (if (w 1 7) ≤ l3 then some l2 else (sX6_goalOfWork w l3).bind (fun r2 => (if r2 = l1 then (idx l3 16).bind (fun c5 => sX6_valueOnTheWayTo_4 n w l1 (l2 + (w (41 + 2 * c5) 1)) (l3 + 1)) else sX6_valueOnTheWayTo_4 n w l1 l2 (l3 + 1))))
theorem tX6_valueOnTheWayTo_4 {X : Cx} {B : Bs} {sz : Nat} {G : Gf} {r : Int32} (hx : Fx X cX6_valueOnTheWayTo 4 RX6 2 0 0) (hr : Rt X (some .int) 0 0 (RdΨ (.int (r)) G sz)) : ∀ (n : Nat), ∀ (w : Wl) (l1 : Int32) (l2 : Int32) (l3 : Int32) (hW : Wd (xΓ X) B w G) (h : sX6_valueOnTheWayTo_4 n w l1 l2 l3 = some r), J X 4 G sz 0 0 4 [some (.ref (B.1 + 1)), some (.int l1), some (.int l2), some (.int l3)] [] := by
  intro n
  induction n with
  | zero => intro w l1 l2 l3 hW h; rw [sX6_valueOnTheWayTo_4.eq_1] at h; cases h
  | succ n ih =>
    intro w l1 l2 l3 hW h
    rw [sX6_valueOnTheWayTo_4.eq_2] at h
    refine J_il4 hx rfl rfl dX6_valueOnTheWayTo_4 ?_
    refine J_al4 hx rfl rfl dX6_valueOnTheWayTo_5 ?_
    refine g6_7 hx hW (rfl : kd 1 = 2) fl_X6_63 dX6_valueOnTheWayTo_6 ?_
    refine J_icmp_ge hx 39 dX6_valueOnTheWayTo_9 rfl (fun h1 => ?_) (fun h1 => ?_)
    · replace h := pos h h1
      refine J_il4 hx rfl rfl dX6_valueOnTheWayTo_39 ?_
      exact J_iretR hx hr dX6_valueOnTheWayTo_40 (Nat.le_refl 0) (Nat.le_refl 0) (Option.some.inj h)
    · replace h := neg h h1
      refine J_al4 hx rfl rfl dX6_valueOnTheWayTo_12 ?_
      refine J_il4 hx rfl rfl dX6_valueOnTheWayTo_13 ?_
      obtain ⟨r2, hr3, h⟩ := bnd h
      refine J_rdV hx (kX6_goalOfWork  hW hr3) ml_X6_129 lk_X6_goalOfWork (ci := 5) rfl (hW.obj (rfl : kd 1 = 2) (by decide) (by decide)) (rest := []) rfl rfl (by decide) (by decide) (Nat.le_of_ble_eq_true rfl) (Nat.le_refl 0) (Nat.le_refl 0) dX6_valueOnTheWayTo_14 ?_
      refine J_il4 hx rfl rfl dX6_valueOnTheWayTo_17 ?_
      refine J_icmp_ne hx 33 dX6_valueOnTheWayTo_18 rfl (fun h4 => ?_) (fun h4 => ?_)
      · replace h := neg h h4
        refine J_iinc hx (v' := (l3 + 1)) rfl rfl (by decide) (hc_of rfl) rfl dX6_valueOnTheWayTo_33 ?_
        refine J_goto hx 4 dX6_valueOnTheWayTo_36 rfl ?_
        exact ih _ _ _ _  hW h
      · replace h := pos h h4
        refine J_il4 hx rfl rfl dX6_valueOnTheWayTo_21 ?_
        refine J_al4 hx rfl rfl dX6_valueOnTheWayTo_22 ?_
        refine g6_11 hx hW 4 (rfl : kd 1 = 2) fl_X6_29 rfl dX6_valueOnTheWayTo_23 ?_
        refine J_il4 hx rfl rfl dX6_valueOnTheWayTo_26 ?_
        obtain ⟨c5, hc6, h⟩ := bnd h
        refine J_a5 hx hW (41 + 2 * c5) (rfl : kd 4 = 5) hc6 rfl dX6_valueOnTheWayTo_27 fun hk7 => ?_
        refine g11_1 hx hW hk7 fl_X6_123 dX6_valueOnTheWayTo_28 ?_
        refine J_iadd hx dX6_valueOnTheWayTo_31 ?_
        refine J_is4 hx rfl (by decide) (hc_of rfl) rfl dX6_valueOnTheWayTo_32 ?_
        refine J_iinc hx (v' := (l3 + 1)) rfl rfl (by decide) (hc_of rfl) rfl dX6_valueOnTheWayTo_33 ?_
        refine J_goto hx 4 dX6_valueOnTheWayTo_36 rfl ?_
        exact ih _ _ _ _  hW h
def sX6_valueOnTheWayTo (w : Wl) (l1 : Int32) : Option Int32 := sX6_valueOnTheWayTo_4 FU w l1 (0 : Int32) (0 : Int32)
theorem kX6_valueOnTheWayTo {l : Launch} {Γ : Gl} {B : Bs} {w : Wl} {G : Gf} {sz : Nat} {l1 : Int32} {r : Int32} (hW : Wd Γ B w G) (h : sX6_valueOnTheWayTo w l1 = some r) : CtR l Γ yX6_valueOnTheWayTo cX6_valueOnTheWayTo 4 (some .int) 2 [.ref (B.1 + 1), .int l1] G sz (.int (r)) := by
  refine Ct.of rfl (Nat.le_of_ble_eq_true rfl) fun X hx hr hl hΓ hnm => ?_
  subst hl hΓ
  show J X 4 G sz 0 0 0 [some (.ref (B.1 + 1)), some (.int l1), none, none] []
  unfold sX6_valueOnTheWayTo at h
  refine J_iconst hx (0 : Int32) dX6_valueOnTheWayTo_0 rfl ?_
  refine J_is4 hx rfl (by decide) (hc_of rfl) rfl dX6_valueOnTheWayTo_1 ?_
  refine J_iconst hx (0 : Int32) dX6_valueOnTheWayTo_2 rfl ?_
  refine J_is4 hx rfl (by decide) (hc_of rfl) rfl dX6_valueOnTheWayTo_3 ?_
  exact tX6_valueOnTheWayTo_4 hx hr _ _ _ _ _  hW h
theorem dX6_worksDirectlyIn_0 : decode cX6_worksDirectlyIn 0 = .ok (.iconst 0, 1) := by decide +kernel
theorem dX6_worksDirectlyIn_1 : decode cX6_worksDirectlyIn 1 = .ok (.istore_n 2, 1) := by decide +kernel
theorem dX6_worksDirectlyIn_2 : decode cX6_worksDirectlyIn 2 = .ok (.iconst 0, 1) := by decide +kernel
theorem dX6_worksDirectlyIn_3 : decode cX6_worksDirectlyIn 3 = .ok (.istore_n 3, 1) := by decide +kernel
theorem dX6_worksDirectlyIn_4 : decode cX6_worksDirectlyIn 4 = .ok (.iload_n 3, 1) := by decide +kernel
theorem dX6_worksDirectlyIn_5 : decode cX6_worksDirectlyIn 5 = .ok (.aload_n 0, 1) := by decide +kernel
theorem dX6_worksDirectlyIn_6 : decode cX6_worksDirectlyIn 6 = .ok (.getfield 63, 3) := by decide +kernel
theorem dX6_worksDirectlyIn_9 : decode cX6_worksDirectlyIn 9 = .ok (.if_icmp .ge 25, 3) := by decide +kernel
theorem dX6_worksDirectlyIn_12 : decode cX6_worksDirectlyIn 12 = .ok (.aload_n 0, 1) := by decide +kernel
theorem dX6_worksDirectlyIn_13 : decode cX6_worksDirectlyIn 13 = .ok (.getfield 29, 3) := by decide +kernel
theorem dX6_worksDirectlyIn_16 : decode cX6_worksDirectlyIn 16 = .ok (.iload_n 3, 1) := by decide +kernel
theorem dX6_worksDirectlyIn_17 : decode cX6_worksDirectlyIn 17 = .ok (.aaload, 1) := by decide +kernel
theorem dX6_worksDirectlyIn_18 : decode cX6_worksDirectlyIn 18 = .ok (.getfield 112, 3) := by decide +kernel
theorem dX6_worksDirectlyIn_21 : decode cX6_worksDirectlyIn 21 = .ok (.iload_n 1, 1) := by decide +kernel
theorem dX6_worksDirectlyIn_22 : decode cX6_worksDirectlyIn 22 = .ok (.if_icmp .ne 6, 3) := by decide +kernel
theorem dX6_worksDirectlyIn_25 : decode cX6_worksDirectlyIn 25 = .ok (.iinc 2 1, 3) := by decide +kernel
theorem dX6_worksDirectlyIn_28 : decode cX6_worksDirectlyIn 28 = .ok (.iinc 3 1, 3) := by decide +kernel
theorem dX6_worksDirectlyIn_31 : decode cX6_worksDirectlyIn 31 = .ok (.goto (-27), 3) := by decide +kernel
theorem dX6_worksDirectlyIn_34 : decode cX6_worksDirectlyIn 34 = .ok (.iload_n 2, 1) := by decide +kernel
theorem dX6_worksDirectlyIn_35 : decode cX6_worksDirectlyIn 35 = .ok (.ireturn, 1) := by decide +kernel
def sX6_worksDirectlyIn_4 : Nat → Wl → Int32 → Int32 → Int32 → Option Int32
  | 0, _, _, _, _ => none
  | n + 1, w, l1, l2, l3 => (if (w 1 7) ≤ l3 then some l2 else (idx l3 16).bind (fun c2 => (if (w (41 + 2 * c2) 4) = l1 then sX6_worksDirectlyIn_4 n w l1 (l2 + 1) (l3 + 1) else sX6_worksDirectlyIn_4 n w l1 l2 (l3 + 1))))
theorem tX6_worksDirectlyIn_4 {X : Cx} {B : Bs} {sz : Nat} {G : Gf} {r : Int32} (hx : Fx X cX6_worksDirectlyIn 4 RX6 0 0 0) (hr : Rt X (some .int) 0 0 (RdΨ (.int (r)) G sz)) : ∀ (n : Nat), ∀ (w : Wl) (l1 : Int32) (l2 : Int32) (l3 : Int32) (hW : Wd (xΓ X) B w G) (h : sX6_worksDirectlyIn_4 n w l1 l2 l3 = some r), J X 4 G sz 0 0 4 [some (.ref (B.1 + 1)), some (.int l1), some (.int l2), some (.int l3)] [] := by
  intro n
  induction n with
  | zero => intro w l1 l2 l3 hW h; rw [sX6_worksDirectlyIn_4.eq_1] at h; cases h
  | succ n ih =>
    intro w l1 l2 l3 hW h
    rw [sX6_worksDirectlyIn_4.eq_2] at h
    refine J_il4 hx rfl rfl dX6_worksDirectlyIn_4 ?_
    refine J_al4 hx rfl rfl dX6_worksDirectlyIn_5 ?_
    refine g6_7 hx hW (rfl : kd 1 = 2) fl_X6_63 dX6_worksDirectlyIn_6 ?_
    refine J_icmp_ge hx 34 dX6_worksDirectlyIn_9 rfl (fun h1 => ?_) (fun h1 => ?_)
    · replace h := pos h h1
      refine J_il4 hx rfl rfl dX6_worksDirectlyIn_34 ?_
      exact J_iretR hx hr dX6_worksDirectlyIn_35 (Nat.le_refl 0) (Nat.le_refl 0) (Option.some.inj h)
    · replace h := neg h h1
      refine J_al4 hx rfl rfl dX6_worksDirectlyIn_12 ?_
      refine g6_11 hx hW 4 (rfl : kd 1 = 2) fl_X6_29 rfl dX6_worksDirectlyIn_13 ?_
      refine J_il4 hx rfl rfl dX6_worksDirectlyIn_16 ?_
      obtain ⟨c2, hc3, h⟩ := bnd h
      refine J_a5 hx hW (41 + 2 * c2) (rfl : kd 4 = 5) hc3 rfl dX6_worksDirectlyIn_17 fun hk4 => ?_
      refine g11_4 hx hW hk4 fl_X6_112 dX6_worksDirectlyIn_18 ?_
      refine J_il4 hx rfl rfl dX6_worksDirectlyIn_21 ?_
      refine J_icmp_ne hx 28 dX6_worksDirectlyIn_22 rfl (fun h5 => ?_) (fun h5 => ?_)
      · replace h := neg h h5
        refine J_iinc hx (v' := (l3 + 1)) rfl rfl (by decide) (hc_of rfl) rfl dX6_worksDirectlyIn_28 ?_
        refine J_goto hx 4 dX6_worksDirectlyIn_31 rfl ?_
        exact ih _ _ _ _  hW h
      · replace h := pos h h5
        refine J_iinc hx (v' := (l2 + 1)) rfl rfl (by decide) (hc_of rfl) rfl dX6_worksDirectlyIn_25 ?_
        refine J_iinc hx (v' := (l3 + 1)) rfl rfl (by decide) (hc_of rfl) rfl dX6_worksDirectlyIn_28 ?_
        refine J_goto hx 4 dX6_worksDirectlyIn_31 rfl ?_
        exact ih _ _ _ _  hW h
def sX6_worksDirectlyIn (w : Wl) (l1 : Int32) : Option Int32 := sX6_worksDirectlyIn_4 FU w l1 (0 : Int32) (0 : Int32)
theorem kX6_worksDirectlyIn {l : Launch} {Γ : Gl} {B : Bs} {w : Wl} {G : Gf} {sz : Nat} {l1 : Int32} {r : Int32} (hW : Wd Γ B w G) (h : sX6_worksDirectlyIn w l1 = some r) : CtR l Γ yX6_worksDirectlyIn cX6_worksDirectlyIn 4 (some .int) 0 [.ref (B.1 + 1), .int l1] G sz (.int (r)) := by
  refine Ct.of rfl (Nat.le_of_ble_eq_true rfl) fun X hx hr hl hΓ hnm => ?_
  subst hl hΓ
  show J X 4 G sz 0 0 0 [some (.ref (B.1 + 1)), some (.int l1), none, none] []
  unfold sX6_worksDirectlyIn at h
  refine J_iconst hx (0 : Int32) dX6_worksDirectlyIn_0 rfl ?_
  refine J_is4 hx rfl (by decide) (hc_of rfl) rfl dX6_worksDirectlyIn_1 ?_
  refine J_iconst hx (0 : Int32) dX6_worksDirectlyIn_2 rfl ?_
  refine J_is4 hx rfl (by decide) (hc_of rfl) rfl dX6_worksDirectlyIn_3 ?_
  exact tX6_worksDirectlyIn_4 hx hr _ _ _ _ _  hW h
theorem dX6_worksInOrBelow_0 : decode cX6_worksInOrBelow 0 = .ok (.iconst 0, 1) := by decide +kernel
theorem dX6_worksInOrBelow_1 : decode cX6_worksInOrBelow 1 = .ok (.istore_n 2, 1) := by decide +kernel
theorem dX6_worksInOrBelow_2 : decode cX6_worksInOrBelow 2 = .ok (.iconst 0, 1) := by decide +kernel
theorem dX6_worksInOrBelow_3 : decode cX6_worksInOrBelow 3 = .ok (.istore_n 3, 1) := by decide +kernel
theorem dX6_worksInOrBelow_4 : decode cX6_worksInOrBelow 4 = .ok (.iload_n 3, 1) := by decide +kernel
theorem dX6_worksInOrBelow_5 : decode cX6_worksInOrBelow 5 = .ok (.aload_n 0, 1) := by decide +kernel
theorem dX6_worksInOrBelow_6 : decode cX6_worksInOrBelow 6 = .ok (.getfield 63, 3) := by decide +kernel
theorem dX6_worksInOrBelow_9 : decode cX6_worksInOrBelow 9 = .ok (.if_icmp .ge 29, 3) := by decide +kernel
theorem dX6_worksInOrBelow_12 : decode cX6_worksInOrBelow 12 = .ok (.aload_n 0, 1) := by decide +kernel
theorem dX6_worksInOrBelow_13 : decode cX6_worksInOrBelow 13 = .ok (.aload_n 0, 1) := by decide +kernel
theorem dX6_worksInOrBelow_14 : decode cX6_worksInOrBelow 14 = .ok (.getfield 29, 3) := by decide +kernel
theorem dX6_worksInOrBelow_17 : decode cX6_worksInOrBelow 17 = .ok (.iload_n 3, 1) := by decide +kernel
theorem dX6_worksInOrBelow_18 : decode cX6_worksInOrBelow 18 = .ok (.aaload, 1) := by decide +kernel
theorem dX6_worksInOrBelow_19 : decode cX6_worksInOrBelow 19 = .ok (.getfield 112, 3) := by decide +kernel
theorem dX6_worksInOrBelow_22 : decode cX6_worksInOrBelow 22 = .ok (.iload_n 1, 1) := by decide +kernel
theorem dX6_worksInOrBelow_23 : decode cX6_worksInOrBelow 23 = .ok (.invokevirtual 119, 3) := by decide +kernel
theorem dX6_worksInOrBelow_26 : decode cX6_worksInOrBelow 26 = .ok (.ifCond .eq 6, 3) := by decide +kernel
theorem dX6_worksInOrBelow_29 : decode cX6_worksInOrBelow 29 = .ok (.iinc 2 1, 3) := by decide +kernel
theorem dX6_worksInOrBelow_32 : decode cX6_worksInOrBelow 32 = .ok (.iinc 3 1, 3) := by decide +kernel
theorem dX6_worksInOrBelow_35 : decode cX6_worksInOrBelow 35 = .ok (.goto (-31), 3) := by decide +kernel
theorem dX6_worksInOrBelow_38 : decode cX6_worksInOrBelow 38 = .ok (.iload_n 2, 1) := by decide +kernel
theorem dX6_worksInOrBelow_39 : decode cX6_worksInOrBelow 39 = .ok (.ireturn, 1) := by decide +kernel
def sX6_worksInOrBelow_4 : Nat → Wl → Int32 → Int32 → Int32 → Option Int32
  | 0, _, _, _, _ => none
  | n + 1, w, l1, l2, l3 => (if (w 1 7) ≤ l3 then some l2 else (idx l3 16).bind (fun c2 => (sX6_isInOrBelow w (w (41 + 2 * c2) 4) l1).bind (fun r5 => (if r5 = true then sX6_worksInOrBelow_4 n w l1 (l2 + 1) (l3 + 1) else sX6_worksInOrBelow_4 n w l1 l2 (l3 + 1)))))
theorem tX6_worksInOrBelow_4 {X : Cx} {B : Bs} {sz : Nat} {G : Gf} {r : Int32} (hx : Fx X cX6_worksInOrBelow 4 RX6 2 0 0) (hr : Rt X (some .int) 0 0 (RdΨ (.int (r)) G sz)) : ∀ (n : Nat), ∀ (w : Wl) (l1 : Int32) (l2 : Int32) (l3 : Int32) (hW : Wd (xΓ X) B w G) (h : sX6_worksInOrBelow_4 n w l1 l2 l3 = some r), J X 4 G sz 0 0 4 [some (.ref (B.1 + 1)), some (.int l1), some (.int l2), some (.int l3)] [] := by
  intro n
  induction n with
  | zero => intro w l1 l2 l3 hW h; rw [sX6_worksInOrBelow_4.eq_1] at h; cases h
  | succ n ih =>
    intro w l1 l2 l3 hW h
    rw [sX6_worksInOrBelow_4.eq_2] at h
    refine J_il4 hx rfl rfl dX6_worksInOrBelow_4 ?_
    refine J_al4 hx rfl rfl dX6_worksInOrBelow_5 ?_
    refine g6_7 hx hW (rfl : kd 1 = 2) fl_X6_63 dX6_worksInOrBelow_6 ?_
    refine J_icmp_ge hx 38 dX6_worksInOrBelow_9 rfl (fun h1 => ?_) (fun h1 => ?_)
    · replace h := pos h h1
      refine J_il4 hx rfl rfl dX6_worksInOrBelow_38 ?_
      exact J_iretR hx hr dX6_worksInOrBelow_39 (Nat.le_refl 0) (Nat.le_refl 0) (Option.some.inj h)
    · replace h := neg h h1
      refine J_al4 hx rfl rfl dX6_worksInOrBelow_12 ?_
      refine J_al4 hx rfl rfl dX6_worksInOrBelow_13 ?_
      refine g6_11 hx hW 4 (rfl : kd 1 = 2) fl_X6_29 rfl dX6_worksInOrBelow_14 ?_
      refine J_il4 hx rfl rfl dX6_worksInOrBelow_17 ?_
      obtain ⟨c2, hc3, h⟩ := bnd h
      refine J_a5 hx hW (41 + 2 * c2) (rfl : kd 4 = 5) hc3 rfl dX6_worksInOrBelow_18 fun hk4 => ?_
      refine g11_4 hx hW hk4 fl_X6_112 dX6_worksInOrBelow_19 ?_
      refine J_il4 hx rfl rfl dX6_worksInOrBelow_22 ?_
      obtain ⟨r5, hr6, h⟩ := bnd h
      refine J_rdV hx (kX6_isInOrBelow  hW hr6) ml_X6_119 lk_X6_isInOrBelow (ci := 5) rfl (hW.obj (rfl : kd 1 = 2) (by decide) (by decide)) (rest := []) rfl rfl (by decide) (by decide) (Nat.le_of_ble_eq_true rfl) (Nat.le_refl 0) (Nat.le_refl 0) dX6_worksInOrBelow_23 ?_
      refine J_bif_eq hx 32 dX6_worksInOrBelow_26 rfl (fun h7 => ?_) (fun h7 => ?_)
      · replace h := neg h (bft h7)
        refine J_iinc hx (v' := (l3 + 1)) rfl rfl (by decide) (hc_of rfl) rfl dX6_worksInOrBelow_32 ?_
        refine J_goto hx 4 dX6_worksInOrBelow_35 rfl ?_
        exact ih _ _ _ _  hW h
      · replace h := pos h h7
        refine J_iinc hx (v' := (l2 + 1)) rfl rfl (by decide) (hc_of rfl) rfl dX6_worksInOrBelow_29 ?_
        refine J_iinc hx (v' := (l3 + 1)) rfl rfl (by decide) (hc_of rfl) rfl dX6_worksInOrBelow_32 ?_
        refine J_goto hx 4 dX6_worksInOrBelow_35 rfl ?_
        exact ih _ _ _ _  hW h
def sX6_worksInOrBelow (w : Wl) (l1 : Int32) : Option Int32 := sX6_worksInOrBelow_4 FU w l1 (0 : Int32) (0 : Int32)
theorem kX6_worksInOrBelow {l : Launch} {Γ : Gl} {B : Bs} {w : Wl} {G : Gf} {sz : Nat} {l1 : Int32} {r : Int32} (hW : Wd Γ B w G) (h : sX6_worksInOrBelow w l1 = some r) : CtR l Γ yX6_worksInOrBelow cX6_worksInOrBelow 4 (some .int) 2 [.ref (B.1 + 1), .int l1] G sz (.int (r)) := by
  refine Ct.of rfl (Nat.le_of_ble_eq_true rfl) fun X hx hr hl hΓ hnm => ?_
  subst hl hΓ
  show J X 4 G sz 0 0 0 [some (.ref (B.1 + 1)), some (.int l1), none, none] []
  unfold sX6_worksInOrBelow at h
  refine J_iconst hx (0 : Int32) dX6_worksInOrBelow_0 rfl ?_
  refine J_is4 hx rfl (by decide) (hc_of rfl) rfl dX6_worksInOrBelow_1 ?_
  refine J_iconst hx (0 : Int32) dX6_worksInOrBelow_2 rfl ?_
  refine J_is4 hx rfl (by decide) (hc_of rfl) rfl dX6_worksInOrBelow_3 ?_
  exact tX6_worksInOrBelow_4 hx hr _ _ _ _ _  hW h
theorem dX6_cratesDirectlyIn_0 : decode cX6_cratesDirectlyIn 0 = .ok (.iconst 0, 1) := by decide +kernel
theorem dX6_cratesDirectlyIn_1 : decode cX6_cratesDirectlyIn 1 = .ok (.istore_n 2, 1) := by decide +kernel
theorem dX6_cratesDirectlyIn_2 : decode cX6_cratesDirectlyIn 2 = .ok (.iconst 0, 1) := by decide +kernel
theorem dX6_cratesDirectlyIn_3 : decode cX6_cratesDirectlyIn 3 = .ok (.istore_n 3, 1) := by decide +kernel
theorem dX6_cratesDirectlyIn_4 : decode cX6_cratesDirectlyIn 4 = .ok (.iload_n 3, 1) := by decide +kernel
theorem dX6_cratesDirectlyIn_5 : decode cX6_cratesDirectlyIn 5 = .ok (.aload_n 0, 1) := by decide +kernel
theorem dX6_cratesDirectlyIn_6 : decode cX6_cratesDirectlyIn 6 = .ok (.getfield 60, 3) := by decide +kernel
theorem dX6_cratesDirectlyIn_9 : decode cX6_cratesDirectlyIn 9 = .ok (.if_icmp .ge 25, 3) := by decide +kernel
theorem dX6_cratesDirectlyIn_12 : decode cX6_cratesDirectlyIn 12 = .ok (.aload_n 0, 1) := by decide +kernel
theorem dX6_cratesDirectlyIn_13 : decode cX6_cratesDirectlyIn 13 = .ok (.getfield 23, 3) := by decide +kernel
theorem dX6_cratesDirectlyIn_16 : decode cX6_cratesDirectlyIn 16 = .ok (.iload_n 3, 1) := by decide +kernel
theorem dX6_cratesDirectlyIn_17 : decode cX6_cratesDirectlyIn 17 = .ok (.aaload, 1) := by decide +kernel
theorem dX6_cratesDirectlyIn_18 : decode cX6_cratesDirectlyIn 18 = .ok (.getfield 95, 3) := by decide +kernel
theorem dX6_cratesDirectlyIn_21 : decode cX6_cratesDirectlyIn 21 = .ok (.iload_n 1, 1) := by decide +kernel
theorem dX6_cratesDirectlyIn_22 : decode cX6_cratesDirectlyIn 22 = .ok (.if_icmp .ne 6, 3) := by decide +kernel
theorem dX6_cratesDirectlyIn_25 : decode cX6_cratesDirectlyIn 25 = .ok (.iinc 2 1, 3) := by decide +kernel
theorem dX6_cratesDirectlyIn_28 : decode cX6_cratesDirectlyIn 28 = .ok (.iinc 3 1, 3) := by decide +kernel
theorem dX6_cratesDirectlyIn_31 : decode cX6_cratesDirectlyIn 31 = .ok (.goto (-27), 3) := by decide +kernel
theorem dX6_cratesDirectlyIn_34 : decode cX6_cratesDirectlyIn 34 = .ok (.iload_n 2, 1) := by decide +kernel
theorem dX6_cratesDirectlyIn_35 : decode cX6_cratesDirectlyIn 35 = .ok (.ireturn, 1) := by decide +kernel
def sX6_cratesDirectlyIn_4 : Nat → Wl → Int32 → Int32 → Int32 → Option Int32
  | 0, _, _, _, _ => none
  | n + 1, w, l1, l2, l3 => (if (w 1 6) ≤ l3 then some l2 else (idx l3 12).bind (fun c2 => (if (w (29 + c2) 2) = l1 then sX6_cratesDirectlyIn_4 n w l1 (l2 + 1) (l3 + 1) else sX6_cratesDirectlyIn_4 n w l1 l2 (l3 + 1))))
theorem tX6_cratesDirectlyIn_4 {X : Cx} {B : Bs} {sz : Nat} {G : Gf} {r : Int32} (hx : Fx X cX6_cratesDirectlyIn 4 RX6 0 0 0) (hr : Rt X (some .int) 0 0 (RdΨ (.int (r)) G sz)) : ∀ (n : Nat), ∀ (w : Wl) (l1 : Int32) (l2 : Int32) (l3 : Int32) (hW : Wd (xΓ X) B w G) (h : sX6_cratesDirectlyIn_4 n w l1 l2 l3 = some r), J X 4 G sz 0 0 4 [some (.ref (B.1 + 1)), some (.int l1), some (.int l2), some (.int l3)] [] := by
  intro n
  induction n with
  | zero => intro w l1 l2 l3 hW h; rw [sX6_cratesDirectlyIn_4.eq_1] at h; cases h
  | succ n ih =>
    intro w l1 l2 l3 hW h
    rw [sX6_cratesDirectlyIn_4.eq_2] at h
    refine J_il4 hx rfl rfl dX6_cratesDirectlyIn_4 ?_
    refine J_al4 hx rfl rfl dX6_cratesDirectlyIn_5 ?_
    refine g6_6 hx hW (rfl : kd 1 = 2) fl_X6_60 dX6_cratesDirectlyIn_6 ?_
    refine J_icmp_ge hx 34 dX6_cratesDirectlyIn_9 rfl (fun h1 => ?_) (fun h1 => ?_)
    · replace h := pos h h1
      refine J_il4 hx rfl rfl dX6_cratesDirectlyIn_34 ?_
      exact J_iretR hx hr dX6_cratesDirectlyIn_35 (Nat.le_refl 0) (Nat.le_refl 0) (Option.some.inj h)
    · replace h := neg h h1
      refine J_al4 hx rfl rfl dX6_cratesDirectlyIn_12 ?_
      refine g6_10 hx hW 3 (rfl : kd 1 = 2) fl_X6_23 rfl dX6_cratesDirectlyIn_13 ?_
      refine J_il4 hx rfl rfl dX6_cratesDirectlyIn_16 ?_
      obtain ⟨c2, hc3, h⟩ := bnd h
      refine J_a4 hx hW (29 + c2) (rfl : kd 3 = 4) hc3 rfl dX6_cratesDirectlyIn_17 fun hk4 => ?_
      refine g3_2 hx hW hk4 fl_X6_95 dX6_cratesDirectlyIn_18 ?_
      refine J_il4 hx rfl rfl dX6_cratesDirectlyIn_21 ?_
      refine J_icmp_ne hx 28 dX6_cratesDirectlyIn_22 rfl (fun h5 => ?_) (fun h5 => ?_)
      · replace h := neg h h5
        refine J_iinc hx (v' := (l3 + 1)) rfl rfl (by decide) (hc_of rfl) rfl dX6_cratesDirectlyIn_28 ?_
        refine J_goto hx 4 dX6_cratesDirectlyIn_31 rfl ?_
        exact ih _ _ _ _  hW h
      · replace h := pos h h5
        refine J_iinc hx (v' := (l2 + 1)) rfl rfl (by decide) (hc_of rfl) rfl dX6_cratesDirectlyIn_25 ?_
        refine J_iinc hx (v' := (l3 + 1)) rfl rfl (by decide) (hc_of rfl) rfl dX6_cratesDirectlyIn_28 ?_
        refine J_goto hx 4 dX6_cratesDirectlyIn_31 rfl ?_
        exact ih _ _ _ _  hW h
def sX6_cratesDirectlyIn (w : Wl) (l1 : Int32) : Option Int32 := sX6_cratesDirectlyIn_4 FU w l1 (0 : Int32) (0 : Int32)
theorem kX6_cratesDirectlyIn {l : Launch} {Γ : Gl} {B : Bs} {w : Wl} {G : Gf} {sz : Nat} {l1 : Int32} {r : Int32} (hW : Wd Γ B w G) (h : sX6_cratesDirectlyIn w l1 = some r) : CtR l Γ yX6_cratesDirectlyIn cX6_cratesDirectlyIn 4 (some .int) 0 [.ref (B.1 + 1), .int l1] G sz (.int (r)) := by
  refine Ct.of rfl (Nat.le_of_ble_eq_true rfl) fun X hx hr hl hΓ hnm => ?_
  subst hl hΓ
  show J X 4 G sz 0 0 0 [some (.ref (B.1 + 1)), some (.int l1), none, none] []
  unfold sX6_cratesDirectlyIn at h
  refine J_iconst hx (0 : Int32) dX6_cratesDirectlyIn_0 rfl ?_
  refine J_is4 hx rfl (by decide) (hc_of rfl) rfl dX6_cratesDirectlyIn_1 ?_
  refine J_iconst hx (0 : Int32) dX6_cratesDirectlyIn_2 rfl ?_
  refine J_is4 hx rfl (by decide) (hc_of rfl) rfl dX6_cratesDirectlyIn_3 ?_
  exact tX6_cratesDirectlyIn_4 hx hr _ _ _ _ _  hW h
theorem dX6_copyFrom_0 : decode cX6_copyFrom 0 = .ok (.aload_n 0, 1) := by decide +kernel
theorem dX6_copyFrom_1 : decode cX6_copyFrom 1 = .ok (.aload_n 1, 1) := by decide +kernel
theorem dX6_copyFrom_2 : decode cX6_copyFrom 2 = .ok (.getfield 45, 3) := by decide +kernel
theorem dX6_copyFrom_5 : decode cX6_copyFrom 5 = .ok (.putfield 45, 3) := by decide +kernel
theorem dX6_copyFrom_8 : decode cX6_copyFrom 8 = .ok (.aload_n 0, 1) := by decide +kernel
theorem dX6_copyFrom_9 : decode cX6_copyFrom 9 = .ok (.aload_n 1, 1) := by decide +kernel
theorem dX6_copyFrom_10 : decode cX6_copyFrom 10 = .ok (.getfield 9, 3) := by decide +kernel
theorem dX6_copyFrom_13 : decode cX6_copyFrom 13 = .ok (.putfield 9, 3) := by decide +kernel
theorem dX6_copyFrom_16 : decode cX6_copyFrom 16 = .ok (.aload_n 0, 1) := by decide +kernel
theorem dX6_copyFrom_17 : decode cX6_copyFrom 17 = .ok (.aload_n 1, 1) := by decide +kernel
theorem dX6_copyFrom_18 : decode cX6_copyFrom 18 = .ok (.getfield 48, 3) := by decide +kernel
theorem dX6_copyFrom_21 : decode cX6_copyFrom 21 = .ok (.putfield 48, 3) := by decide +kernel
theorem dX6_copyFrom_24 : decode cX6_copyFrom 24 = .ok (.aload_n 0, 1) := by decide +kernel
theorem dX6_copyFrom_25 : decode cX6_copyFrom 25 = .ok (.aload_n 1, 1) := by decide +kernel
theorem dX6_copyFrom_26 : decode cX6_copyFrom 26 = .ok (.getfield 51, 3) := by decide +kernel
theorem dX6_copyFrom_29 : decode cX6_copyFrom 29 = .ok (.putfield 51, 3) := by decide +kernel
theorem dX6_copyFrom_32 : decode cX6_copyFrom 32 = .ok (.aload_n 0, 1) := by decide +kernel
theorem dX6_copyFrom_33 : decode cX6_copyFrom 33 = .ok (.aload_n 1, 1) := by decide +kernel
theorem dX6_copyFrom_34 : decode cX6_copyFrom 34 = .ok (.getfield 54, 3) := by decide +kernel
theorem dX6_copyFrom_37 : decode cX6_copyFrom 37 = .ok (.putfield 54, 3) := by decide +kernel
theorem dX6_copyFrom_40 : decode cX6_copyFrom 40 = .ok (.aload_n 0, 1) := by decide +kernel
theorem dX6_copyFrom_41 : decode cX6_copyFrom 41 = .ok (.aload_n 1, 1) := by decide +kernel
theorem dX6_copyFrom_42 : decode cX6_copyFrom 42 = .ok (.getfield 57, 3) := by decide +kernel
theorem dX6_copyFrom_45 : decode cX6_copyFrom 45 = .ok (.putfield 57, 3) := by decide +kernel
theorem dX6_copyFrom_48 : decode cX6_copyFrom 48 = .ok (.aload_n 0, 1) := by decide +kernel
theorem dX6_copyFrom_49 : decode cX6_copyFrom 49 = .ok (.aload_n 1, 1) := by decide +kernel
theorem dX6_copyFrom_50 : decode cX6_copyFrom 50 = .ok (.getfield 60, 3) := by decide +kernel
theorem dX6_copyFrom_53 : decode cX6_copyFrom 53 = .ok (.putfield 60, 3) := by decide +kernel
theorem dX6_copyFrom_56 : decode cX6_copyFrom 56 = .ok (.aload_n 0, 1) := by decide +kernel
theorem dX6_copyFrom_57 : decode cX6_copyFrom 57 = .ok (.aload_n 1, 1) := by decide +kernel
theorem dX6_copyFrom_58 : decode cX6_copyFrom 58 = .ok (.getfield 63, 3) := by decide +kernel
theorem dX6_copyFrom_61 : decode cX6_copyFrom 61 = .ok (.putfield 63, 3) := by decide +kernel
theorem dX6_copyFrom_64 : decode cX6_copyFrom 64 = .ok (.aload_n 0, 1) := by decide +kernel
theorem dX6_copyFrom_65 : decode cX6_copyFrom 65 = .ok (.aload_n 1, 1) := by decide +kernel
theorem dX6_copyFrom_66 : decode cX6_copyFrom 66 = .ok (.getfield 66, 3) := by decide +kernel
theorem dX6_copyFrom_69 : decode cX6_copyFrom 69 = .ok (.putfield 66, 3) := by decide +kernel
theorem dX6_copyFrom_72 : decode cX6_copyFrom 72 = .ok (.iconst 0, 1) := by decide +kernel
theorem dX6_copyFrom_73 : decode cX6_copyFrom 73 = .ok (.istore_n 2, 1) := by decide +kernel
theorem dX6_copyFrom_74 : decode cX6_copyFrom 74 = .ok (.iload_n 2, 1) := by decide +kernel
theorem dX6_copyFrom_75 : decode cX6_copyFrom 75 = .ok (.bipush 8, 2) := by decide +kernel
theorem dX6_copyFrom_77 : decode cX6_copyFrom 77 = .ok (.if_icmp .ge 24, 3) := by decide +kernel
theorem dX6_copyFrom_80 : decode cX6_copyFrom 80 = .ok (.aload_n 0, 1) := by decide +kernel
theorem dX6_copyFrom_81 : decode cX6_copyFrom 81 = .ok (.getfield 17, 3) := by decide +kernel
theorem dX6_copyFrom_84 : decode cX6_copyFrom 84 = .ok (.iload_n 2, 1) := by decide +kernel
theorem dX6_copyFrom_85 : decode cX6_copyFrom 85 = .ok (.aaload, 1) := by decide +kernel
theorem dX6_copyFrom_86 : decode cX6_copyFrom 86 = .ok (.aload_n 1, 1) := by decide +kernel
theorem dX6_copyFrom_87 : decode cX6_copyFrom 87 = .ok (.getfield 17, 3) := by decide +kernel
theorem dX6_copyFrom_90 : decode cX6_copyFrom 90 = .ok (.iload_n 2, 1) := by decide +kernel
theorem dX6_copyFrom_91 : decode cX6_copyFrom 91 = .ok (.aaload, 1) := by decide +kernel
theorem dX6_copyFrom_92 : decode cX6_copyFrom 92 = .ok (.invokevirtual 69, 3) := by decide +kernel
theorem dX6_copyFrom_95 : decode cX6_copyFrom 95 = .ok (.iinc 2 1, 3) := by decide +kernel
theorem dX6_copyFrom_98 : decode cX6_copyFrom 98 = .ok (.goto (-24), 3) := by decide +kernel
theorem dX6_copyFrom_101 : decode cX6_copyFrom 101 = .ok (.iconst 0, 1) := by decide +kernel
theorem dX6_copyFrom_102 : decode cX6_copyFrom 102 = .ok (.istore_n 2, 1) := by decide +kernel
theorem dX6_copyFrom_103 : decode cX6_copyFrom 103 = .ok (.iload_n 2, 1) := by decide +kernel
theorem dX6_copyFrom_104 : decode cX6_copyFrom 104 = .ok (.bipush 12, 2) := by decide +kernel
theorem dX6_copyFrom_106 : decode cX6_copyFrom 106 = .ok (.if_icmp .ge 24, 3) := by decide +kernel
theorem dX6_copyFrom_109 : decode cX6_copyFrom 109 = .ok (.aload_n 0, 1) := by decide +kernel
theorem dX6_copyFrom_110 : decode cX6_copyFrom 110 = .ok (.getfield 23, 3) := by decide +kernel
theorem dX6_copyFrom_113 : decode cX6_copyFrom 113 = .ok (.iload_n 2, 1) := by decide +kernel
theorem dX6_copyFrom_114 : decode cX6_copyFrom 114 = .ok (.aaload, 1) := by decide +kernel
theorem dX6_copyFrom_115 : decode cX6_copyFrom 115 = .ok (.aload_n 1, 1) := by decide +kernel
theorem dX6_copyFrom_116 : decode cX6_copyFrom 116 = .ok (.getfield 23, 3) := by decide +kernel
theorem dX6_copyFrom_119 : decode cX6_copyFrom 119 = .ok (.iload_n 2, 1) := by decide +kernel
theorem dX6_copyFrom_120 : decode cX6_copyFrom 120 = .ok (.aaload, 1) := by decide +kernel
theorem dX6_copyFrom_121 : decode cX6_copyFrom 121 = .ok (.invokevirtual 73, 3) := by decide +kernel
theorem dX6_copyFrom_124 : decode cX6_copyFrom 124 = .ok (.iinc 2 1, 3) := by decide +kernel
theorem dX6_copyFrom_127 : decode cX6_copyFrom 127 = .ok (.goto (-24), 3) := by decide +kernel
theorem dX6_copyFrom_130 : decode cX6_copyFrom 130 = .ok (.iconst 0, 1) := by decide +kernel
theorem dX6_copyFrom_131 : decode cX6_copyFrom 131 = .ok (.istore_n 2, 1) := by decide +kernel
theorem dX6_copyFrom_132 : decode cX6_copyFrom 132 = .ok (.iload_n 2, 1) := by decide +kernel
theorem dX6_copyFrom_133 : decode cX6_copyFrom 133 = .ok (.bipush 16, 2) := by decide +kernel
theorem dX6_copyFrom_135 : decode cX6_copyFrom 135 = .ok (.if_icmp .ge 24, 3) := by decide +kernel
theorem dX6_copyFrom_138 : decode cX6_copyFrom 138 = .ok (.aload_n 0, 1) := by decide +kernel
theorem dX6_copyFrom_139 : decode cX6_copyFrom 139 = .ok (.getfield 29, 3) := by decide +kernel
theorem dX6_copyFrom_142 : decode cX6_copyFrom 142 = .ok (.iload_n 2, 1) := by decide +kernel
theorem dX6_copyFrom_143 : decode cX6_copyFrom 143 = .ok (.aaload, 1) := by decide +kernel
theorem dX6_copyFrom_144 : decode cX6_copyFrom 144 = .ok (.aload_n 1, 1) := by decide +kernel
theorem dX6_copyFrom_145 : decode cX6_copyFrom 145 = .ok (.getfield 29, 3) := by decide +kernel
theorem dX6_copyFrom_148 : decode cX6_copyFrom 148 = .ok (.iload_n 2, 1) := by decide +kernel
theorem dX6_copyFrom_149 : decode cX6_copyFrom 149 = .ok (.aaload, 1) := by decide +kernel
theorem dX6_copyFrom_150 : decode cX6_copyFrom 150 = .ok (.invokevirtual 76, 3) := by decide +kernel
theorem dX6_copyFrom_153 : decode cX6_copyFrom 153 = .ok (.iinc 2 1, 3) := by decide +kernel
theorem dX6_copyFrom_156 : decode cX6_copyFrom 156 = .ok (.goto (-24), 3) := by decide +kernel
theorem dX6_copyFrom_159 : decode cX6_copyFrom 159 = .ok (.aload_n 1, 1) := by decide +kernel
theorem dX6_copyFrom_160 : decode cX6_copyFrom 160 = .ok (.getfield 33, 3) := by decide +kernel
theorem dX6_copyFrom_163 : decode cX6_copyFrom 163 = .ok (.iconst 0, 1) := by decide +kernel
theorem dX6_copyFrom_164 : decode cX6_copyFrom 164 = .ok (.aload_n 0, 1) := by decide +kernel
theorem dX6_copyFrom_165 : decode cX6_copyFrom 165 = .ok (.getfield 33, 3) := by decide +kernel
theorem dX6_copyFrom_168 : decode cX6_copyFrom 168 = .ok (.iconst 0, 1) := by decide +kernel
theorem dX6_copyFrom_169 : decode cX6_copyFrom 169 = .ok (.iconst 4, 1) := by decide +kernel
theorem dX6_copyFrom_170 : decode cX6_copyFrom 170 = .ok (.invokestatic 79, 3) := by decide +kernel
theorem dX6_copyFrom_173 : decode cX6_copyFrom 173 = .ok (.iconst 0, 1) := by decide +kernel
theorem dX6_copyFrom_174 : decode cX6_copyFrom 174 = .ok (.istore_n 2, 1) := by decide +kernel
theorem dX6_copyFrom_175 : decode cX6_copyFrom 175 = .ok (.iload_n 2, 1) := by decide +kernel
theorem dX6_copyFrom_176 : decode cX6_copyFrom 176 = .ok (.bipush 6, 2) := by decide +kernel
theorem dX6_copyFrom_178 : decode cX6_copyFrom 178 = .ok (.if_icmp .ge 27, 3) := by decide +kernel
theorem dX6_copyFrom_181 : decode cX6_copyFrom 181 = .ok (.aload_n 1, 1) := by decide +kernel
theorem dX6_copyFrom_182 : decode cX6_copyFrom 182 = .ok (.getfield 39, 3) := by decide +kernel
theorem dX6_copyFrom_185 : decode cX6_copyFrom 185 = .ok (.iload_n 2, 1) := by decide +kernel
theorem dX6_copyFrom_186 : decode cX6_copyFrom 186 = .ok (.aaload, 1) := by decide +kernel
theorem dX6_copyFrom_187 : decode cX6_copyFrom 187 = .ok (.iconst 0, 1) := by decide +kernel
theorem dX6_copyFrom_188 : decode cX6_copyFrom 188 = .ok (.aload_n 0, 1) := by decide +kernel
theorem dX6_copyFrom_189 : decode cX6_copyFrom 189 = .ok (.getfield 39, 3) := by decide +kernel
theorem dX6_copyFrom_192 : decode cX6_copyFrom 192 = .ok (.iload_n 2, 1) := by decide +kernel
theorem dX6_copyFrom_193 : decode cX6_copyFrom 193 = .ok (.aaload, 1) := by decide +kernel
theorem dX6_copyFrom_194 : decode cX6_copyFrom 194 = .ok (.iconst 0, 1) := by decide +kernel
theorem dX6_copyFrom_195 : decode cX6_copyFrom 195 = .ok (.iconst 4, 1) := by decide +kernel
theorem dX6_copyFrom_196 : decode cX6_copyFrom 196 = .ok (.invokestatic 79, 3) := by decide +kernel
theorem dX6_copyFrom_199 : decode cX6_copyFrom 199 = .ok (.iinc 2 1, 3) := by decide +kernel
theorem dX6_copyFrom_202 : decode cX6_copyFrom 202 = .ok (.goto (-27), 3) := by decide +kernel
theorem dX6_copyFrom_205 : decode cX6_copyFrom 205 = .ok (.return_, 1) := by decide +kernel
def sX6_copyFrom_175 : Nat → Wl → Nat → Nat → Int32 → Option Wl
  | 0, _, _, _, _ => none
  | n + 1, w, o0, o1, l2 => (if (6 : Int32) ≤ l2 then some w else (idx l2 6).bind (fun c2 => sX6_copyFrom_175 n (wrow w ((o0 + 5) + 1 + c2) (va_cpy (w ((o1 + 5) + 1 + c2)) (w ((o0 + 5) + 1 + c2)) 0 0 4)) o0 o1 (l2 + 1)))
theorem tX6_copyFrom_175 {X : Cx} {B : Bs} {sz : Nat} {r : Wl} (hx : Fx X cX6_copyFrom 3 RX6 2 0 0) (hr : Rt X none 0 0 (WΨ (xΓ X) B none r sz)) : ∀ (n : Nat), ∀ (w : Wl) (o0 : Nat) (o1 : Nat) (l2 : Int32) (ho0 : kd o0 = 2) (ho1 : kd o1 = 2) {G : Gf} (hW : Wd (xΓ X) B w G) (h : sX6_copyFrom_175 n w o0 o1 l2 = some r), J X 3 G sz 0 0 175 [some (.ref (B.1 + o0)), some (.ref (B.1 + o1)), some (.int l2)] [] := by
  intro n
  induction n with
  | zero => intro w o0 o1 l2 ho0 ho1 G hW h; rw [sX6_copyFrom_175.eq_1] at h; cases h
  | succ n ih =>
    intro w o0 o1 l2 ho0 ho1 G hW h
    rw [sX6_copyFrom_175.eq_2] at h
    refine J_il4 hx rfl rfl dX6_copyFrom_175 ?_
    refine J_bipush hx (6 : Int32) dX6_copyFrom_176 rfl ?_
    refine J_icmp_ge hx 205 dX6_copyFrom_178 rfl (fun h1 => ?_) (fun h1 => ?_)
    · replace h := pos h h1
      obtain rfl := Option.some.inj h
      exact J_vretW hx hr hW dX6_copyFrom_205 (Nat.le_refl 0) (Nat.le_refl 0)
    · replace h := neg h h1
      refine J_al4 hx rfl rfl dX6_copyFrom_181 ?_
      refine g6_13 hx hW (o1 + 5) ho1 fl_X6_39 rfl dX6_copyFrom_182 ?_
      refine J_il4 hx rfl rfl dX6_copyFrom_185 ?_
      obtain ⟨c2, hc3, h⟩ := bnd h
      refine J_a7 hx hW ((o1 + 5) + 1 + c2) (kd2 ho1).2.2.2.2 hc3 rfl dX6_copyFrom_186 fun hk4 => ?_
      refine J_iconst hx (0 : Int32) dX6_copyFrom_187 rfl ?_
      refine J_al4 hx rfl rfl dX6_copyFrom_188 ?_
      refine g6_13 hx hW (o0 + 5) ho0 fl_X6_39 rfl dX6_copyFrom_189 ?_
      refine J_il4 hx rfl rfl dX6_copyFrom_192 ?_
      refine J_a7 hx hW ((o0 + 5) + 1 + c2) (kd2 ho0).2.2.2.2 hc3 rfl dX6_copyFrom_193 fun hk5 => ?_
      refine J_iconst hx (0 : Int32) dX6_copyFrom_194 rfl ?_
      refine J_iconst hx (4 : Int32) dX6_copyFrom_195 rfl ?_
      refine J_cpW hx hW ml_X6_79 hk4 hk5 0 0 4 (by decide) (by decide) (by decide) rfl rfl rfl (by decide) (by decide) (by decide) (Nat.le_of_ble_eq_true rfl) dX6_copyFrom_196 fun G6 hW7 => ?_
      refine J_iinc hx (v' := (l2 + 1)) rfl rfl (by decide) (hc_of rfl) rfl dX6_copyFrom_199 ?_
      refine J_goto hx 175 dX6_copyFrom_202 rfl ?_
      exact ih _ _ _ _ ho0 ho1 hW7 h
def sX6_copyFrom_132 : Nat → Wl → Nat → Nat → Int32 → Option Wl
  | 0, _, _, _, _ => none
  | n + 1, w, o0, o1, l2 => (if (16 : Int32) ≤ l2 then sX6_copyFrom_175 FU (wrow w (o0 + 4) (va_cpy (w (o1 + 4)) (w (o0 + 4)) 0 0 4)) o0 o1 (0 : Int32) else (idx l2 16).bind (fun c4 => (sX11_copyFrom w ((o0 + 3) + 37 + 2 * c4) ((o1 + 3) + 37 + 2 * c4)).bind (fun r8 => sX6_copyFrom_132 n r8 o0 o1 (l2 + 1))))
theorem tX6_copyFrom_132 {X : Cx} {B : Bs} {sz : Nat} {r : Wl} (hx : Fx X cX6_copyFrom 3 RX6 2 0 0) (hr : Rt X none 0 0 (WΨ (xΓ X) B none r sz)) : ∀ (n : Nat), ∀ (w : Wl) (o0 : Nat) (o1 : Nat) (l2 : Int32) (ho0 : kd o0 = 2) (ho1 : kd o1 = 2) {G : Gf} (hW : Wd (xΓ X) B w G) (h : sX6_copyFrom_132 n w o0 o1 l2 = some r), J X 3 G sz 0 0 132 [some (.ref (B.1 + o0)), some (.ref (B.1 + o1)), some (.int l2)] [] := by
  intro n
  induction n with
  | zero => intro w o0 o1 l2 ho0 ho1 G hW h; rw [sX6_copyFrom_132.eq_1] at h; cases h
  | succ n ih =>
    intro w o0 o1 l2 ho0 ho1 G hW h
    rw [sX6_copyFrom_132.eq_2] at h
    refine J_il4 hx rfl rfl dX6_copyFrom_132 ?_
    refine J_bipush hx (16 : Int32) dX6_copyFrom_133 rfl ?_
    refine J_icmp_ge hx 159 dX6_copyFrom_135 rfl (fun h1 => ?_) (fun h1 => ?_)
    · replace h := pos h h1
      refine J_al4 hx rfl rfl dX6_copyFrom_159 ?_
      refine g6_12 hx hW (o1 + 4) ho1 fl_X6_33 rfl dX6_copyFrom_160 ?_
      refine J_iconst hx (0 : Int32) dX6_copyFrom_163 rfl ?_
      refine J_al4 hx rfl rfl dX6_copyFrom_164 ?_
      refine g6_12 hx hW (o0 + 4) ho0 fl_X6_33 rfl dX6_copyFrom_165 ?_
      refine J_iconst hx (0 : Int32) dX6_copyFrom_168 rfl ?_
      refine J_iconst hx (4 : Int32) dX6_copyFrom_169 rfl ?_
      refine J_cpW hx hW ml_X6_79 (kd2 ho1).2.2.2.1 (kd2 ho0).2.2.2.1 0 0 4 (by decide) (by decide) (by decide) rfl rfl rfl (by decide) (by decide) (by decide) (Nat.le_of_ble_eq_true rfl) dX6_copyFrom_170 fun G2 hW3 => ?_
      refine J_iconst hx (0 : Int32) dX6_copyFrom_173 rfl ?_
      refine J_is4 hx rfl (by decide) (hc_of rfl) rfl dX6_copyFrom_174 ?_
      exact tX6_copyFrom_175 hx hr _ _ _ _ _ ho0 ho1 hW3 h
    · replace h := neg h h1
      refine J_al4 hx rfl rfl dX6_copyFrom_138 ?_
      refine g6_11 hx hW (o0 + 3) ho0 fl_X6_29 rfl dX6_copyFrom_139 ?_
      refine J_il4 hx rfl rfl dX6_copyFrom_142 ?_
      obtain ⟨c4, hc5, h⟩ := bnd h
      refine J_a5 hx hW ((o0 + 3) + 37 + 2 * c4) (kd2 ho0).2.2.1 hc5 rfl dX6_copyFrom_143 fun hk6 => ?_
      refine J_al4 hx rfl rfl dX6_copyFrom_144 ?_
      refine g6_11 hx hW (o1 + 3) ho1 fl_X6_29 rfl dX6_copyFrom_145 ?_
      refine J_il4 hx rfl rfl dX6_copyFrom_148 ?_
      refine J_a5 hx hW ((o1 + 3) + 37 + 2 * c4) (kd2 ho1).2.2.1 hc5 rfl dX6_copyFrom_149 fun hk7 => ?_
      obtain ⟨r8, hr9, h⟩ := bnd h
      refine J_wrV hx (kX11_copyFrom hk6 hk7 hW hr9) ml_X6_76 lk_X11_copyFrom (ci := 9) rfl (hW.obj hk6 (by decide) (by decide)) (rest := []) rfl rfl (by decide) (by decide) (Nat.le_of_ble_eq_true rfl) (Nat.le_refl 0) (Nat.le_refl 0) dX6_copyFrom_150 fun G10 hW11 => ?_
      show J X 3 G10 sz 0 0 153 [some (.ref (B.1 + o0)), some (.ref (B.1 + o1)), some (.int l2)] []
      refine J_iinc hx (v' := (l2 + 1)) rfl rfl (by decide) (hc_of rfl) rfl dX6_copyFrom_153 ?_
      refine J_goto hx 132 dX6_copyFrom_156 rfl ?_
      exact ih _ _ _ _ ho0 ho1 hW11 h
def sX6_copyFrom_103 : Nat → Wl → Nat → Nat → Int32 → Option Wl
  | 0, _, _, _, _ => none
  | n + 1, w, o0, o1, l2 => (if (12 : Int32) ≤ l2 then sX6_copyFrom_132 FU w o0 o1 (0 : Int32) else (idx l2 12).bind (fun c2 => (sX3_copyFrom w ((o0 + 2) + 26 + c2) ((o1 + 2) + 26 + c2)).bind (fun r6 => sX6_copyFrom_103 n r6 o0 o1 (l2 + 1))))
theorem tX6_copyFrom_103 {X : Cx} {B : Bs} {sz : Nat} {r : Wl} (hx : Fx X cX6_copyFrom 3 RX6 2 0 0) (hr : Rt X none 0 0 (WΨ (xΓ X) B none r sz)) : ∀ (n : Nat), ∀ (w : Wl) (o0 : Nat) (o1 : Nat) (l2 : Int32) (ho0 : kd o0 = 2) (ho1 : kd o1 = 2) {G : Gf} (hW : Wd (xΓ X) B w G) (h : sX6_copyFrom_103 n w o0 o1 l2 = some r), J X 3 G sz 0 0 103 [some (.ref (B.1 + o0)), some (.ref (B.1 + o1)), some (.int l2)] [] := by
  intro n
  induction n with
  | zero => intro w o0 o1 l2 ho0 ho1 G hW h; rw [sX6_copyFrom_103.eq_1] at h; cases h
  | succ n ih =>
    intro w o0 o1 l2 ho0 ho1 G hW h
    rw [sX6_copyFrom_103.eq_2] at h
    refine J_il4 hx rfl rfl dX6_copyFrom_103 ?_
    refine J_bipush hx (12 : Int32) dX6_copyFrom_104 rfl ?_
    refine J_icmp_ge hx 130 dX6_copyFrom_106 rfl (fun h1 => ?_) (fun h1 => ?_)
    · replace h := pos h h1
      refine J_iconst hx (0 : Int32) dX6_copyFrom_130 rfl ?_
      refine J_is4 hx rfl (by decide) (hc_of rfl) rfl dX6_copyFrom_131 ?_
      exact tX6_copyFrom_132 hx hr _ _ _ _ _ ho0 ho1 hW h
    · replace h := neg h h1
      refine J_al4 hx rfl rfl dX6_copyFrom_109 ?_
      refine g6_10 hx hW (o0 + 2) ho0 fl_X6_23 rfl dX6_copyFrom_110 ?_
      refine J_il4 hx rfl rfl dX6_copyFrom_113 ?_
      obtain ⟨c2, hc3, h⟩ := bnd h
      refine J_a4 hx hW ((o0 + 2) + 26 + c2) (kd2 ho0).2.1 hc3 rfl dX6_copyFrom_114 fun hk4 => ?_
      refine J_al4 hx rfl rfl dX6_copyFrom_115 ?_
      refine g6_10 hx hW (o1 + 2) ho1 fl_X6_23 rfl dX6_copyFrom_116 ?_
      refine J_il4 hx rfl rfl dX6_copyFrom_119 ?_
      refine J_a4 hx hW ((o1 + 2) + 26 + c2) (kd2 ho1).2.1 hc3 rfl dX6_copyFrom_120 fun hk5 => ?_
      obtain ⟨r6, hr7, h⟩ := bnd h
      refine J_wrV hx (kX3_copyFrom hk4 hk5 hW hr7) ml_X6_73 lk_X3_copyFrom (ci := 2) rfl (hW.obj hk4 (by decide) (by decide)) (rest := []) rfl rfl (by decide) (by decide) (Nat.le_of_ble_eq_true rfl) (Nat.le_refl 0) (Nat.le_refl 0) dX6_copyFrom_121 fun G8 hW9 => ?_
      show J X 3 G8 sz 0 0 124 [some (.ref (B.1 + o0)), some (.ref (B.1 + o1)), some (.int l2)] []
      refine J_iinc hx (v' := (l2 + 1)) rfl rfl (by decide) (hc_of rfl) rfl dX6_copyFrom_124 ?_
      refine J_goto hx 103 dX6_copyFrom_127 rfl ?_
      exact ih _ _ _ _ ho0 ho1 hW9 h
def sX6_copyFrom_74 : Nat → Wl → Nat → Nat → Int32 → Option Wl
  | 0, _, _, _, _ => none
  | n + 1, w, o0, o1, l2 => (if (8 : Int32) ≤ l2 then sX6_copyFrom_103 FU w o0 o1 (0 : Int32) else (idx l2 8).bind (fun c2 => (sX9_copyFrom w ((o0 + 1) + 11 + 2 * c2) ((o1 + 1) + 11 + 2 * c2)).bind (fun r6 => sX6_copyFrom_74 n r6 o0 o1 (l2 + 1))))
theorem tX6_copyFrom_74 {X : Cx} {B : Bs} {sz : Nat} {r : Wl} (hx : Fx X cX6_copyFrom 3 RX6 2 0 0) (hr : Rt X none 0 0 (WΨ (xΓ X) B none r sz)) : ∀ (n : Nat), ∀ (w : Wl) (o0 : Nat) (o1 : Nat) (l2 : Int32) (ho0 : kd o0 = 2) (ho1 : kd o1 = 2) {G : Gf} (hW : Wd (xΓ X) B w G) (h : sX6_copyFrom_74 n w o0 o1 l2 = some r), J X 3 G sz 0 0 74 [some (.ref (B.1 + o0)), some (.ref (B.1 + o1)), some (.int l2)] [] := by
  intro n
  induction n with
  | zero => intro w o0 o1 l2 ho0 ho1 G hW h; rw [sX6_copyFrom_74.eq_1] at h; cases h
  | succ n ih =>
    intro w o0 o1 l2 ho0 ho1 G hW h
    rw [sX6_copyFrom_74.eq_2] at h
    refine J_il4 hx rfl rfl dX6_copyFrom_74 ?_
    refine J_bipush hx (8 : Int32) dX6_copyFrom_75 rfl ?_
    refine J_icmp_ge hx 101 dX6_copyFrom_77 rfl (fun h1 => ?_) (fun h1 => ?_)
    · replace h := pos h h1
      refine J_iconst hx (0 : Int32) dX6_copyFrom_101 rfl ?_
      refine J_is4 hx rfl (by decide) (hc_of rfl) rfl dX6_copyFrom_102 ?_
      exact tX6_copyFrom_103 hx hr _ _ _ _ _ ho0 ho1 hW h
    · replace h := neg h h1
      refine J_al4 hx rfl rfl dX6_copyFrom_80 ?_
      refine g6_9 hx hW (o0 + 1) ho0 fl_X6_17 rfl dX6_copyFrom_81 ?_
      refine J_il4 hx rfl rfl dX6_copyFrom_84 ?_
      obtain ⟨c2, hc3, h⟩ := bnd h
      refine J_a3 hx hW ((o0 + 1) + 11 + 2 * c2) (kd2 ho0).1 hc3 rfl dX6_copyFrom_85 fun hk4 => ?_
      refine J_al4 hx rfl rfl dX6_copyFrom_86 ?_
      refine g6_9 hx hW (o1 + 1) ho1 fl_X6_17 rfl dX6_copyFrom_87 ?_
      refine J_il4 hx rfl rfl dX6_copyFrom_90 ?_
      refine J_a3 hx hW ((o1 + 1) + 11 + 2 * c2) (kd2 ho1).1 hc3 rfl dX6_copyFrom_91 fun hk5 => ?_
      obtain ⟨r6, hr7, h⟩ := bnd h
      refine J_wrV hx (kX9_copyFrom hk4 hk5 hW hr7) ml_X6_69 lk_X9_copyFrom (ci := 8) rfl (hW.obj hk4 (by decide) (by decide)) (rest := []) rfl rfl (by decide) (by decide) (Nat.le_of_ble_eq_true rfl) (Nat.le_refl 0) (Nat.le_refl 0) dX6_copyFrom_92 fun G8 hW9 => ?_
      show J X 3 G8 sz 0 0 95 [some (.ref (B.1 + o0)), some (.ref (B.1 + o1)), some (.int l2)] []
      refine J_iinc hx (v' := (l2 + 1)) rfl rfl (by decide) (hc_of rfl) rfl dX6_copyFrom_95 ?_
      refine J_goto hx 74 dX6_copyFrom_98 rfl ?_
      exact ih _ _ _ _ ho0 ho1 hW9 h
def sX6_copyFrom (w : Wl) (o0 : Nat) (o1 : Nat) : Option Wl := sX6_copyFrom_74 FU (wst (wst (wst (wst (wst (wst (wst (wst (wst w o0 0 (w o1 0)) o0 1 ((wst w o0 0 (w o1 0)) o1 1)) o0 2 ((wst (wst w o0 0 (w o1 0)) o0 1 ((wst w o0 0 (w o1 0)) o1 1)) o1 2)) o0 3 ((wst (wst (wst w o0 0 (w o1 0)) o0 1 ((wst w o0 0 (w o1 0)) o1 1)) o0 2 ((wst (wst w o0 0 (w o1 0)) o0 1 ((wst w o0 0 (w o1 0)) o1 1)) o1 2)) o1 3)) o0 4 ((wst (wst (wst (wst w o0 0 (w o1 0)) o0 1 ((wst w o0 0 (w o1 0)) o1 1)) o0 2 ((wst (wst w o0 0 (w o1 0)) o0 1 ((wst w o0 0 (w o1 0)) o1 1)) o1 2)) o0 3 ((wst (wst (wst w o0 0 (w o1 0)) o0 1 ((wst w o0 0 (w o1 0)) o1 1)) o0 2 ((wst (wst w o0 0 (w o1 0)) o0 1 ((wst w o0 0 (w o1 0)) o1 1)) o1 2)) o1 3)) o1 4)) o0 5 ((wst (wst (wst (wst (wst w o0 0 (w o1 0)) o0 1 ((wst w o0 0 (w o1 0)) o1 1)) o0 2 ((wst (wst w o0 0 (w o1 0)) o0 1 ((wst w o0 0 (w o1 0)) o1 1)) o1 2)) o0 3 ((wst (wst (wst w o0 0 (w o1 0)) o0 1 ((wst w o0 0 (w o1 0)) o1 1)) o0 2 ((wst (wst w o0 0 (w o1 0)) o0 1 ((wst w o0 0 (w o1 0)) o1 1)) o1 2)) o1 3)) o0 4 ((wst (wst (wst (wst w o0 0 (w o1 0)) o0 1 ((wst w o0 0 (w o1 0)) o1 1)) o0 2 ((wst (wst w o0 0 (w o1 0)) o0 1 ((wst w o0 0 (w o1 0)) o1 1)) o1 2)) o0 3 ((wst (wst (wst w o0 0 (w o1 0)) o0 1 ((wst w o0 0 (w o1 0)) o1 1)) o0 2 ((wst (wst w o0 0 (w o1 0)) o0 1 ((wst w o0 0 (w o1 0)) o1 1)) o1 2)) o1 3)) o1 4)) o1 5)) o0 6 ((wst (wst (wst (wst (wst (wst w o0 0 (w o1 0)) o0 1 ((wst w o0 0 (w o1 0)) o1 1)) o0 2 ((wst (wst w o0 0 (w o1 0)) o0 1 ((wst w o0 0 (w o1 0)) o1 1)) o1 2)) o0 3 ((wst (wst (wst w o0 0 (w o1 0)) o0 1 ((wst w o0 0 (w o1 0)) o1 1)) o0 2 ((wst (wst w o0 0 (w o1 0)) o0 1 ((wst w o0 0 (w o1 0)) o1 1)) o1 2)) o1 3)) o0 4 ((wst (wst (wst (wst w o0 0 (w o1 0)) o0 1 ((wst w o0 0 (w o1 0)) o1 1)) o0 2 ((wst (wst w o0 0 (w o1 0)) o0 1 ((wst w o0 0 (w o1 0)) o1 1)) o1 2)) o0 3 ((wst (wst (wst w o0 0 (w o1 0)) o0 1 ((wst w o0 0 (w o1 0)) o1 1)) o0 2 ((wst (wst w o0 0 (w o1 0)) o0 1 ((wst w o0 0 (w o1 0)) o1 1)) o1 2)) o1 3)) o1 4)) o0 5 ((wst (wst (wst (wst (wst w o0 0 (w o1 0)) o0 1 ((wst w o0 0 (w o1 0)) o1 1)) o0 2 ((wst (wst w o0 0 (w o1 0)) o0 1 ((wst w o0 0 (w o1 0)) o1 1)) o1 2)) o0 3 ((wst (wst (wst w o0 0 (w o1 0)) o0 1 ((wst w o0 0 (w o1 0)) o1 1)) o0 2 ((wst (wst w o0 0 (w o1 0)) o0 1 ((wst w o0 0 (w o1 0)) o1 1)) o1 2)) o1 3)) o0 4 ((wst (wst (wst (wst w o0 0 (w o1 0)) o0 1 ((wst w o0 0 (w o1 0)) o1 1)) o0 2 ((wst (wst w o0 0 (w o1 0)) o0 1 ((wst w o0 0 (w o1 0)) o1 1)) o1 2)) o0 3 ((wst (wst (wst w o0 0 (w o1 0)) o0 1 ((wst w o0 0 (w o1 0)) o1 1)) o0 2 ((wst (wst w o0 0 (w o1 0)) o0 1 ((wst w o0 0 (w o1 0)) o1 1)) o1 2)) o1 3)) o1 4)) o1 5)) o1 6)) o0 7 ((wst (wst (wst (wst (wst (wst (wst w o0 0 (w o1 0)) o0 1 ((wst w o0 0 (w o1 0)) o1 1)) o0 2 ((wst (wst w o0 0 (w o1 0)) o0 1 ((wst w o0 0 (w o1 0)) o1 1)) o1 2)) o0 3 ((wst (wst (wst w o0 0 (w o1 0)) o0 1 ((wst w o0 0 (w o1 0)) o1 1)) o0 2 ((wst (wst w o0 0 (w o1 0)) o0 1 ((wst w o0 0 (w o1 0)) o1 1)) o1 2)) o1 3)) o0 4 ((wst (wst (wst (wst w o0 0 (w o1 0)) o0 1 ((wst w o0 0 (w o1 0)) o1 1)) o0 2 ((wst (wst w o0 0 (w o1 0)) o0 1 ((wst w o0 0 (w o1 0)) o1 1)) o1 2)) o0 3 ((wst (wst (wst w o0 0 (w o1 0)) o0 1 ((wst w o0 0 (w o1 0)) o1 1)) o0 2 ((wst (wst w o0 0 (w o1 0)) o0 1 ((wst w o0 0 (w o1 0)) o1 1)) o1 2)) o1 3)) o1 4)) o0 5 ((wst (wst (wst (wst (wst w o0 0 (w o1 0)) o0 1 ((wst w o0 0 (w o1 0)) o1 1)) o0 2 ((wst (wst w o0 0 (w o1 0)) o0 1 ((wst w o0 0 (w o1 0)) o1 1)) o1 2)) o0 3 ((wst (wst (wst w o0 0 (w o1 0)) o0 1 ((wst w o0 0 (w o1 0)) o1 1)) o0 2 ((wst (wst w o0 0 (w o1 0)) o0 1 ((wst w o0 0 (w o1 0)) o1 1)) o1 2)) o1 3)) o0 4 ((wst (wst (wst (wst w o0 0 (w o1 0)) o0 1 ((wst w o0 0 (w o1 0)) o1 1)) o0 2 ((wst (wst w o0 0 (w o1 0)) o0 1 ((wst w o0 0 (w o1 0)) o1 1)) o1 2)) o0 3 ((wst (wst (wst w o0 0 (w o1 0)) o0 1 ((wst w o0 0 (w o1 0)) o1 1)) o0 2 ((wst (wst w o0 0 (w o1 0)) o0 1 ((wst w o0 0 (w o1 0)) o1 1)) o1 2)) o1 3)) o1 4)) o1 5)) o0 6 ((wst (wst (wst (wst (wst (wst w o0 0 (w o1 0)) o0 1 ((wst w o0 0 (w o1 0)) o1 1)) o0 2 ((wst (wst w o0 0 (w o1 0)) o0 1 ((wst w o0 0 (w o1 0)) o1 1)) o1 2)) o0 3 ((wst (wst (wst w o0 0 (w o1 0)) o0 1 ((wst w o0 0 (w o1 0)) o1 1)) o0 2 ((wst (wst w o0 0 (w o1 0)) o0 1 ((wst w o0 0 (w o1 0)) o1 1)) o1 2)) o1 3)) o0 4 ((wst (wst (wst (wst w o0 0 (w o1 0)) o0 1 ((wst w o0 0 (w o1 0)) o1 1)) o0 2 ((wst (wst w o0 0 (w o1 0)) o0 1 ((wst w o0 0 (w o1 0)) o1 1)) o1 2)) o0 3 ((wst (wst (wst w o0 0 (w o1 0)) o0 1 ((wst w o0 0 (w o1 0)) o1 1)) o0 2 ((wst (wst w o0 0 (w o1 0)) o0 1 ((wst w o0 0 (w o1 0)) o1 1)) o1 2)) o1 3)) o1 4)) o0 5 ((wst (wst (wst (wst (wst w o0 0 (w o1 0)) o0 1 ((wst w o0 0 (w o1 0)) o1 1)) o0 2 ((wst (wst w o0 0 (w o1 0)) o0 1 ((wst w o0 0 (w o1 0)) o1 1)) o1 2)) o0 3 ((wst (wst (wst w o0 0 (w o1 0)) o0 1 ((wst w o0 0 (w o1 0)) o1 1)) o0 2 ((wst (wst w o0 0 (w o1 0)) o0 1 ((wst w o0 0 (w o1 0)) o1 1)) o1 2)) o1 3)) o0 4 ((wst (wst (wst (wst w o0 0 (w o1 0)) o0 1 ((wst w o0 0 (w o1 0)) o1 1)) o0 2 ((wst (wst w o0 0 (w o1 0)) o0 1 ((wst w o0 0 (w o1 0)) o1 1)) o1 2)) o0 3 ((wst (wst (wst w o0 0 (w o1 0)) o0 1 ((wst w o0 0 (w o1 0)) o1 1)) o0 2 ((wst (wst w o0 0 (w o1 0)) o0 1 ((wst w o0 0 (w o1 0)) o1 1)) o1 2)) o1 3)) o1 4)) o1 5)) o1 6)) o1 7)) o0 8 ((wst (wst (wst (wst (wst (wst (wst (wst w o0 0 (w o1 0)) o0 1 ((wst w o0 0 (w o1 0)) o1 1)) o0 2 ((wst (wst w o0 0 (w o1 0)) o0 1 ((wst w o0 0 (w o1 0)) o1 1)) o1 2)) o0 3 ((wst (wst (wst w o0 0 (w o1 0)) o0 1 ((wst w o0 0 (w o1 0)) o1 1)) o0 2 ((wst (wst w o0 0 (w o1 0)) o0 1 ((wst w o0 0 (w o1 0)) o1 1)) o1 2)) o1 3)) o0 4 ((wst (wst (wst (wst w o0 0 (w o1 0)) o0 1 ((wst w o0 0 (w o1 0)) o1 1)) o0 2 ((wst (wst w o0 0 (w o1 0)) o0 1 ((wst w o0 0 (w o1 0)) o1 1)) o1 2)) o0 3 ((wst (wst (wst w o0 0 (w o1 0)) o0 1 ((wst w o0 0 (w o1 0)) o1 1)) o0 2 ((wst (wst w o0 0 (w o1 0)) o0 1 ((wst w o0 0 (w o1 0)) o1 1)) o1 2)) o1 3)) o1 4)) o0 5 ((wst (wst (wst (wst (wst w o0 0 (w o1 0)) o0 1 ((wst w o0 0 (w o1 0)) o1 1)) o0 2 ((wst (wst w o0 0 (w o1 0)) o0 1 ((wst w o0 0 (w o1 0)) o1 1)) o1 2)) o0 3 ((wst (wst (wst w o0 0 (w o1 0)) o0 1 ((wst w o0 0 (w o1 0)) o1 1)) o0 2 ((wst (wst w o0 0 (w o1 0)) o0 1 ((wst w o0 0 (w o1 0)) o1 1)) o1 2)) o1 3)) o0 4 ((wst (wst (wst (wst w o0 0 (w o1 0)) o0 1 ((wst w o0 0 (w o1 0)) o1 1)) o0 2 ((wst (wst w o0 0 (w o1 0)) o0 1 ((wst w o0 0 (w o1 0)) o1 1)) o1 2)) o0 3 ((wst (wst (wst w o0 0 (w o1 0)) o0 1 ((wst w o0 0 (w o1 0)) o1 1)) o0 2 ((wst (wst w o0 0 (w o1 0)) o0 1 ((wst w o0 0 (w o1 0)) o1 1)) o1 2)) o1 3)) o1 4)) o1 5)) o0 6 ((wst (wst (wst (wst (wst (wst w o0 0 (w o1 0)) o0 1 ((wst w o0 0 (w o1 0)) o1 1)) o0 2 ((wst (wst w o0 0 (w o1 0)) o0 1 ((wst w o0 0 (w o1 0)) o1 1)) o1 2)) o0 3 ((wst (wst (wst w o0 0 (w o1 0)) o0 1 ((wst w o0 0 (w o1 0)) o1 1)) o0 2 ((wst (wst w o0 0 (w o1 0)) o0 1 ((wst w o0 0 (w o1 0)) o1 1)) o1 2)) o1 3)) o0 4 ((wst (wst (wst (wst w o0 0 (w o1 0)) o0 1 ((wst w o0 0 (w o1 0)) o1 1)) o0 2 ((wst (wst w o0 0 (w o1 0)) o0 1 ((wst w o0 0 (w o1 0)) o1 1)) o1 2)) o0 3 ((wst (wst (wst w o0 0 (w o1 0)) o0 1 ((wst w o0 0 (w o1 0)) o1 1)) o0 2 ((wst (wst w o0 0 (w o1 0)) o0 1 ((wst w o0 0 (w o1 0)) o1 1)) o1 2)) o1 3)) o1 4)) o0 5 ((wst (wst (wst (wst (wst w o0 0 (w o1 0)) o0 1 ((wst w o0 0 (w o1 0)) o1 1)) o0 2 ((wst (wst w o0 0 (w o1 0)) o0 1 ((wst w o0 0 (w o1 0)) o1 1)) o1 2)) o0 3 ((wst (wst (wst w o0 0 (w o1 0)) o0 1 ((wst w o0 0 (w o1 0)) o1 1)) o0 2 ((wst (wst w o0 0 (w o1 0)) o0 1 ((wst w o0 0 (w o1 0)) o1 1)) o1 2)) o1 3)) o0 4 ((wst (wst (wst (wst w o0 0 (w o1 0)) o0 1 ((wst w o0 0 (w o1 0)) o1 1)) o0 2 ((wst (wst w o0 0 (w o1 0)) o0 1 ((wst w o0 0 (w o1 0)) o1 1)) o1 2)) o0 3 ((wst (wst (wst w o0 0 (w o1 0)) o0 1 ((wst w o0 0 (w o1 0)) o1 1)) o0 2 ((wst (wst w o0 0 (w o1 0)) o0 1 ((wst w o0 0 (w o1 0)) o1 1)) o1 2)) o1 3)) o1 4)) o1 5)) o1 6)) o0 7 ((wst (wst (wst (wst (wst (wst (wst w o0 0 (w o1 0)) o0 1 ((wst w o0 0 (w o1 0)) o1 1)) o0 2 ((wst (wst w o0 0 (w o1 0)) o0 1 ((wst w o0 0 (w o1 0)) o1 1)) o1 2)) o0 3 ((wst (wst (wst w o0 0 (w o1 0)) o0 1 ((wst w o0 0 (w o1 0)) o1 1)) o0 2 ((wst (wst w o0 0 (w o1 0)) o0 1 ((wst w o0 0 (w o1 0)) o1 1)) o1 2)) o1 3)) o0 4 ((wst (wst (wst (wst w o0 0 (w o1 0)) o0 1 ((wst w o0 0 (w o1 0)) o1 1)) o0 2 ((wst (wst w o0 0 (w o1 0)) o0 1 ((wst w o0 0 (w o1 0)) o1 1)) o1 2)) o0 3 ((wst (wst (wst w o0 0 (w o1 0)) o0 1 ((wst w o0 0 (w o1 0)) o1 1)) o0 2 ((wst (wst w o0 0 (w o1 0)) o0 1 ((wst w o0 0 (w o1 0)) o1 1)) o1 2)) o1 3)) o1 4)) o0 5 ((wst (wst (wst (wst (wst w o0 0 (w o1 0)) o0 1 ((wst w o0 0 (w o1 0)) o1 1)) o0 2 ((wst (wst w o0 0 (w o1 0)) o0 1 ((wst w o0 0 (w o1 0)) o1 1)) o1 2)) o0 3 ((wst (wst (wst w o0 0 (w o1 0)) o0 1 ((wst w o0 0 (w o1 0)) o1 1)) o0 2 ((wst (wst w o0 0 (w o1 0)) o0 1 ((wst w o0 0 (w o1 0)) o1 1)) o1 2)) o1 3)) o0 4 ((wst (wst (wst (wst w o0 0 (w o1 0)) o0 1 ((wst w o0 0 (w o1 0)) o1 1)) o0 2 ((wst (wst w o0 0 (w o1 0)) o0 1 ((wst w o0 0 (w o1 0)) o1 1)) o1 2)) o0 3 ((wst (wst (wst w o0 0 (w o1 0)) o0 1 ((wst w o0 0 (w o1 0)) o1 1)) o0 2 ((wst (wst w o0 0 (w o1 0)) o0 1 ((wst w o0 0 (w o1 0)) o1 1)) o1 2)) o1 3)) o1 4)) o1 5)) o0 6 ((wst (wst (wst (wst (wst (wst w o0 0 (w o1 0)) o0 1 ((wst w o0 0 (w o1 0)) o1 1)) o0 2 ((wst (wst w o0 0 (w o1 0)) o0 1 ((wst w o0 0 (w o1 0)) o1 1)) o1 2)) o0 3 ((wst (wst (wst w o0 0 (w o1 0)) o0 1 ((wst w o0 0 (w o1 0)) o1 1)) o0 2 ((wst (wst w o0 0 (w o1 0)) o0 1 ((wst w o0 0 (w o1 0)) o1 1)) o1 2)) o1 3)) o0 4 ((wst (wst (wst (wst w o0 0 (w o1 0)) o0 1 ((wst w o0 0 (w o1 0)) o1 1)) o0 2 ((wst (wst w o0 0 (w o1 0)) o0 1 ((wst w o0 0 (w o1 0)) o1 1)) o1 2)) o0 3 ((wst (wst (wst w o0 0 (w o1 0)) o0 1 ((wst w o0 0 (w o1 0)) o1 1)) o0 2 ((wst (wst w o0 0 (w o1 0)) o0 1 ((wst w o0 0 (w o1 0)) o1 1)) o1 2)) o1 3)) o1 4)) o0 5 ((wst (wst (wst (wst (wst w o0 0 (w o1 0)) o0 1 ((wst w o0 0 (w o1 0)) o1 1)) o0 2 ((wst (wst w o0 0 (w o1 0)) o0 1 ((wst w o0 0 (w o1 0)) o1 1)) o1 2)) o0 3 ((wst (wst (wst w o0 0 (w o1 0)) o0 1 ((wst w o0 0 (w o1 0)) o1 1)) o0 2 ((wst (wst w o0 0 (w o1 0)) o0 1 ((wst w o0 0 (w o1 0)) o1 1)) o1 2)) o1 3)) o0 4 ((wst (wst (wst (wst w o0 0 (w o1 0)) o0 1 ((wst w o0 0 (w o1 0)) o1 1)) o0 2 ((wst (wst w o0 0 (w o1 0)) o0 1 ((wst w o0 0 (w o1 0)) o1 1)) o1 2)) o0 3 ((wst (wst (wst w o0 0 (w o1 0)) o0 1 ((wst w o0 0 (w o1 0)) o1 1)) o0 2 ((wst (wst w o0 0 (w o1 0)) o0 1 ((wst w o0 0 (w o1 0)) o1 1)) o1 2)) o1 3)) o1 4)) o1 5)) o1 6)) o1 7)) o1 8)) o0 o1 (0 : Int32)
theorem kX6_copyFrom {l : Launch} {Γ : Gl} {B : Bs} {w : Wl} {G : Gf} {sz : Nat} {o0 : Nat} {o1 : Nat} {r : Wl} (ho0 : kd o0 = 2) (ho1 : kd o1 = 2) (hW : Wd Γ B w G) (h : sX6_copyFrom w o0 o1 = some r) : CtW l Γ yX6_copyFrom cX6_copyFrom 3 none 2 [.ref (B.1 + o0), .ref (B.1 + o1)] G sz B none r := by
  refine Ct.of rfl (Nat.le_of_ble_eq_true rfl) fun X hx hr hl hΓ hnm => ?_
  subst hl hΓ
  show J X 3 G sz 0 0 0 [some (.ref (B.1 + o0)), some (.ref (B.1 + o1)), none] []
  unfold sX6_copyFrom at h
  refine J_al4 hx rfl rfl dX6_copyFrom_0 ?_
  refine J_al4 hx rfl rfl dX6_copyFrom_1 ?_
  refine g6_0 hx hW ho1 fl_X6_45 dX6_copyFrom_2 ?_
  refine p6_0 hx hW ho0 fl_X6_45 dX6_copyFrom_5 fun G1 hW2 => ?_
  refine J_al4 hx rfl rfl dX6_copyFrom_8 ?_
  refine J_al4 hx rfl rfl dX6_copyFrom_9 ?_
  refine g6_1 hx hW2 ho1 fl_X6_9 dX6_copyFrom_10 ?_
  refine p6_1 hx hW2 ho0 fl_X6_9 dX6_copyFrom_13 fun G3 hW4 => ?_
  refine J_al4 hx rfl rfl dX6_copyFrom_16 ?_
  refine J_al4 hx rfl rfl dX6_copyFrom_17 ?_
  refine g6_2 hx hW4 ho1 fl_X6_48 dX6_copyFrom_18 ?_
  refine p6_2 hx hW4 ho0 fl_X6_48 dX6_copyFrom_21 fun G5 hW6 => ?_
  refine J_al4 hx rfl rfl dX6_copyFrom_24 ?_
  refine J_al4 hx rfl rfl dX6_copyFrom_25 ?_
  refine g6_3 hx hW6 ho1 fl_X6_51 dX6_copyFrom_26 ?_
  refine p6_3 hx hW6 ho0 fl_X6_51 dX6_copyFrom_29 fun G7 hW8 => ?_
  refine J_al4 hx rfl rfl dX6_copyFrom_32 ?_
  refine J_al4 hx rfl rfl dX6_copyFrom_33 ?_
  refine g6_4 hx hW8 ho1 fl_X6_54 dX6_copyFrom_34 ?_
  refine p6_4 hx hW8 ho0 fl_X6_54 dX6_copyFrom_37 fun G9 hW10 => ?_
  refine J_al4 hx rfl rfl dX6_copyFrom_40 ?_
  refine J_al4 hx rfl rfl dX6_copyFrom_41 ?_
  refine g6_5 hx hW10 ho1 fl_X6_57 dX6_copyFrom_42 ?_
  refine p6_5 hx hW10 ho0 fl_X6_57 dX6_copyFrom_45 fun G11 hW12 => ?_
  refine J_al4 hx rfl rfl dX6_copyFrom_48 ?_
  refine J_al4 hx rfl rfl dX6_copyFrom_49 ?_
  refine g6_6 hx hW12 ho1 fl_X6_60 dX6_copyFrom_50 ?_
  refine p6_6 hx hW12 ho0 fl_X6_60 dX6_copyFrom_53 fun G13 hW14 => ?_
  refine J_al4 hx rfl rfl dX6_copyFrom_56 ?_
  refine J_al4 hx rfl rfl dX6_copyFrom_57 ?_
  refine g6_7 hx hW14 ho1 fl_X6_63 dX6_copyFrom_58 ?_
  refine p6_7 hx hW14 ho0 fl_X6_63 dX6_copyFrom_61 fun G15 hW16 => ?_
  refine J_al4 hx rfl rfl dX6_copyFrom_64 ?_
  refine J_al4 hx rfl rfl dX6_copyFrom_65 ?_
  refine g6_8 hx hW16 ho1 fl_X6_66 dX6_copyFrom_66 ?_
  refine p6_8 hx hW16 ho0 fl_X6_66 dX6_copyFrom_69 fun G17 hW18 => ?_
  refine J_iconst hx (0 : Int32) dX6_copyFrom_72 rfl ?_
  refine J_is4 hx rfl (by decide) (hc_of rfl) rfl dX6_copyFrom_73 ?_
  exact tX6_copyFrom_74 hx hr _ _ _ _ _ ho0 ho1 hW18 h
theorem dX6_cratesOutwards_0 : decode cX6_cratesOutwards 0 = .ok (.iconst 0, 1) := by decide +kernel
theorem dX6_cratesOutwards_1 : decode cX6_cratesOutwards 1 = .ok (.istore_n 2, 1) := by decide +kernel
theorem dX6_cratesOutwards_2 : decode cX6_cratesOutwards 2 = .ok (.iload_n 1, 1) := by decide +kernel
theorem dX6_cratesOutwards_3 : decode cX6_cratesOutwards 3 = .ok (.istore_n 3, 1) := by decide +kernel
theorem dX6_cratesOutwards_4 : decode cX6_cratesOutwards 4 = .ok (.iload_n 2, 1) := by decide +kernel
theorem dX6_cratesOutwards_5 : decode cX6_cratesOutwards 5 = .ok (.bipush 12, 2) := by decide +kernel
theorem dX6_cratesOutwards_7 : decode cX6_cratesOutwards 7 = .ok (.if_icmp .ge 27, 3) := by decide +kernel
theorem dX6_cratesOutwards_10 : decode cX6_cratesOutwards 10 = .ok (.aload_n 0, 1) := by decide +kernel
theorem dX6_cratesOutwards_11 : decode cX6_cratesOutwards 11 = .ok (.iload_n 3, 1) := by decide +kernel
theorem dX6_cratesOutwards_12 : decode cX6_cratesOutwards 12 = .ok (.invokevirtual 98, 3) := by decide +kernel
theorem dX6_cratesOutwards_15 : decode cX6_cratesOutwards 15 = .ok (.ifCond .eq 19, 3) := by decide +kernel
theorem dX6_cratesOutwards_18 : decode cX6_cratesOutwards 18 = .ok (.aload_n 0, 1) := by decide +kernel
theorem dX6_cratesOutwards_19 : decode cX6_cratesOutwards 19 = .ok (.getfield 23, 3) := by decide +kernel
theorem dX6_cratesOutwards_22 : decode cX6_cratesOutwards 22 = .ok (.iload_n 3, 1) := by decide +kernel
theorem dX6_cratesOutwards_23 : decode cX6_cratesOutwards 23 = .ok (.aaload, 1) := by decide +kernel
theorem dX6_cratesOutwards_24 : decode cX6_cratesOutwards 24 = .ok (.getfield 95, 3) := by decide +kernel
theorem dX6_cratesOutwards_27 : decode cX6_cratesOutwards 27 = .ok (.istore_n 3, 1) := by decide +kernel
theorem dX6_cratesOutwards_28 : decode cX6_cratesOutwards 28 = .ok (.iinc 2 1, 3) := by decide +kernel
theorem dX6_cratesOutwards_31 : decode cX6_cratesOutwards 31 = .ok (.goto (-27), 3) := by decide +kernel
theorem dX6_cratesOutwards_34 : decode cX6_cratesOutwards 34 = .ok (.iload_n 2, 1) := by decide +kernel
theorem dX6_cratesOutwards_35 : decode cX6_cratesOutwards 35 = .ok (.ireturn, 1) := by decide +kernel
def sX6_cratesOutwards_4 : Nat → Wl → Int32 → Int32 → Option Int32
  | 0, _, _, _ => none
  | n + 1, w, l2, l3 => (if (12 : Int32) ≤ l2 then some l2 else (sX6_hasCrate w l3).bind (fun r2 => (if r2 = true then (idx l3 12).bind (fun c5 => sX6_cratesOutwards_4 n w (l2 + 1) (w (29 + c5) 2)) else some l2)))
theorem tX6_cratesOutwards_4 {X : Cx} {B : Bs} {sz : Nat} {G : Gf} {r : Int32} (hx : Fx X cX6_cratesOutwards 4 RX6 1 0 0) (hr : Rt X (some .int) 0 0 (RdΨ (.int (r)) G sz)) : ∀ (n : Nat), ∀ (w : Wl) (l2 : Int32) (l3 : Int32) (hW : Wd (xΓ X) B w G) (h : sX6_cratesOutwards_4 n w l2 l3 = some r), J X 4 G sz 0 0 4 [some (.ref (B.1 + 1)), none, some (.int l2), some (.int l3)] [] := by
  intro n
  induction n with
  | zero => intro w l2 l3 hW h; rw [sX6_cratesOutwards_4.eq_1] at h; cases h
  | succ n ih =>
    intro w l2 l3 hW h
    rw [sX6_cratesOutwards_4.eq_2] at h
    refine J_il4 hx rfl rfl dX6_cratesOutwards_4 ?_
    refine J_bipush hx (12 : Int32) dX6_cratesOutwards_5 rfl ?_
    refine J_icmp_ge hx 34 dX6_cratesOutwards_7 rfl (fun h1 => ?_) (fun h1 => ?_)
    · replace h := pos h h1
      refine J_il4 hx rfl rfl dX6_cratesOutwards_34 ?_
      exact J_iretR hx hr dX6_cratesOutwards_35 (Nat.le_refl 0) (Nat.le_refl 0) (Option.some.inj h)
    · replace h := neg h h1
      refine J_al4 hx rfl rfl dX6_cratesOutwards_10 ?_
      refine J_il4 hx rfl rfl dX6_cratesOutwards_11 ?_
      obtain ⟨r2, hr3, h⟩ := bnd h
      refine J_rdV hx (kX6_hasCrate  hW hr3) ml_X6_98 lk_X6_hasCrate (ci := 5) rfl (hW.obj (rfl : kd 1 = 2) (by decide) (by decide)) (rest := []) rfl rfl (by decide) (by decide) (Nat.le_of_ble_eq_true rfl) (Nat.le_refl 0) (Nat.le_refl 0) dX6_cratesOutwards_12 ?_
      refine J_bif_eq hx 34 dX6_cratesOutwards_15 rfl (fun h4 => ?_) (fun h4 => ?_)
      · replace h := neg h (bft h4)
        refine J_il4 hx rfl rfl dX6_cratesOutwards_34 ?_
        exact J_iretR hx hr dX6_cratesOutwards_35 (Nat.le_refl 0) (Nat.le_refl 0) (Option.some.inj h)
      · replace h := pos h h4
        refine J_al4 hx rfl rfl dX6_cratesOutwards_18 ?_
        refine g6_10 hx hW 3 (rfl : kd 1 = 2) fl_X6_23 rfl dX6_cratesOutwards_19 ?_
        refine J_il4 hx rfl rfl dX6_cratesOutwards_22 ?_
        obtain ⟨c5, hc6, h⟩ := bnd h
        refine J_a4 hx hW (29 + c5) (rfl : kd 3 = 4) hc6 rfl dX6_cratesOutwards_23 fun hk7 => ?_
        refine g3_2 hx hW hk7 fl_X6_95 dX6_cratesOutwards_24 ?_
        refine J_is4 hx rfl (by decide) (hc_of rfl) rfl dX6_cratesOutwards_27 ?_
        refine J_iinc hx (v' := (l2 + 1)) rfl rfl (by decide) (hc_of rfl) rfl dX6_cratesOutwards_28 ?_
        refine J_goto hx 4 dX6_cratesOutwards_31 rfl ?_
        exact ih _ _ _  hW h
def sX6_cratesOutwards (w : Wl) (l1 : Int32) : Option Int32 := sX6_cratesOutwards_4 FU w (0 : Int32) l1
theorem kX6_cratesOutwards {l : Launch} {Γ : Gl} {B : Bs} {w : Wl} {G : Gf} {sz : Nat} {l1 : Int32} {r : Int32} (hW : Wd Γ B w G) (h : sX6_cratesOutwards w l1 = some r) : CtR l Γ yX6_cratesOutwards cX6_cratesOutwards 4 (some .int) 1 [.ref (B.1 + 1), .int l1] G sz (.int (r)) := by
  refine Ct.of rfl (Nat.le_of_ble_eq_true rfl) fun X hx hr hl hΓ hnm => ?_
  subst hl hΓ
  show J X 4 G sz 0 0 0 [some (.ref (B.1 + 1)), some (.int l1), none, none] []
  unfold sX6_cratesOutwards at h
  refine J_iconst hx (0 : Int32) dX6_cratesOutwards_0 rfl ?_
  refine J_is4 hx rfl (by decide) (hc_of rfl) rfl dX6_cratesOutwards_1 ?_
  refine J_il4 hx rfl rfl dX6_cratesOutwards_2 ?_
  refine J_is4 hx rfl (by decide) (hc_of rfl) rfl dX6_cratesOutwards_3 ?_
  refine J_lw (ls' := [some (.ref (B.1 + 1)), none, some (.int (0 : Int32)), some (.int l1)]) (lwS (lwN (lwS (lwS lwZ)))) ?_
  exact tX6_cratesOutwards_4 hx hr _ _ _ _  hW h
theorem dX6_cratesBelow_0 : decode cX6_cratesBelow 0 = .ok (.iconst 0, 1) := by decide +kernel
theorem dX6_cratesBelow_1 : decode cX6_cratesBelow 1 = .ok (.istore_n 2, 1) := by decide +kernel
theorem dX6_cratesBelow_2 : decode cX6_cratesBelow 2 = .ok (.iconst 0, 1) := by decide +kernel
theorem dX6_cratesBelow_3 : decode cX6_cratesBelow 3 = .ok (.istore_n 3, 1) := by decide +kernel
theorem dX6_cratesBelow_4 : decode cX6_cratesBelow 4 = .ok (.iload_n 3, 1) := by decide +kernel
theorem dX6_cratesBelow_5 : decode cX6_cratesBelow 5 = .ok (.aload_n 0, 1) := by decide +kernel
theorem dX6_cratesBelow_6 : decode cX6_cratesBelow 6 = .ok (.getfield 60, 3) := by decide +kernel
theorem dX6_cratesBelow_9 : decode cX6_cratesBelow 9 = .ok (.if_icmp .ge 29, 3) := by decide +kernel
theorem dX6_cratesBelow_12 : decode cX6_cratesBelow 12 = .ok (.aload_n 0, 1) := by decide +kernel
theorem dX6_cratesBelow_13 : decode cX6_cratesBelow 13 = .ok (.aload_n 0, 1) := by decide +kernel
theorem dX6_cratesBelow_14 : decode cX6_cratesBelow 14 = .ok (.getfield 23, 3) := by decide +kernel
theorem dX6_cratesBelow_17 : decode cX6_cratesBelow 17 = .ok (.iload_n 3, 1) := by decide +kernel
theorem dX6_cratesBelow_18 : decode cX6_cratesBelow 18 = .ok (.aaload, 1) := by decide +kernel
theorem dX6_cratesBelow_19 : decode cX6_cratesBelow 19 = .ok (.getfield 95, 3) := by decide +kernel
theorem dX6_cratesBelow_22 : decode cX6_cratesBelow 22 = .ok (.iload_n 1, 1) := by decide +kernel
theorem dX6_cratesBelow_23 : decode cX6_cratesBelow 23 = .ok (.invokevirtual 119, 3) := by decide +kernel
theorem dX6_cratesBelow_26 : decode cX6_cratesBelow 26 = .ok (.ifCond .eq 6, 3) := by decide +kernel
theorem dX6_cratesBelow_29 : decode cX6_cratesBelow 29 = .ok (.iinc 2 1, 3) := by decide +kernel
theorem dX6_cratesBelow_32 : decode cX6_cratesBelow 32 = .ok (.iinc 3 1, 3) := by decide +kernel
theorem dX6_cratesBelow_35 : decode cX6_cratesBelow 35 = .ok (.goto (-31), 3) := by decide +kernel
theorem dX6_cratesBelow_38 : decode cX6_cratesBelow 38 = .ok (.iload_n 2, 1) := by decide +kernel
theorem dX6_cratesBelow_39 : decode cX6_cratesBelow 39 = .ok (.ireturn, 1) := by decide +kernel
def sX6_cratesBelow_4 : Nat → Wl → Int32 → Int32 → Int32 → Option Int32
  | 0, _, _, _, _ => none
  | n + 1, w, l1, l2, l3 => (if (w 1 6) ≤ l3 then some l2 else (idx l3 12).bind (fun c2 => (sX6_isInOrBelow w (w (29 + c2) 2) l1).bind (fun r5 => (if r5 = true then sX6_cratesBelow_4 n w l1 (l2 + 1) (l3 + 1) else sX6_cratesBelow_4 n w l1 l2 (l3 + 1)))))
theorem tX6_cratesBelow_4 {X : Cx} {B : Bs} {sz : Nat} {G : Gf} {r : Int32} (hx : Fx X cX6_cratesBelow 4 RX6 2 0 0) (hr : Rt X (some .int) 0 0 (RdΨ (.int (r)) G sz)) : ∀ (n : Nat), ∀ (w : Wl) (l1 : Int32) (l2 : Int32) (l3 : Int32) (hW : Wd (xΓ X) B w G) (h : sX6_cratesBelow_4 n w l1 l2 l3 = some r), J X 4 G sz 0 0 4 [some (.ref (B.1 + 1)), some (.int l1), some (.int l2), some (.int l3)] [] := by
  intro n
  induction n with
  | zero => intro w l1 l2 l3 hW h; rw [sX6_cratesBelow_4.eq_1] at h; cases h
  | succ n ih =>
    intro w l1 l2 l3 hW h
    rw [sX6_cratesBelow_4.eq_2] at h
    refine J_il4 hx rfl rfl dX6_cratesBelow_4 ?_
    refine J_al4 hx rfl rfl dX6_cratesBelow_5 ?_
    refine g6_6 hx hW (rfl : kd 1 = 2) fl_X6_60 dX6_cratesBelow_6 ?_
    refine J_icmp_ge hx 38 dX6_cratesBelow_9 rfl (fun h1 => ?_) (fun h1 => ?_)
    · replace h := pos h h1
      refine J_il4 hx rfl rfl dX6_cratesBelow_38 ?_
      exact J_iretR hx hr dX6_cratesBelow_39 (Nat.le_refl 0) (Nat.le_refl 0) (Option.some.inj h)
    · replace h := neg h h1
      refine J_al4 hx rfl rfl dX6_cratesBelow_12 ?_
      refine J_al4 hx rfl rfl dX6_cratesBelow_13 ?_
      refine g6_10 hx hW 3 (rfl : kd 1 = 2) fl_X6_23 rfl dX6_cratesBelow_14 ?_
      refine J_il4 hx rfl rfl dX6_cratesBelow_17 ?_
      obtain ⟨c2, hc3, h⟩ := bnd h
      refine J_a4 hx hW (29 + c2) (rfl : kd 3 = 4) hc3 rfl dX6_cratesBelow_18 fun hk4 => ?_
      refine g3_2 hx hW hk4 fl_X6_95 dX6_cratesBelow_19 ?_
      refine J_il4 hx rfl rfl dX6_cratesBelow_22 ?_
      obtain ⟨r5, hr6, h⟩ := bnd h
      refine J_rdV hx (kX6_isInOrBelow  hW hr6) ml_X6_119 lk_X6_isInOrBelow (ci := 5) rfl (hW.obj (rfl : kd 1 = 2) (by decide) (by decide)) (rest := []) rfl rfl (by decide) (by decide) (Nat.le_of_ble_eq_true rfl) (Nat.le_refl 0) (Nat.le_refl 0) dX6_cratesBelow_23 ?_
      refine J_bif_eq hx 32 dX6_cratesBelow_26 rfl (fun h7 => ?_) (fun h7 => ?_)
      · replace h := neg h (bft h7)
        refine J_iinc hx (v' := (l3 + 1)) rfl rfl (by decide) (hc_of rfl) rfl dX6_cratesBelow_32 ?_
        refine J_goto hx 4 dX6_cratesBelow_35 rfl ?_
        exact ih _ _ _ _  hW h
      · replace h := pos h h7
        refine J_iinc hx (v' := (l2 + 1)) rfl rfl (by decide) (hc_of rfl) rfl dX6_cratesBelow_29 ?_
        refine J_iinc hx (v' := (l3 + 1)) rfl rfl (by decide) (hc_of rfl) rfl dX6_cratesBelow_32 ?_
        refine J_goto hx 4 dX6_cratesBelow_35 rfl ?_
        exact ih _ _ _ _  hW h
def sX6_cratesBelow (w : Wl) (l1 : Int32) : Option Int32 := sX6_cratesBelow_4 FU w l1 (0 : Int32) (0 : Int32)
theorem kX6_cratesBelow {l : Launch} {Γ : Gl} {B : Bs} {w : Wl} {G : Gf} {sz : Nat} {l1 : Int32} {r : Int32} (hW : Wd Γ B w G) (h : sX6_cratesBelow w l1 = some r) : CtR l Γ yX6_cratesBelow cX6_cratesBelow 4 (some .int) 2 [.ref (B.1 + 1), .int l1] G sz (.int (r)) := by
  refine Ct.of rfl (Nat.le_of_ble_eq_true rfl) fun X hx hr hl hΓ hnm => ?_
  subst hl hΓ
  show J X 4 G sz 0 0 0 [some (.ref (B.1 + 1)), some (.int l1), none, none] []
  unfold sX6_cratesBelow at h
  refine J_iconst hx (0 : Int32) dX6_cratesBelow_0 rfl ?_
  refine J_is4 hx rfl (by decide) (hc_of rfl) rfl dX6_cratesBelow_1 ?_
  refine J_iconst hx (0 : Int32) dX6_cratesBelow_2 rfl ?_
  refine J_is4 hx rfl (by decide) (hc_of rfl) rfl dX6_cratesBelow_3 ?_
  exact tX6_cratesBelow_4 hx hr _ _ _ _ _  hW h
