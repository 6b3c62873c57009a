/-! Mirrors and walks, written by wip/whole/gen_walks.py -/
theorem dX13_thrown_0 : decode cX13_thrown 0 = .ok (.aload_n 0, 1) := by decide +kernel
theorem dX13_thrown_1 : decode cX13_thrown 1 = .ok (.getfield 25, 3) := by decide +kernel
theorem dX13_thrown_4 : decode cX13_thrown 4 = .ok (.ireturn, 1) := by decide +kernel
def sX13_thrown (w : Wl) : Option Int32 := some (w 371 5)
theorem kX13_thrown {l : Launch} {Γ : Gl} {B : Bs} {w : Wl} {G : Gf} {sz : Nat} {r : Int32} (hW : Wd Γ B w G) (h : sX13_thrown w  = some r) : CtR l Γ yX13_thrown cX13_thrown 1 (some .int) 0 [.ref (B.1 + 371)] G sz (.int (r)) := by
  refine Ct.of rfl (Nat.le_of_ble_eq_true rfl) fun X hx hr hl hΓ hnm => ?_
  subst hl hΓ
  show J X 1 G sz 0 0 0 [some (.ref (B.1 + 371))] []
  unfold sX13_thrown at h
  refine J_al4 hx rfl rfl dX13_thrown_0 ?_
  refine g13_5 hx hW (rfl : kd 371 = 19) fl_X13_25 dX13_thrown_1 ?_
  exact J_iretR hx hr dX13_thrown_4 (Nat.le_refl 0) (Nat.le_refl 0) (Option.some.inj h)
theorem dX13_in_0 : decode cX13_in 0 = .ok (.iload_n 0, 1) := by decide +kernel
theorem dX13_in_1 : decode cX13_in 1 = .ok (.iload_n 1, 1) := by decide +kernel
theorem dX13_in_2 : decode cX13_in 2 = .ok (.if_icmp .lt 12, 3) := by decide +kernel
theorem dX13_in_5 : decode cX13_in 5 = .ok (.iload_n 0, 1) := by decide +kernel
theorem dX13_in_6 : decode cX13_in 6 = .ok (.iload_n 2, 1) := by decide +kernel
theorem dX13_in_7 : decode cX13_in 7 = .ok (.if_icmp .gt 7, 3) := by decide +kernel
theorem dX13_in_10 : decode cX13_in 10 = .ok (.iconst 1, 1) := by decide +kernel
theorem dX13_in_11 : decode cX13_in 11 = .ok (.goto 4, 3) := by decide +kernel
theorem dX13_in_14 : decode cX13_in 14 = .ok (.iconst 0, 1) := by decide +kernel
theorem dX13_in_15 : decode cX13_in 15 = .ok (.ireturn, 1) := by decide +kernel
def sX13_in (w : Wl) (l0 : Int32) (l1 : Int32) (l2 : Int32) : Option Bool := (if l0 < l1 then some false else (if l2 < l0 then some false else some true))
theorem kX13_in {l : Launch} {Γ : Gl} {B : Bs} {w : Wl} {G : Gf} {sz : Nat} {l0 : Int32} {l1 : Int32} {l2 : Int32} {r : Bool} (hW : Wd Γ B w G) (h : sX13_in w l0 l1 l2 = some r) : CtR l Γ yX13_in cX13_in 3 (some .boolean) 0 [.int l0, .int l1, .int l2] G sz (.int (bI r)) := by
  refine Ct.of rfl (Nat.le_of_ble_eq_true rfl) fun X hx hr hl hΓ hnm => ?_
  subst hl hΓ
  show J X 3 G sz 0 0 0 [some (.int l0), some (.int l1), some (.int l2)] []
  unfold sX13_in at h
  refine J_il4 hx rfl rfl dX13_in_0 ?_
  refine J_il4 hx rfl rfl dX13_in_1 ?_
  refine J_icmp_lt hx 14 dX13_in_2 rfl (fun h1 => ?_) (fun h1 => ?_)
  · replace h := pos h h1
    refine J_iconst hx (0 : Int32) dX13_in_14 rfl ?_
    exact J_zretR hx hr dX13_in_15 (Nat.le_refl 0) (Nat.le_refl 0) (show (0 : Int32) = bI _ from congrArg bI (Option.some.inj h))
  · replace h := neg h h1
    refine J_il4 hx rfl rfl dX13_in_5 ?_
    refine J_il4 hx rfl rfl dX13_in_6 ?_
    refine J_icmp_gt hx 14 dX13_in_7 rfl (fun h2 => ?_) (fun h2 => ?_)
    · replace h := pos h h2
      refine J_iconst hx (0 : Int32) dX13_in_14 rfl ?_
      exact J_zretR hx hr dX13_in_15 (Nat.le_refl 0) (Nat.le_refl 0) (show (0 : Int32) = bI _ from congrArg bI (Option.some.inj h))
    · replace h := neg h h2
      refine J_iconst hx (1 : Int32) dX13_in_10 rfl ?_
      refine J_goto hx 15 dX13_in_11 rfl ?_
      exact J_zretR hx hr dX13_in_15 (Nat.le_refl 0) (Nat.le_refl 0) (show (1 : Int32) = bI _ from congrArg bI (Option.some.inj h))
theorem dX13_size_0 : decode cX13_size 0 = .ok (.iload_n 0, 1) := by decide +kernel
theorem dX13_size_1 : decode cX13_size 1 = .ok (.ifCond .ge 8, 3) := by decide +kernel
theorem dX13_size_4 : decode cX13_size 4 = .ok (.iload_n 0, 1) := by decide +kernel
theorem dX13_size_5 : decode cX13_size 5 = .ok (.ineg, 1) := by decide +kernel
theorem dX13_size_6 : decode cX13_size 6 = .ok (.goto 4, 3) := by decide +kernel
theorem dX13_size_9 : decode cX13_size 9 = .ok (.iload_n 0, 1) := by decide +kernel
theorem dX13_size_10 : decode cX13_size 10 = .ok (.ireturn, 1) := by decide +kernel
def sX13_size (w : Wl) (l0 : Int32) : Option Int32 := (if 0 ≤ l0 then some l0 else some (-l0))
theorem kX13_size {l : Launch} {Γ : Gl} {B : Bs} {w : Wl} {G : Gf} {sz : Nat} {l0 : Int32} {r : Int32} (hW : Wd Γ B w G) (h : sX13_size w l0 = some r) : CtR l Γ yX13_size cX13_size 1 (some .int) 0 [.int l0] G sz (.int (r)) := by
  refine Ct.of rfl (Nat.le_of_ble_eq_true rfl) fun X hx hr hl hΓ hnm => ?_
  subst hl hΓ
  show J X 1 G sz 0 0 0 [some (.int l0)] []
  unfold sX13_size at h
  refine J_il4 hx rfl rfl dX13_size_0 ?_
  refine J_if_ge hx 9 dX13_size_1 rfl (fun h1 => ?_) (fun h1 => ?_)
  · replace h := pos h h1
    refine J_il4 hx rfl rfl dX13_size_9 ?_
    exact J_iretR hx hr dX13_size_10 (Nat.le_refl 0) (Nat.le_refl 0) (Option.some.inj h)
  · replace h := neg h h1
    refine J_il4 hx rfl rfl dX13_size_4 ?_
    refine J_ineg hx dX13_size_5 ?_
    refine J_goto hx 10 dX13_size_6 rfl ?_
    exact J_iretR hx hr dX13_size_10 (Nat.le_refl 0) (Nat.le_refl 0) (Option.some.inj h)
theorem dX13_greater_0 : decode cX13_greater 0 = .ok (.iload_n 0, 1) := by decide +kernel
theorem dX13_greater_1 : decode cX13_greater 1 = .ok (.iload_n 1, 1) := by decide +kernel
theorem dX13_greater_2 : decode cX13_greater 2 = .ok (.if_icmp .le 7, 3) := by decide +kernel
theorem dX13_greater_5 : decode cX13_greater 5 = .ok (.iload_n 0, 1) := by decide +kernel
theorem dX13_greater_6 : decode cX13_greater 6 = .ok (.goto 4, 3) := by decide +kernel
theorem dX13_greater_9 : decode cX13_greater 9 = .ok (.iload_n 1, 1) := by decide +kernel
theorem dX13_greater_10 : decode cX13_greater 10 = .ok (.ireturn, 1) := by decide +kernel
def sX13_greater (w : Wl) (l0 : Int32) (l1 : Int32) : Option Int32 := (if l0 ≤ l1 then some l1 else some l0)
theorem kX13_greater {l : Launch} {Γ : Gl} {B : Bs} {w : Wl} {G : Gf} {sz : Nat} {l0 : Int32} {l1 : Int32} {r : Int32} (hW : Wd Γ B w G) (h : sX13_greater w l0 l1 = some r) : CtR l Γ yX13_greater cX13_greater 2 (some .int) 0 [.int l0, .int l1] G sz (.int (r)) := by
  refine Ct.of rfl (Nat.le_of_ble_eq_true rfl) fun X hx hr hl hΓ hnm => ?_
  subst hl hΓ
  show J X 2 G sz 0 0 0 [some (.int l0), some (.int l1)] []
  unfold sX13_greater at h
  refine J_il4 hx rfl rfl dX13_greater_0 ?_
  refine J_il4 hx rfl rfl dX13_greater_1 ?_
  refine J_icmp_le hx 9 dX13_greater_2 rfl (fun h1 => ?_) (fun h1 => ?_)
  · replace h := pos h h1
    refine J_il4 hx rfl rfl dX13_greater_9 ?_
    exact J_iretR hx hr dX13_greater_10 (Nat.le_refl 0) (Nat.le_refl 0) (Option.some.inj h)
  · replace h := neg h h1
    refine J_il4 hx rfl rfl dX13_greater_5 ?_
    refine J_goto hx 10 dX13_greater_6 rfl ?_
    exact J_iretR hx hr dX13_greater_10 (Nat.le_refl 0) (Nat.le_refl 0) (Option.some.inj h)
theorem dX13_keep_0 : decode cX13_keep 0 = .ok (.aload_n 0, 1) := by decide +kernel
theorem dX13_keep_1 : decode cX13_keep 1 = .ok (.getfield 29, 3) := by decide +kernel
theorem dX13_keep_4 : decode cX13_keep 4 = .ok (.iconst 4, 1) := by decide +kernel
theorem dX13_keep_5 : decode cX13_keep 5 = .ok (.if_icmp .ne 44, 3) := by decide +kernel
theorem dX13_keep_8 : decode cX13_keep 8 = .ok (.iconst 0, 1) := by decide +kernel
theorem dX13_keep_9 : decode cX13_keep 9 = .ok (.istore_n 1, 1) := by decide +kernel
theorem dX13_keep_10 : decode cX13_keep 10 = .ok (.iload_n 1, 1) := by decide +kernel
theorem dX13_keep_11 : decode cX13_keep 11 = .ok (.sipush 1623, 3) := by decide +kernel
theorem dX13_keep_14 : decode cX13_keep 14 = .ok (.if_icmp .ge 25, 3) := by decide +kernel
theorem dX13_keep_17 : decode cX13_keep 17 = .ok (.aload_n 0, 1) := by decide +kernel
theorem dX13_keep_18 : decode cX13_keep 18 = .ok (.getfield 13, 3) := by decide +kernel
theorem dX13_keep_21 : decode cX13_keep 21 = .ok (.iload_n 1, 1) := by decide +kernel
theorem dX13_keep_22 : decode cX13_keep 22 = .ok (.aload_n 0, 1) := by decide +kernel
theorem dX13_keep_23 : decode cX13_keep 23 = .ok (.getfield 13, 3) := by decide +kernel
theorem dX13_keep_26 : decode cX13_keep 26 = .ok (.iload_n 1, 1) := by decide +kernel
theorem dX13_keep_27 : decode cX13_keep 27 = .ok (.sipush 541, 3) := by decide +kernel
theorem dX13_keep_30 : decode cX13_keep 30 = .ok (.iadd, 1) := by decide +kernel
theorem dX13_keep_31 : decode cX13_keep 31 = .ok (.iaload, 1) := by decide +kernel
theorem dX13_keep_32 : decode cX13_keep 32 = .ok (.iastore, 1) := by decide +kernel
theorem dX13_keep_33 : decode cX13_keep 33 = .ok (.iinc 1 1, 3) := by decide +kernel
theorem dX13_keep_36 : decode cX13_keep 36 = .ok (.goto (-26), 3) := by decide +kernel
theorem dX13_keep_39 : decode cX13_keep 39 = .ok (.aload_n 0, 1) := by decide +kernel
theorem dX13_keep_40 : decode cX13_keep 40 = .ok (.dup, 1) := by decide +kernel
theorem dX13_keep_41 : decode cX13_keep 41 = .ok (.getfield 29, 3) := by decide +kernel
theorem dX13_keep_44 : decode cX13_keep 44 = .ok (.iconst 1, 1) := by decide +kernel
theorem dX13_keep_45 : decode cX13_keep 45 = .ok (.isub, 1) := by decide +kernel
theorem dX13_keep_46 : decode cX13_keep 46 = .ok (.putfield 29, 3) := by decide +kernel
theorem dX13_keep_49 : decode cX13_keep 49 = .ok (.iconst 0, 1) := by decide +kernel
theorem dX13_keep_50 : decode cX13_keep 50 = .ok (.istore_n 1, 1) := by decide +kernel
theorem dX13_keep_51 : decode cX13_keep 51 = .ok (.iload_n 1, 1) := by decide +kernel
theorem dX13_keep_52 : decode cX13_keep 52 = .ok (.sipush 541, 3) := by decide +kernel
theorem dX13_keep_55 : decode cX13_keep 55 = .ok (.if_icmp .ge 30, 3) := by decide +kernel
theorem dX13_keep_58 : decode cX13_keep 58 = .ok (.aload_n 0, 1) := by decide +kernel
theorem dX13_keep_59 : decode cX13_keep 59 = .ok (.getfield 13, 3) := by decide +kernel
theorem dX13_keep_62 : decode cX13_keep 62 = .ok (.sipush 541, 3) := by decide +kernel
theorem dX13_keep_65 : decode cX13_keep 65 = .ok (.aload_n 0, 1) := by decide +kernel
theorem dX13_keep_66 : decode cX13_keep 66 = .ok (.getfield 29, 3) := by decide +kernel
theorem dX13_keep_69 : decode cX13_keep 69 = .ok (.imul, 1) := by decide +kernel
theorem dX13_keep_70 : decode cX13_keep 70 = .ok (.iload_n 1, 1) := by decide +kernel
theorem dX13_keep_71 : decode cX13_keep 71 = .ok (.iadd, 1) := by decide +kernel
theorem dX13_keep_72 : decode cX13_keep 72 = .ok (.aload_n 0, 1) := by decide +kernel
theorem dX13_keep_73 : decode cX13_keep 73 = .ok (.getfield 7, 3) := by decide +kernel
theorem dX13_keep_76 : decode cX13_keep 76 = .ok (.iload_n 1, 1) := by decide +kernel
theorem dX13_keep_77 : decode cX13_keep 77 = .ok (.iaload, 1) := by decide +kernel
theorem dX13_keep_78 : decode cX13_keep 78 = .ok (.iastore, 1) := by decide +kernel
theorem dX13_keep_79 : decode cX13_keep 79 = .ok (.iinc 1 1, 3) := by decide +kernel
theorem dX13_keep_82 : decode cX13_keep 82 = .ok (.goto (-31), 3) := by decide +kernel
theorem dX13_keep_85 : decode cX13_keep 85 = .ok (.aload_n 0, 1) := by decide +kernel
theorem dX13_keep_86 : decode cX13_keep 86 = .ok (.dup, 1) := by decide +kernel
theorem dX13_keep_87 : decode cX13_keep 87 = .ok (.getfield 29, 3) := by decide +kernel
theorem dX13_keep_90 : decode cX13_keep 90 = .ok (.iconst 1, 1) := by decide +kernel
theorem dX13_keep_91 : decode cX13_keep 91 = .ok (.iadd, 1) := by decide +kernel
theorem dX13_keep_92 : decode cX13_keep 92 = .ok (.putfield 29, 3) := by decide +kernel
theorem dX13_keep_95 : decode cX13_keep 95 = .ok (.return_, 1) := by decide +kernel
def sX13_keep_51 : Nat → Wl → Int32 → Option Wl
  | 0, _, _ => none
  | n + 1, w, l1 => (if (541 : Int32) ≤ l1 then some (wst w 371 2 ((w 371 2) + (1 : Int32))) else (idx l1 541).bind (fun c4 => (idx (((541 : Int32) * (w 371 2)) + l1) 2164).bind (fun c6 => sX13_keep_51 n (wst w 373 c6 (w 372 c4)) (l1 + 1))))
theorem tX13_keep_51 {X : Cx} {B : Bs} {sz : Nat} {r : Wl} (hx : Fx X cX13_keep 2 RX13 0 0 0) (hr : Rt X none 0 0 (WΨ (xΓ X) B none r sz)) : ∀ (n : Nat), ∀ (w : Wl) (l1 : Int32) {G : Gf} (hW : Wd (xΓ X) B w G) (h : sX13_keep_51 n w l1 = some r), J X 2 G sz 0 0 51 [some (.ref (B.1 + 371)), some (.int l1)] [] := by
  intro n
  induction n with
  | zero => intro w l1 G hW h; rw [sX13_keep_51.eq_1] at h; cases h
  | succ n ih =>
    intro w l1 G hW h
    rw [sX13_keep_51.eq_2] at h
    refine J_il4 hx rfl rfl dX13_keep_51 ?_
    refine J_sipush hx (541 : Int32) dX13_keep_52 rfl ?_
    refine J_icmp_ge hx 85 dX13_keep_55 rfl (fun h1 => ?_) (fun h1 => ?_)
    · replace h := pos h h1
      refine J_al4 hx rfl rfl dX13_keep_85 ?_
      refine J_dup hx dX13_keep_86 ?_
      refine g13_2 hx hW (rfl : kd 371 = 19) fl_X13_29 dX13_keep_87 ?_
      refine J_iconst hx (1 : Int32) dX13_keep_90 rfl ?_
      refine J_iadd hx dX13_keep_91 ?_
      refine p13_2 hx hW (rfl : kd 371 = 19) fl_X13_29 dX13_keep_92 fun G2 hW3 => ?_
      obtain rfl := Option.some.inj h
      exact J_vretW hx hr hW3 dX13_keep_95 (Nat.le_refl 0) (Nat.le_refl 0)
    · replace h := neg h h1
      refine J_al4 hx rfl rfl dX13_keep_58 ?_
      refine g13_1 hx hW 373 (rfl : kd 371 = 19) fl_X13_13 rfl dX13_keep_59 ?_
      refine J_sipush hx (541 : Int32) dX13_keep_62 rfl ?_
      refine J_al4 hx rfl rfl dX13_keep_65 ?_
      refine g13_2 hx hW (rfl : kd 371 = 19) fl_X13_29 dX13_keep_66 ?_
      refine J_imul hx dX13_keep_69 ?_
      refine J_il4 hx rfl rfl dX13_keep_70 ?_
      refine J_iadd hx dX13_keep_71 ?_
      refine J_al4 hx rfl rfl dX13_keep_72 ?_
      refine g13_0 hx hW 372 (rfl : kd 371 = 19) fl_X13_7 rfl dX13_keep_73 ?_
      refine J_il4 hx rfl rfl dX13_keep_76 ?_
      obtain ⟨c4, hc5, h⟩ := bnd h
      refine J_iaW hx hW (rfl : kd 372 = 641) hc5 dX13_keep_77 ?_
      obtain ⟨c6, hc7, h⟩ := bnd h
      refine J_iaS hx hW (rfl : kd 373 = 2264) hc7 dX13_keep_78 fun G8 hW9 => ?_
      refine J_iinc hx (v' := (l1 + 1)) rfl rfl (by decide) (hc_of rfl) rfl dX13_keep_79 ?_
      refine J_goto hx 51 dX13_keep_82 rfl ?_
      exact ih _ _  hW9 h
def sX13_keep_10 : Nat → Wl → Int32 → Option Wl
  | 0, _, _ => none
  | n + 1, w, l1 => (if (1623 : Int32) ≤ l1 then sX13_keep_51 FU (wst w 371 2 ((w 371 2) - (1 : Int32))) (0 : Int32) else (idx (l1 + (541 : Int32)) 2164).bind (fun c4 => (idx l1 2164).bind (fun c6 => sX13_keep_10 n (wst w 373 c6 (w 373 c4)) (l1 + 1))))
theorem tX13_keep_10 {X : Cx} {B : Bs} {sz : Nat} {r : Wl} (hx : Fx X cX13_keep 2 RX13 0 0 0) (hr : Rt X none 0 0 (WΨ (xΓ X) B none r sz)) : ∀ (n : Nat), ∀ (w : Wl) (l1 : Int32) {G : Gf} (hW : Wd (xΓ X) B w G) (h : sX13_keep_10 n w l1 = some r), J X 2 G sz 0 0 10 [some (.ref (B.1 + 371)), some (.int l1)] [] := by
  intro n
  induction n with
  | zero => intro w l1 G hW h; rw [sX13_keep_10.eq_1] at h; cases h
  | succ n ih =>
    intro w l1 G hW h
    rw [sX13_keep_10.eq_2] at h
    refine J_il4 hx rfl rfl dX13_keep_10 ?_
    refine J_sipush hx (1623 : Int32) dX13_keep_11 rfl ?_
    refine J_icmp_ge hx 39 dX13_keep_14 rfl (fun h1 => ?_) (fun h1 => ?_)
    · replace h := pos h h1
      refine J_al4 hx rfl rfl dX13_keep_39 ?_
      refine J_dup hx dX13_keep_40 ?_
      refine g13_2 hx hW (rfl : kd 371 = 19) fl_X13_29 dX13_keep_41 ?_
      refine J_iconst hx (1 : Int32) dX13_keep_44 rfl ?_
      refine J_isub hx dX13_keep_45 ?_
      refine p13_2 hx hW (rfl : kd 371 = 19) fl_X13_29 dX13_keep_46 fun G2 hW3 => ?_
      refine J_iconst hx (0 : Int32) dX13_keep_49 rfl ?_
      refine J_is4 hx rfl (by decide) (hc_of rfl) rfl dX13_keep_50 ?_
      exact tX13_keep_51 hx hr _ _ _  hW3 h
    · replace h := neg h h1
      refine J_al4 hx rfl rfl dX13_keep_17 ?_
      refine g13_1 hx hW 373 (rfl : kd 371 = 19) fl_X13_13 rfl dX13_keep_18 ?_
      refine J_il4 hx rfl rfl dX13_keep_21 ?_
      refine J_al4 hx rfl rfl dX13_keep_22 ?_
      refine g13_1 hx hW 373 (rfl : kd 371 = 19) fl_X13_13 rfl dX13_keep_23 ?_
      refine J_il4 hx rfl rfl dX13_keep_26 ?_
      refine J_sipush hx (541 : Int32) dX13_keep_27 rfl ?_
      refine J_iadd hx dX13_keep_30 ?_
      obtain ⟨c4, hc5, h⟩ := bnd h
      refine J_iaW hx hW (rfl : kd 373 = 2264) hc5 dX13_keep_31 ?_
      obtain ⟨c6, hc7, h⟩ := bnd h
      refine J_iaS hx hW (rfl : kd 373 = 2264) hc7 dX13_keep_32 fun G8 hW9 => ?_
      refine J_iinc hx (v' := (l1 + 1)) rfl rfl (by decide) (hc_of rfl) rfl dX13_keep_33 ?_
      refine J_goto hx 10 dX13_keep_36 rfl ?_
      exact ih _ _  hW9 h
def sX13_keep (w : Wl) : Option Wl := (if (w 371 2) = (4 : Int32) then sX13_keep_10 FU w (0 : Int32) else sX13_keep_51 FU w (0 : Int32))
theorem kX13_keep {l : Launch} {Γ : Gl} {B : Bs} {w : Wl} {G : Gf} {sz : Nat} {r : Wl} (hW : Wd Γ B w G) (h : sX13_keep w  = some r) : CtW l Γ yX13_keep cX13_keep 2 none 0 [.ref (B.1 + 371)] G sz B none r := by
  refine Ct.of rfl (Nat.le_of_ble_eq_true rfl) fun X hx hr hl hΓ hnm => ?_
  subst hl hΓ
  show J X 2 G sz 0 0 0 [some (.ref (B.1 + 371)), none] []
  unfold sX13_keep at h
  refine J_al4 hx rfl rfl dX13_keep_0 ?_
  refine g13_2 hx hW (rfl : kd 371 = 19) fl_X13_29 dX13_keep_1 ?_
  refine J_iconst hx (4 : Int32) dX13_keep_4 rfl ?_
  refine J_icmp_ne hx 49 dX13_keep_5 rfl (fun h1 => ?_) (fun h1 => ?_)
  · replace h := neg h h1
    refine J_iconst hx (0 : Int32) dX13_keep_49 rfl ?_
    refine J_is4 hx rfl (by decide) (hc_of rfl) rfl dX13_keep_50 ?_
    exact tX13_keep_51 hx hr _ _ _  hW h
  · replace h := pos h h1
    refine J_iconst hx (0 : Int32) dX13_keep_8 rfl ?_
    refine J_is4 hx rfl (by decide) (hc_of rfl) rfl dX13_keep_9 ?_
    exact tX13_keep_10 hx hr _ _ _  hW h
theorem dX13_isVenue_0 : decode cX13_isVenue 0 = .ok (.iload_n 1, 1) := by decide +kernel
theorem dX13_isVenue_1 : decode cX13_isVenue 1 = .ok (.iconst 0, 1) := by decide +kernel
theorem dX13_isVenue_2 : decode cX13_isVenue 2 = .ok (.aload_n 0, 1) := by decide +kernel
theorem dX13_isVenue_3 : decode cX13_isVenue 3 = .ok (.getfield 7, 3) := by decide +kernel
theorem dX13_isVenue_6 : decode cX13_isVenue 6 = .ok (.iconst 1, 1) := by decide +kernel
theorem dX13_isVenue_7 : decode cX13_isVenue 7 = .ok (.iaload, 1) := by decide +kernel
theorem dX13_isVenue_8 : decode cX13_isVenue 8 = .ok (.iconst 1, 1) := by decide +kernel
theorem dX13_isVenue_9 : decode cX13_isVenue 9 = .ok (.isub, 1) := by decide +kernel
theorem dX13_isVenue_10 : decode cX13_isVenue 10 = .ok (.invokestatic 32, 3) := by decide +kernel
theorem dX13_isVenue_13 : decode cX13_isVenue 13 = .ok (.ireturn, 1) := by decide +kernel
def sX13_isVenue (w : Wl) (l1 : Int32) : Option Bool := (sX13_in w l1 (0 : Int32) ((w 372 1) - (1 : Int32))).bind (fun r1 => some r1)
theorem kX13_isVenue {l : Launch} {Γ : Gl} {B : Bs} {w : Wl} {G : Gf} {sz : Nat} {l1 : Int32} {r : Bool} (hW : Wd Γ B w G) (h : sX13_isVenue w l1 = some r) : CtR l Γ yX13_isVenue cX13_isVenue 2 (some .boolean) 1 [.ref (B.1 + 371), .int l1] G sz (.int (bI r)) := by
  refine Ct.of rfl (Nat.le_of_ble_eq_true rfl) fun X hx hr hl hΓ hnm => ?_
  subst hl hΓ
  show J X 2 G sz 0 0 0 [some (.ref (B.1 + 371)), some (.int l1)] []
  unfold sX13_isVenue at h
  refine J_il4 hx rfl rfl dX13_isVenue_0 ?_
  refine J_iconst hx (0 : Int32) dX13_isVenue_1 rfl ?_
  refine J_al4 hx rfl rfl dX13_isVenue_2 ?_
  refine g13_0 hx hW 372 (rfl : kd 371 = 19) fl_X13_7 rfl dX13_isVenue_3 ?_
  refine J_iconst hx (1 : Int32) dX13_isVenue_6 rfl ?_
  refine J_iaW hx hW (rfl : kd 372 = 641) (by decide +kernel : idx (1 : Int32) 541 = some 1) dX13_isVenue_7 ?_
  refine J_iconst hx (1 : Int32) dX13_isVenue_8 rfl ?_
  refine J_isub hx dX13_isVenue_9 ?_
  obtain ⟨r1, hr2, h⟩ := bnd h
  refine J_rdS hx (kX13_in  hW hr2) ml_X13_32 lk_X13_in (rest := []) rfl rfl (by decide) (by decide) (Nat.le_of_ble_eq_true rfl) (Nat.le_refl 0) (Nat.le_refl 0) dX13_isVenue_10 ?_
  exact J_zretR hx hr dX13_isVenue_13 (Nat.le_refl 0) (Nat.le_refl 0) (show (bI r1) = bI _ from congrArg bI (Option.some.inj h))
theorem dX13_isCrate_0 : decode cX13_isCrate 0 = .ok (.iload_n 1, 1) := by decide +kernel
theorem dX13_isCrate_1 : decode cX13_isCrate 1 = .ok (.iconst 0, 1) := by decide +kernel
theorem dX13_isCrate_2 : decode cX13_isCrate 2 = .ok (.aload_n 0, 1) := by decide +kernel
theorem dX13_isCrate_3 : decode cX13_isCrate 3 = .ok (.getfield 7, 3) := by decide +kernel
theorem dX13_isCrate_6 : decode cX13_isCrate 6 = .ok (.iconst 2, 1) := by decide +kernel
theorem dX13_isCrate_7 : decode cX13_isCrate 7 = .ok (.iaload, 1) := by decide +kernel
theorem dX13_isCrate_8 : decode cX13_isCrate 8 = .ok (.iconst 1, 1) := by decide +kernel
theorem dX13_isCrate_9 : decode cX13_isCrate 9 = .ok (.isub, 1) := by decide +kernel
theorem dX13_isCrate_10 : decode cX13_isCrate 10 = .ok (.invokestatic 32, 3) := by decide +kernel
theorem dX13_isCrate_13 : decode cX13_isCrate 13 = .ok (.ireturn, 1) := by decide +kernel
def sX13_isCrate (w : Wl) (l1 : Int32) : Option Bool := (sX13_in w l1 (0 : Int32) ((w 372 2) - (1 : Int32))).bind (fun r1 => some r1)
theorem kX13_isCrate {l : Launch} {Γ : Gl} {B : Bs} {w : Wl} {G : Gf} {sz : Nat} {l1 : Int32} {r : Bool} (hW : Wd Γ B w G) (h : sX13_isCrate w l1 = some r) : CtR l Γ yX13_isCrate cX13_isCrate 2 (some .boolean) 1 [.ref (B.1 + 371), .int l1] G sz (.int (bI r)) := by
  refine Ct.of rfl (Nat.le_of_ble_eq_true rfl) fun X hx hr hl hΓ hnm => ?_
  subst hl hΓ
  show J X 2 G sz 0 0 0 [some (.ref (B.1 + 371)), some (.int l1)] []
  unfold sX13_isCrate at h
  refine J_il4 hx rfl rfl dX13_isCrate_0 ?_
  refine J_iconst hx (0 : Int32) dX13_isCrate_1 rfl ?_
  refine J_al4 hx rfl rfl dX13_isCrate_2 ?_
  refine g13_0 hx hW 372 (rfl : kd 371 = 19) fl_X13_7 rfl dX13_isCrate_3 ?_
  refine J_iconst hx (2 : Int32) dX13_isCrate_6 rfl ?_
  refine J_iaW hx hW (rfl : kd 372 = 641) (by decide +kernel : idx (2 : Int32) 541 = some 2) dX13_isCrate_7 ?_
  refine J_iconst hx (1 : Int32) dX13_isCrate_8 rfl ?_
  refine J_isub hx dX13_isCrate_9 ?_
  obtain ⟨r1, hr2, h⟩ := bnd h
  refine J_rdS hx (kX13_in  hW hr2) ml_X13_32 lk_X13_in (rest := []) rfl rfl (by decide) (by decide) (Nat.le_of_ble_eq_true rfl) (Nat.le_refl 0) (Nat.le_refl 0) dX13_isCrate_10 ?_
  exact J_zretR hx hr dX13_isCrate_13 (Nat.le_refl 0) (Nat.le_refl 0) (show (bI r1) = bI _ from congrArg bI (Option.some.inj h))
theorem dX13_isWork_0 : decode cX13_isWork 0 = .ok (.iload_n 1, 1) := by decide +kernel
theorem dX13_isWork_1 : decode cX13_isWork 1 = .ok (.iconst 0, 1) := by decide +kernel
theorem dX13_isWork_2 : decode cX13_isWork 2 = .ok (.aload_n 0, 1) := by decide +kernel
theorem dX13_isWork_3 : decode cX13_isWork 3 = .ok (.getfield 7, 3) := by decide +kernel
theorem dX13_isWork_6 : decode cX13_isWork 6 = .ok (.iconst 3, 1) := by decide +kernel
theorem dX13_isWork_7 : decode cX13_isWork 7 = .ok (.iaload, 1) := by decide +kernel
theorem dX13_isWork_8 : decode cX13_isWork 8 = .ok (.iconst 1, 1) := by decide +kernel
theorem dX13_isWork_9 : decode cX13_isWork 9 = .ok (.isub, 1) := by decide +kernel
theorem dX13_isWork_10 : decode cX13_isWork 10 = .ok (.invokestatic 32, 3) := by decide +kernel
theorem dX13_isWork_13 : decode cX13_isWork 13 = .ok (.ireturn, 1) := by decide +kernel
def sX13_isWork (w : Wl) (l1 : Int32) : Option Bool := (sX13_in w l1 (0 : Int32) ((w 372 3) - (1 : Int32))).bind (fun r1 => some r1)
theorem kX13_isWork {l : Launch} {Γ : Gl} {B : Bs} {w : Wl} {G : Gf} {sz : Nat} {l1 : Int32} {r : Bool} (hW : Wd Γ B w G) (h : sX13_isWork w l1 = some r) : CtR l Γ yX13_isWork cX13_isWork 2 (some .boolean) 1 [.ref (B.1 + 371), .int l1] G sz (.int (bI r)) := by
  refine Ct.of rfl (Nat.le_of_ble_eq_true rfl) fun X hx hr hl hΓ hnm => ?_
  subst hl hΓ
  show J X 2 G sz 0 0 0 [some (.ref (B.1 + 371)), some (.int l1)] []
  unfold sX13_isWork at h
  refine J_il4 hx rfl rfl dX13_isWork_0 ?_
  refine J_iconst hx (0 : Int32) dX13_isWork_1 rfl ?_
  refine J_al4 hx rfl rfl dX13_isWork_2 ?_
  refine g13_0 hx hW 372 (rfl : kd 371 = 19) fl_X13_7 rfl dX13_isWork_3 ?_
  refine J_iconst hx (3 : Int32) dX13_isWork_6 rfl ?_
  refine J_iaW hx hW (rfl : kd 372 = 641) (by decide +kernel : idx (3 : Int32) 541 = some 3) dX13_isWork_7 ?_
  refine J_iconst hx (1 : Int32) dX13_isWork_8 rfl ?_
  refine J_isub hx dX13_isWork_9 ?_
  obtain ⟨r1, hr2, h⟩ := bnd h
  refine J_rdS hx (kX13_in  hW hr2) ml_X13_32 lk_X13_in (rest := []) rfl rfl (by decide) (by decide) (Nat.le_of_ble_eq_true rfl) (Nat.le_refl 0) (Nat.le_refl 0) dX13_isWork_10 ?_
  exact J_zretR hx hr dX13_isWork_13 (Nat.le_refl 0) (Nat.le_refl 0) (show (bI r1) = bI _ from congrArg bI (Option.some.inj h))
theorem dX13_isCourier_0 : decode cX13_isCourier 0 = .ok (.iload_n 1, 1) := by decide +kernel
theorem dX13_isCourier_1 : decode cX13_isCourier 1 = .ok (.iconst 0, 1) := by decide +kernel
theorem dX13_isCourier_2 : decode cX13_isCourier 2 = .ok (.aload_n 0, 1) := by decide +kernel
theorem dX13_isCourier_3 : decode cX13_isCourier 3 = .ok (.getfield 7, 3) := by decide +kernel
theorem dX13_isCourier_6 : decode cX13_isCourier 6 = .ok (.iconst 4, 1) := by decide +kernel
theorem dX13_isCourier_7 : decode cX13_isCourier 7 = .ok (.iaload, 1) := by decide +kernel
theorem dX13_isCourier_8 : decode cX13_isCourier 8 = .ok (.iconst 1, 1) := by decide +kernel
theorem dX13_isCourier_9 : decode cX13_isCourier 9 = .ok (.isub, 1) := by decide +kernel
theorem dX13_isCourier_10 : decode cX13_isCourier 10 = .ok (.invokestatic 32, 3) := by decide +kernel
theorem dX13_isCourier_13 : decode cX13_isCourier 13 = .ok (.ireturn, 1) := by decide +kernel
def sX13_isCourier (w : Wl) (l1 : Int32) : Option Bool := (sX13_in w l1 (0 : Int32) ((w 372 4) - (1 : Int32))).bind (fun r1 => some r1)
theorem kX13_isCourier {l : Launch} {Γ : Gl} {B : Bs} {w : Wl} {G : Gf} {sz : Nat} {l1 : Int32} {r : Bool} (hW : Wd Γ B w G) (h : sX13_isCourier w l1 = some r) : CtR l Γ yX13_isCourier cX13_isCourier 2 (some .boolean) 1 [.ref (B.1 + 371), .int l1] G sz (.int (bI r)) := by
  refine Ct.of rfl (Nat.le_of_ble_eq_true rfl) fun X hx hr hl hΓ hnm => ?_
  subst hl hΓ
  show J X 2 G sz 0 0 0 [some (.ref (B.1 + 371)), some (.int l1)] []
  unfold sX13_isCourier at h
  refine J_il4 hx rfl rfl dX13_isCourier_0 ?_
  refine J_iconst hx (0 : Int32) dX13_isCourier_1 rfl ?_
  refine J_al4 hx rfl rfl dX13_isCourier_2 ?_
  refine g13_0 hx hW 372 (rfl : kd 371 = 19) fl_X13_7 rfl dX13_isCourier_3 ?_
  refine J_iconst hx (4 : Int32) dX13_isCourier_6 rfl ?_
  refine J_iaW hx hW (rfl : kd 372 = 641) (by decide +kernel : idx (4 : Int32) 541 = some 4) dX13_isCourier_7 ?_
  refine J_iconst hx (1 : Int32) dX13_isCourier_8 rfl ?_
  refine J_isub hx dX13_isCourier_9 ?_
  obtain ⟨r1, hr2, h⟩ := bnd h
  refine J_rdS hx (kX13_in  hW hr2) ml_X13_32 lk_X13_in (rest := []) rfl rfl (by decide) (by decide) (Nat.le_of_ble_eq_true rfl) (Nat.le_refl 0) (Nat.le_refl 0) dX13_isCourier_10 ?_
  exact J_zretR hx hr dX13_isCourier_13 (Nat.le_refl 0) (Nat.le_refl 0) (show (bI r1) = bI _ from congrArg bI (Option.some.inj h))
theorem dX13_ofVenue_0 : decode cX13_ofVenue 0 = .ok (.aload_n 0, 1) := by decide +kernel
theorem dX13_ofVenue_1 : decode cX13_ofVenue 1 = .ok (.getfield 7, 3) := by decide +kernel
theorem dX13_ofVenue_4 : decode cX13_ofVenue 4 = .ok (.bipush 9, 2) := by decide +kernel
theorem dX13_ofVenue_6 : decode cX13_ofVenue 6 = .ok (.bipush 13, 2) := by decide +kernel
theorem dX13_ofVenue_8 : decode cX13_ofVenue 8 = .ok (.iload_n 1, 1) := by decide +kernel
theorem dX13_ofVenue_9 : decode cX13_ofVenue 9 = .ok (.imul, 1) := by decide +kernel
theorem dX13_ofVenue_10 : decode cX13_ofVenue 10 = .ok (.iadd, 1) := by decide +kernel
theorem dX13_ofVenue_11 : decode cX13_ofVenue 11 = .ok (.iload_n 2, 1) := by decide +kernel
theorem dX13_ofVenue_12 : decode cX13_ofVenue 12 = .ok (.iadd, 1) := by decide +kernel
theorem dX13_ofVenue_13 : decode cX13_ofVenue 13 = .ok (.iaload, 1) := by decide +kernel
theorem dX13_ofVenue_14 : decode cX13_ofVenue 14 = .ok (.ireturn, 1) := by decide +kernel
def sX13_ofVenue (w : Wl) (l1 : Int32) (l2 : Int32) : Option Int32 := (idx (((9 : Int32) + ((13 : Int32) * l1)) + l2) 541).bind (fun c1 => some (w 372 c1))
theorem kX13_ofVenue {l : Launch} {Γ : Gl} {B : Bs} {w : Wl} {G : Gf} {sz : Nat} {l1 : Int32} {l2 : Int32} {r : Int32} (hW : Wd Γ B w G) (h : sX13_ofVenue w l1 l2 = some r) : CtR l Γ yX13_ofVenue cX13_ofVenue 3 (some .int) 0 [.ref (B.1 + 371), .int l1, .int l2] G sz (.int (r)) := by
  refine Ct.of rfl (Nat.le_of_ble_eq_true rfl) fun X hx hr hl hΓ hnm => ?_
  subst hl hΓ
  show J X 3 G sz 0 0 0 [some (.ref (B.1 + 371)), some (.int l1), some (.int l2)] []
  unfold sX13_ofVenue at h
  refine J_al4 hx rfl rfl dX13_ofVenue_0 ?_
  refine g13_0 hx hW 372 (rfl : kd 371 = 19) fl_X13_7 rfl dX13_ofVenue_1 ?_
  refine J_bipush hx (9 : Int32) dX13_ofVenue_4 rfl ?_
  refine J_bipush hx (13 : Int32) dX13_ofVenue_6 rfl ?_
  refine J_il4 hx rfl rfl dX13_ofVenue_8 ?_
  refine J_imul hx dX13_ofVenue_9 ?_
  refine J_iadd hx dX13_ofVenue_10 ?_
  refine J_il4 hx rfl rfl dX13_ofVenue_11 ?_
  refine J_iadd hx dX13_ofVenue_12 ?_
  obtain ⟨c1, hc2, h⟩ := bnd h
  refine J_iaW hx hW (rfl : kd 372 = 641) hc2 dX13_ofVenue_13 ?_
  exact J_iretR hx hr dX13_ofVenue_14 (Nat.le_refl 0) (Nat.le_refl 0) (Option.some.inj h)
theorem dX13_of_0 : decode cX13_of 0 = .ok (.aload_n 0, 1) := by decide +kernel
theorem dX13_of_1 : decode cX13_of 1 = .ok (.getfield 7, 3) := by decide +kernel
theorem dX13_of_4 : decode cX13_of 4 = .ok (.sipush 145, 3) := by decide +kernel
theorem dX13_of_7 : decode cX13_of 7 = .ok (.bipush 9, 2) := by decide +kernel
theorem dX13_of_9 : decode cX13_of 9 = .ok (.iload_n 1, 1) := by decide +kernel
theorem dX13_of_10 : decode cX13_of 10 = .ok (.imul, 1) := by decide +kernel
theorem dX13_of_11 : decode cX13_of 11 = .ok (.iadd, 1) := by decide +kernel
theorem dX13_of_12 : decode cX13_of 12 = .ok (.iload_n 2, 1) := by decide +kernel
theorem dX13_of_13 : decode cX13_of 13 = .ok (.iadd, 1) := by decide +kernel
theorem dX13_of_14 : decode cX13_of 14 = .ok (.iaload, 1) := by decide +kernel
theorem dX13_of_15 : decode cX13_of 15 = .ok (.ireturn, 1) := by decide +kernel
def sX13_of (w : Wl) (l1 : Int32) (l2 : Int32) : Option Int32 := (idx (((145 : Int32) + ((9 : Int32) * l1)) + l2) 541).bind (fun c1 => some (w 372 c1))
theorem kX13_of {l : Launch} {Γ : Gl} {B : Bs} {w : Wl} {G : Gf} {sz : Nat} {l1 : Int32} {l2 : Int32} {r : Int32} (hW : Wd Γ B w G) (h : sX13_of w l1 l2 = some r) : CtR l Γ yX13_of cX13_of 3 (some .int) 0 [.ref (B.1 + 371), .int l1, .int l2] G sz (.int (r)) := by
  refine Ct.of rfl (Nat.le_of_ble_eq_true rfl) fun X hx hr hl hΓ hnm => ?_
  subst hl hΓ
  show J X 3 G sz 0 0 0 [some (.ref (B.1 + 371)), some (.int l1), some (.int l2)] []
  unfold sX13_of at h
  refine J_al4 hx rfl rfl dX13_of_0 ?_
  refine g13_0 hx hW 372 (rfl : kd 371 = 19) fl_X13_7 rfl dX13_of_1 ?_
  refine J_sipush hx (145 : Int32) dX13_of_4 rfl ?_
  refine J_bipush hx (9 : Int32) dX13_of_7 rfl ?_
  refine J_il4 hx rfl rfl dX13_of_9 ?_
  refine J_imul hx dX13_of_10 ?_
  refine J_iadd hx dX13_of_11 ?_
  refine J_il4 hx rfl rfl dX13_of_12 ?_
  refine J_iadd hx dX13_of_13 ?_
  obtain ⟨c1, hc2, h⟩ := bnd h
  refine J_iaW hx hW (rfl : kd 372 = 641) hc2 dX13_of_14 ?_
  exact J_iretR hx hr dX13_of_15 (Nat.le_refl 0) (Nat.le_refl 0) (Option.some.inj h)
theorem dX13_put_0 : decode cX13_put 0 = .ok (.aload_n 0, 1) := by decide +kernel
theorem dX13_put_1 : decode cX13_put 1 = .ok (.getfield 7, 3) := by decide +kernel
theorem dX13_put_4 : decode cX13_put 4 = .ok (.sipush 145, 3) := by decide +kernel
theorem dX13_put_7 : decode cX13_put 7 = .ok (.bipush 9, 2) := by decide +kernel
theorem dX13_put_9 : decode cX13_put 9 = .ok (.iload_n 1, 1) := by decide +kernel
theorem dX13_put_10 : decode cX13_put 10 = .ok (.imul, 1) := by decide +kernel
theorem dX13_put_11 : decode cX13_put 11 = .ok (.iadd, 1) := by decide +kernel
theorem dX13_put_12 : decode cX13_put 12 = .ok (.iload_n 2, 1) := by decide +kernel
theorem dX13_put_13 : decode cX13_put 13 = .ok (.iadd, 1) := by decide +kernel
theorem dX13_put_14 : decode cX13_put 14 = .ok (.iload_n 3, 1) := by decide +kernel
theorem dX13_put_15 : decode cX13_put 15 = .ok (.iastore, 1) := by decide +kernel
theorem dX13_put_16 : decode cX13_put 16 = .ok (.return_, 1) := by decide +kernel
def sX13_put (w : Wl) (l1 : Int32) (l2 : Int32) (l3 : Int32) : Option Wl := (idx (((145 : Int32) + ((9 : Int32) * l1)) + l2) 541).bind (fun c1 => some (wst w 372 c1 l3))
theorem kX13_put {l : Launch} {Γ : Gl} {B : Bs} {w : Wl} {G : Gf} {sz : Nat} {l1 : Int32} {l2 : Int32} {l3 : Int32} {r : Wl} (hW : Wd Γ B w G) (h : sX13_put w l1 l2 l3 = some r) : CtW l Γ yX13_put cX13_put 4 none 0 [.ref (B.1 + 371), .int l1, .int l2, .int l3] G sz B none r := by
  refine Ct.of rfl (Nat.le_of_ble_eq_true rfl) fun X hx hr hl hΓ hnm => ?_
  subst hl hΓ
  show J X 4 G sz 0 0 0 [some (.ref (B.1 + 371)), some (.int l1), some (.int l2), some (.int l3)] []
  unfold sX13_put at h
  refine J_al4 hx rfl rfl dX13_put_0 ?_
  refine g13_0 hx hW 372 (rfl : kd 371 = 19) fl_X13_7 rfl dX13_put_1 ?_
  refine J_sipush hx (145 : Int32) dX13_put_4 rfl ?_
  refine J_bipush hx (9 : Int32) dX13_put_7 rfl ?_
  refine J_il4 hx rfl rfl dX13_put_9 ?_
  refine J_imul hx dX13_put_10 ?_
  refine J_iadd hx dX13_put_11 ?_
  refine J_il4 hx rfl rfl dX13_put_12 ?_
  refine J_iadd hx dX13_put_13 ?_
  refine J_il4 hx rfl rfl dX13_put_14 ?_
  obtain ⟨c1, hc2, h⟩ := bnd h
  refine J_iaS hx hW (rfl : kd 372 = 641) hc2 dX13_put_15 fun G3 hW4 => ?_
  obtain rfl := Option.some.inj h
  exact J_vretW hx hr hW4 dX13_put_16 (Nat.le_refl 0) (Nat.le_refl 0)
theorem dX13_ofWork_0 : decode cX13_ofWork 0 = .ok (.aload_n 0, 1) := by decide +kernel
theorem dX13_ofWork_1 : decode cX13_ofWork 1 = .ok (.getfield 7, 3) := by decide +kernel
theorem dX13_ofWork_4 : decode cX13_ofWork 4 = .ok (.sipush 253, 3) := by decide +kernel
theorem dX13_ofWork_7 : decode cX13_ofWork 7 = .ok (.bipush 18, 2) := by decide +kernel
theorem dX13_ofWork_9 : decode cX13_ofWork 9 = .ok (.iload_n 1, 1) := by decide +kernel
theorem dX13_ofWork_10 : decode cX13_ofWork 10 = .ok (.imul, 1) := by decide +kernel
theorem dX13_ofWork_11 : decode cX13_ofWork 11 = .ok (.iadd, 1) := by decide +kernel
theorem dX13_ofWork_12 : decode cX13_ofWork 12 = .ok (.iload_n 2, 1) := by decide +kernel
theorem dX13_ofWork_13 : decode cX13_ofWork 13 = .ok (.iadd, 1) := by decide +kernel
theorem dX13_ofWork_14 : decode cX13_ofWork 14 = .ok (.iaload, 1) := by decide +kernel
theorem dX13_ofWork_15 : decode cX13_ofWork 15 = .ok (.ireturn, 1) := by decide +kernel
def sX13_ofWork (w : Wl) (l1 : Int32) (l2 : Int32) : Option Int32 := (idx (((253 : Int32) + ((18 : Int32) * l1)) + l2) 541).bind (fun c1 => some (w 372 c1))
theorem kX13_ofWork {l : Launch} {Γ : Gl} {B : Bs} {w : Wl} {G : Gf} {sz : Nat} {l1 : Int32} {l2 : Int32} {r : Int32} (hW : Wd Γ B w G) (h : sX13_ofWork w l1 l2 = some r) : CtR l Γ yX13_ofWork cX13_ofWork 3 (some .int) 0 [.ref (B.1 + 371), .int l1, .int l2] G sz (.int (r)) := by
  refine Ct.of rfl (Nat.le_of_ble_eq_true rfl) fun X hx hr hl hΓ hnm => ?_
  subst hl hΓ
  show J X 3 G sz 0 0 0 [some (.ref (B.1 + 371)), some (.int l1), some (.int l2)] []
  unfold sX13_ofWork at h
  refine J_al4 hx rfl rfl dX13_ofWork_0 ?_
  refine g13_0 hx hW 372 (rfl : kd 371 = 19) fl_X13_7 rfl dX13_ofWork_1 ?_
  refine J_sipush hx (253 : Int32) dX13_ofWork_4 rfl ?_
  refine J_bipush hx (18 : Int32) dX13_ofWork_7 rfl ?_
  refine J_il4 hx rfl rfl dX13_ofWork_9 ?_
  refine J_imul hx dX13_ofWork_10 ?_
  refine J_iadd hx dX13_ofWork_11 ?_
  refine J_il4 hx rfl rfl dX13_ofWork_12 ?_
  refine J_iadd hx dX13_ofWork_13 ?_
  obtain ⟨c1, hc2, h⟩ := bnd h
  refine J_iaW hx hW (rfl : kd 372 = 641) hc2 dX13_ofWork_14 ?_
  exact J_iretR hx hr dX13_ofWork_15 (Nat.le_refl 0) (Nat.le_refl 0) (Option.some.inj h)
theorem dX13_putWork_0 : decode cX13_putWork 0 = .ok (.aload_n 0, 1) := by decide +kernel
theorem dX13_putWork_1 : decode cX13_putWork 1 = .ok (.getfield 7, 3) := by decide +kernel
theorem dX13_putWork_4 : decode cX13_putWork 4 = .ok (.sipush 253, 3) := by decide +kernel
theorem dX13_putWork_7 : decode cX13_putWork 7 = .ok (.bipush 18, 2) := by decide +kernel
theorem dX13_putWork_9 : decode cX13_putWork 9 = .ok (.iload_n 1, 1) := by decide +kernel
theorem dX13_putWork_10 : decode cX13_putWork 10 = .ok (.imul, 1) := by decide +kernel
theorem dX13_putWork_11 : decode cX13_putWork 11 = .ok (.iadd, 1) := by decide +kernel
theorem dX13_putWork_12 : decode cX13_putWork 12 = .ok (.iload_n 2, 1) := by decide +kernel
theorem dX13_putWork_13 : decode cX13_putWork 13 = .ok (.iadd, 1) := by decide +kernel
theorem dX13_putWork_14 : decode cX13_putWork 14 = .ok (.iload_n 3, 1) := by decide +kernel
theorem dX13_putWork_15 : decode cX13_putWork 15 = .ok (.iastore, 1) := by decide +kernel
theorem dX13_putWork_16 : decode cX13_putWork 16 = .ok (.return_, 1) := by decide +kernel
def sX13_putWork (w : Wl) (l1 : Int32) (l2 : Int32) (l3 : Int32) : Option Wl := (idx (((253 : Int32) + ((18 : Int32) * l1)) + l2) 541).bind (fun c1 => some (wst w 372 c1 l3))
theorem kX13_putWork {l : Launch} {Γ : Gl} {B : Bs} {w : Wl} {G : Gf} {sz : Nat} {l1 : Int32} {l2 : Int32} {l3 : Int32} {r : Wl} (hW : Wd Γ B w G) (h : sX13_putWork w l1 l2 l3 = some r) : CtW l Γ yX13_putWork cX13_putWork 4 none 0 [.ref (B.1 + 371), .int l1, .int l2, .int l3] G sz B none r := by
  refine Ct.of rfl (Nat.le_of_ble_eq_true rfl) fun X hx hr hl hΓ hnm => ?_
  subst hl hΓ
  show J X 4 G sz 0 0 0 [some (.ref (B.1 + 371)), some (.int l1), some (.int l2), some (.int l3)] []
  unfold sX13_putWork at h
  refine J_al4 hx rfl rfl dX13_putWork_0 ?_
  refine g13_0 hx hW 372 (rfl : kd 371 = 19) fl_X13_7 rfl dX13_putWork_1 ?_
  refine J_sipush hx (253 : Int32) dX13_putWork_4 rfl ?_
  refine J_bipush hx (18 : Int32) dX13_putWork_7 rfl ?_
  refine J_il4 hx rfl rfl dX13_putWork_9 ?_
  refine J_imul hx dX13_putWork_10 ?_
  refine J_iadd hx dX13_putWork_11 ?_
  refine J_il4 hx rfl rfl dX13_putWork_12 ?_
  refine J_iadd hx dX13_putWork_13 ?_
  refine J_il4 hx rfl rfl dX13_putWork_14 ?_
  obtain ⟨c1, hc2, h⟩ := bnd h
  refine J_iaS hx hW (rfl : kd 372 = 641) hc2 dX13_putWork_15 fun G3 hW4 => ?_
  obtain rfl := Option.some.inj h
  exact J_vretW hx hr hW4 dX13_putWork_16 (Nat.le_refl 0) (Nat.le_refl 0)
theorem dX13_isOpen_0 : decode cX13_isOpen 0 = .ok (.aload_n 0, 1) := by decide +kernel
theorem dX13_isOpen_1 : decode cX13_isOpen 1 = .ok (.iload_n 1, 1) := by decide +kernel
theorem dX13_isOpen_2 : decode cX13_isOpen 2 = .ok (.iconst 1, 1) := by decide +kernel
theorem dX13_isOpen_3 : decode cX13_isOpen 3 = .ok (.invokevirtual 36, 3) := by decide +kernel
theorem dX13_isOpen_6 : decode cX13_isOpen 6 = .ok (.iconst 1, 1) := by decide +kernel
theorem dX13_isOpen_7 : decode cX13_isOpen 7 = .ok (.if_icmp .ne 7, 3) := by decide +kernel
theorem dX13_isOpen_10 : decode cX13_isOpen 10 = .ok (.iconst 1, 1) := by decide +kernel
theorem dX13_isOpen_11 : decode cX13_isOpen 11 = .ok (.goto 4, 3) := by decide +kernel
theorem dX13_isOpen_14 : decode cX13_isOpen 14 = .ok (.iconst 0, 1) := by decide +kernel
theorem dX13_isOpen_15 : decode cX13_isOpen 15 = .ok (.ireturn, 1) := by decide +kernel
def sX13_isOpen (w : Wl) (l1 : Int32) : Option Bool := (sX13_of w l1 (1 : Int32)).bind (fun r1 => (if r1 = (1 : Int32) then some true else some false))
theorem kX13_isOpen {l : Launch} {Γ : Gl} {B : Bs} {w : Wl} {G : Gf} {sz : Nat} {l1 : Int32} {r : Bool} (hW : Wd Γ B w G) (h : sX13_isOpen w l1 = some r) : CtR l Γ yX13_isOpen cX13_isOpen 2 (some .boolean) 1 [.ref (B.1 + 371), .int l1] G sz (.int (bI r)) := by
  refine Ct.of rfl (Nat.le_of_ble_eq_true rfl) fun X hx hr hl hΓ hnm => ?_
  subst hl hΓ
  show J X 2 G sz 0 0 0 [some (.ref (B.1 + 371)), some (.int l1)] []
  unfold sX13_isOpen at h
  refine J_al4 hx rfl rfl dX13_isOpen_0 ?_
  refine J_il4 hx rfl rfl dX13_isOpen_1 ?_
  refine J_iconst hx (1 : Int32) dX13_isOpen_2 rfl ?_
  obtain ⟨r1, hr2, h⟩ := bnd h
  refine J_rdV hx (kX13_of  hW hr2) ml_X13_36 lk_X13_of (ci := 11) rfl (hW.obj (rfl : kd 371 = 19) (by decide) (by decide)) (rest := []) rfl rfl (by decide) (by decide) (Nat.le_of_ble_eq_true rfl) (Nat.le_refl 0) (Nat.le_refl 0) dX13_isOpen_3 ?_
  refine J_iconst hx (1 : Int32) dX13_isOpen_6 rfl ?_
  refine J_icmp_ne hx 14 dX13_isOpen_7 rfl (fun h3 => ?_) (fun h3 => ?_)
  · replace h := neg h h3
    refine J_iconst hx (0 : Int32) dX13_isOpen_14 rfl ?_
    exact J_zretR hx hr dX13_isOpen_15 (Nat.le_refl 0) (Nat.le_refl 0) (show (0 : Int32) = bI _ from congrArg bI (Option.some.inj h))
  · replace h := pos h h3
    refine J_iconst hx (1 : Int32) dX13_isOpen_10 rfl ?_
    refine J_goto hx 15 dX13_isOpen_11 rfl ?_
    exact J_zretR hx hr dX13_isOpen_15 (Nat.le_refl 0) (Nat.le_refl 0) (show (1 : Int32) = bI _ from congrArg bI (Option.some.inj h))
theorem dX13_outermost_0 : decode cX13_outermost 0 = .ok (.iload_n 1, 1) := by decide +kernel
theorem dX13_outermost_1 : decode cX13_outermost 1 = .ok (.istore_n 2, 1) := by decide +kernel
theorem dX13_outermost_2 : decode cX13_outermost 2 = .ok (.aload_n 0, 1) := by decide +kernel
theorem dX13_outermost_3 : decode cX13_outermost 3 = .ok (.iload_n 2, 1) := by decide +kernel
theorem dX13_outermost_4 : decode cX13_outermost 4 = .ok (.iconst 2, 1) := by decide +kernel
theorem dX13_outermost_5 : decode cX13_outermost 5 = .ok (.invokevirtual 36, 3) := by decide +kernel
theorem dX13_outermost_8 : decode cX13_outermost 8 = .ok (.iconst (-1), 1) := by decide +kernel
theorem dX13_outermost_9 : decode cX13_outermost 9 = .ok (.if_icmp .eq 13, 3) := by decide +kernel
theorem dX13_outermost_12 : decode cX13_outermost 12 = .ok (.aload_n 0, 1) := by decide +kernel
theorem dX13_outermost_13 : decode cX13_outermost 13 = .ok (.iload_n 2, 1) := by decide +kernel
theorem dX13_outermost_14 : decode cX13_outermost 14 = .ok (.iconst 2, 1) := by decide +kernel
theorem dX13_outermost_15 : decode cX13_outermost 15 = .ok (.invokevirtual 36, 3) := by decide +kernel
theorem dX13_outermost_18 : decode cX13_outermost 18 = .ok (.istore_n 2, 1) := by decide +kernel
theorem dX13_outermost_19 : decode cX13_outermost 19 = .ok (.goto (-17), 3) := by decide +kernel
theorem dX13_outermost_22 : decode cX13_outermost 22 = .ok (.iload_n 2, 1) := by decide +kernel
theorem dX13_outermost_23 : decode cX13_outermost 23 = .ok (.ireturn, 1) := by decide +kernel
def sX13_outermost_2 : Nat → Wl → Int32 → Option Int32
  | 0, _, _ => none
  | n + 1, w, l2 => (sX13_of w l2 (2 : Int32)).bind (fun r1 => (if r1 = (-1 : Int32) then some l2 else sX13_outermost_2 n w r1))
theorem tX13_outermost_2 {X : Cx} {B : Bs} {sz : Nat} {G : Gf} {r : Int32} (hx : Fx X cX13_outermost 3 RX13 1 0 0) (hr : Rt X (some .int) 0 0 (RdΨ (.int (r)) G sz)) : ∀ (n : Nat), ∀ (w : Wl) (l2 : Int32) (hW : Wd (xΓ X) B w G) (h : sX13_outermost_2 n w l2 = some r), J X 3 G sz 0 0 2 [some (.ref (B.1 + 371)), none, some (.int l2)] [] := by
  intro n
  induction n with
  | zero => intro w l2 hW h; rw [sX13_outermost_2.eq_1] at h; cases h
  | succ n ih =>
    intro w l2 hW h
    rw [sX13_outermost_2.eq_2] at h
    refine J_al4 hx rfl rfl dX13_outermost_2 ?_
    refine J_il4 hx rfl rfl dX13_outermost_3 ?_
    refine J_iconst hx (2 : Int32) dX13_outermost_4 rfl ?_
    obtain ⟨r1, hr2, h⟩ := bnd h
    refine J_rdV hx (kX13_of  hW hr2) ml_X13_36 lk_X13_of (ci := 11) rfl (hW.obj (rfl : kd 371 = 19) (by decide) (by decide)) (rest := []) rfl rfl (by decide) (by decide) (Nat.le_of_ble_eq_true rfl) (Nat.le_refl 0) (Nat.le_refl 0) dX13_outermost_5 ?_
    refine J_iconst hx (-1 : Int32) dX13_outermost_8 rfl ?_
    refine J_icmp_eq hx 22 dX13_outermost_9 rfl (fun h3 => ?_) (fun h3 => ?_)
    · replace h := pos h h3
      refine J_il4 hx rfl rfl dX13_outermost_22 ?_
      exact J_iretR hx hr dX13_outermost_23 (Nat.le_refl 0) (Nat.le_refl 0) (Option.some.inj h)
    · replace h := neg h h3
      refine J_al4 hx rfl rfl dX13_outermost_12 ?_
      refine J_il4 hx rfl rfl dX13_outermost_13 ?_
      refine J_iconst hx (2 : Int32) dX13_outermost_14 rfl ?_
      refine J_rdV hx (kX13_of  hW hr2) ml_X13_36 lk_X13_of (ci := 11) rfl (hW.obj (rfl : kd 371 = 19) (by decide) (by decide)) (rest := []) rfl rfl (by decide) (by decide) (Nat.le_of_ble_eq_true rfl) (Nat.le_refl 0) (Nat.le_refl 0) dX13_outermost_15 ?_
      refine J_is4 hx rfl (by decide) (hc_of rfl) rfl dX13_outermost_18 ?_
      refine J_goto hx 2 dX13_outermost_19 rfl ?_
      exact ih _ _  hW h
def sX13_outermost (w : Wl) (l1 : Int32) : Option Int32 := sX13_outermost_2 FU w l1
theorem kX13_outermost {l : Launch} {Γ : Gl} {B : Bs} {w : Wl} {G : Gf} {sz : Nat} {l1 : Int32} {r : Int32} (hW : Wd Γ B w G) (h : sX13_outermost w l1 = some r) : CtR l Γ yX13_outermost cX13_outermost 3 (some .int) 1 [.ref (B.1 + 371), .int l1] G sz (.int (r)) := by
  refine Ct.of rfl (Nat.le_of_ble_eq_true rfl) fun X hx hr hl hΓ hnm => ?_
  subst hl hΓ
  show J X 3 G sz 0 0 0 [some (.ref (B.1 + 371)), some (.int l1), none] []
  unfold sX13_outermost at h
  refine J_il4 hx rfl rfl dX13_outermost_0 ?_
  refine J_is4 hx rfl (by decide) (hc_of rfl) rfl dX13_outermost_1 ?_
  refine J_lw (ls' := [some (.ref (B.1 + 371)), none, some (.int l1)]) (lwS (lwN (lwS lwZ))) ?_
  exact tX13_outermost_2 hx hr _ _ _  hW h
theorem dX13_venueOf_0 : decode cX13_venueOf 0 = .ok (.aload_n 0, 1) := by decide +kernel
theorem dX13_venueOf_1 : decode cX13_venueOf 1 = .ok (.aload_n 0, 1) := by decide +kernel
theorem dX13_venueOf_2 : decode cX13_venueOf 2 = .ok (.iload_n 1, 1) := by decide +kernel
theorem dX13_venueOf_3 : decode cX13_venueOf 3 = .ok (.invokevirtual 40, 3) := by decide +kernel
theorem dX13_venueOf_6 : decode cX13_venueOf 6 = .ok (.iconst 3, 1) := by decide +kernel
theorem dX13_venueOf_7 : decode cX13_venueOf 7 = .ok (.invokevirtual 36, 3) := by decide +kernel
theorem dX13_venueOf_10 : decode cX13_venueOf 10 = .ok (.ireturn, 1) := by decide +kernel
def sX13_venueOf (w : Wl) (l1 : Int32) : Option Int32 := (sX13_outermost w l1).bind (fun r1 => (sX13_of w r1 (3 : Int32)).bind (fun r3 => some r3))
theorem kX13_venueOf {l : Launch} {Γ : Gl} {B : Bs} {w : Wl} {G : Gf} {sz : Nat} {l1 : Int32} {r : Int32} (hW : Wd Γ B w G) (h : sX13_venueOf w l1 = some r) : CtR l Γ yX13_venueOf cX13_venueOf 2 (some .int) 2 [.ref (B.1 + 371), .int l1] G sz (.int (r)) := by
  refine Ct.of rfl (Nat.le_of_ble_eq_true rfl) fun X hx hr hl hΓ hnm => ?_
  subst hl hΓ
  show J X 2 G sz 0 0 0 [some (.ref (B.1 + 371)), some (.int l1)] []
  unfold sX13_venueOf at h
  refine J_al4 hx rfl rfl dX13_venueOf_0 ?_
  refine J_al4 hx rfl rfl dX13_venueOf_1 ?_
  refine J_il4 hx rfl rfl dX13_venueOf_2 ?_
  obtain ⟨r1, hr2, h⟩ := bnd h
  refine J_rdV hx (kX13_outermost  hW hr2) ml_X13_40 lk_X13_outermost (ci := 11) rfl (hW.obj (rfl : kd 371 = 19) (by decide) (by decide)) (rest := [.ref (B.1 + 371)]) rfl rfl (by decide) (by decide) (Nat.le_of_ble_eq_true rfl) (Nat.le_refl 0) (Nat.le_refl 0) dX13_venueOf_3 ?_
  refine J_iconst hx (3 : Int32) dX13_venueOf_6 rfl ?_
  obtain ⟨r3, hr4, h⟩ := bnd h
  refine J_rdV hx (kX13_of  hW hr4) ml_X13_36 lk_X13_of (ci := 11) rfl (hW.obj (rfl : kd 371 = 19) (by decide) (by decide)) (rest := []) rfl rfl (by decide) (by decide) (Nat.le_of_ble_eq_true rfl) (Nat.le_refl 0) (Nat.le_refl 0) dX13_venueOf_7 ?_
  exact J_iretR hx hr dX13_venueOf_10 (Nat.le_refl 0) (Nat.le_refl 0) (Option.some.inj h)
theorem dX13_isReached_0 : decode cX13_isReached 0 = .ok (.aload_n 0, 1) := by decide +kernel
theorem dX13_isReached_1 : decode cX13_isReached 1 = .ok (.iload_n 1, 1) := by decide +kernel
theorem dX13_isReached_2 : decode cX13_isReached 2 = .ok (.invokevirtual 44, 3) := by decide +kernel
theorem dX13_isReached_5 : decode cX13_isReached 5 = .ok (.iconst (-1), 1) := by decide +kernel
theorem dX13_isReached_6 : decode cX13_isReached 6 = .ok (.if_icmp .eq 7, 3) := by decide +kernel
theorem dX13_isReached_9 : decode cX13_isReached 9 = .ok (.iconst 1, 1) := by decide +kernel
theorem dX13_isReached_10 : decode cX13_isReached 10 = .ok (.goto 4, 3) := by decide +kernel
theorem dX13_isReached_13 : decode cX13_isReached 13 = .ok (.iconst 0, 1) := by decide +kernel
theorem dX13_isReached_14 : decode cX13_isReached 14 = .ok (.istore_n 2, 1) := by decide +kernel
theorem dX13_isReached_15 : decode cX13_isReached 15 = .ok (.aload_n 0, 1) := by decide +kernel
theorem dX13_isReached_16 : decode cX13_isReached 16 = .ok (.iload_n 1, 1) := by decide +kernel
theorem dX13_isReached_17 : decode cX13_isReached 17 = .ok (.iconst 2, 1) := by decide +kernel
theorem dX13_isReached_18 : decode cX13_isReached 18 = .ok (.invokevirtual 36, 3) := by decide +kernel
theorem dX13_isReached_21 : decode cX13_isReached 21 = .ok (.istore_n 3, 1) := by decide +kernel
theorem dX13_isReached_22 : decode cX13_isReached 22 = .ok (.iload_n 3, 1) := by decide +kernel
theorem dX13_isReached_23 : decode cX13_isReached 23 = .ok (.iconst (-1), 1) := by decide +kernel
theorem dX13_isReached_24 : decode cX13_isReached 24 = .ok (.if_icmp .eq 31, 3) := by decide +kernel
theorem dX13_isReached_27 : decode cX13_isReached 27 = .ok (.iload_n 2, 1) := by decide +kernel
theorem dX13_isReached_28 : decode cX13_isReached 28 = .ok (.ifCond .eq 15, 3) := by decide +kernel
theorem dX13_isReached_31 : decode cX13_isReached 31 = .ok (.aload_n 0, 1) := by decide +kernel
theorem dX13_isReached_32 : decode cX13_isReached 32 = .ok (.iload_n 3, 1) := by decide +kernel
theorem dX13_isReached_33 : decode cX13_isReached 33 = .ok (.invokevirtual 47, 3) := by decide +kernel
theorem dX13_isReached_36 : decode cX13_isReached 36 = .ok (.ifCond .eq 7, 3) := by decide +kernel
theorem dX13_isReached_39 : decode cX13_isReached 39 = .ok (.iconst 1, 1) := by decide +kernel
theorem dX13_isReached_40 : decode cX13_isReached 40 = .ok (.goto 4, 3) := by decide +kernel
theorem dX13_isReached_43 : decode cX13_isReached 43 = .ok (.iconst 0, 1) := by decide +kernel
theorem dX13_isReached_44 : decode cX13_isReached 44 = .ok (.istore_n 2, 1) := by decide +kernel
theorem dX13_isReached_45 : decode cX13_isReached 45 = .ok (.aload_n 0, 1) := by decide +kernel
theorem dX13_isReached_46 : decode cX13_isReached 46 = .ok (.iload_n 3, 1) := by decide +kernel
theorem dX13_isReached_47 : decode cX13_isReached 47 = .ok (.iconst 2, 1) := by decide +kernel
theorem dX13_isReached_48 : decode cX13_isReached 48 = .ok (.invokevirtual 36, 3) := by decide +kernel
theorem dX13_isReached_51 : decode cX13_isReached 51 = .ok (.istore_n 3, 1) := by decide +kernel
theorem dX13_isReached_52 : decode cX13_isReached 52 = .ok (.goto (-30), 3) := by decide +kernel
theorem dX13_isReached_55 : decode cX13_isReached 55 = .ok (.iload_n 2, 1) := by decide +kernel
theorem dX13_isReached_56 : decode cX13_isReached 56 = .ok (.ireturn, 1) := by decide +kernel
def sX13_isReached_44 (k22 : Wl → Int32 → Int32 → Option Bool) (w : Wl) (l3 : Int32) (s0 : Int32) : Option Bool := (sX13_of w l3 (2 : Int32)).bind (fun r1 => k22 w s0 r1)
theorem tX13_isReached_44 {X : Cx} {B : Bs} {sz : Nat} {G : Gf} {r : Bool} (hx : Fx X cX13_isReached 4 RX13 3 0 0) (hr : Rt X (some .boolean) 0 0 (RdΨ (.int (bI r)) G sz)) (k22 : Wl → Int32 → Int32 → Option Bool) (hk22 : ∀ (w : Wl) (l2 : Int32) (l3 : Int32) (hW : Wd (xΓ X) B w G) (h : k22 w l2 l3 = some r), J X 4 G sz 0 0 22 [some (.ref (B.1 + 371)), none, some (.int l2), some (.int l3)] []) : ∀ (w : Wl) (l3 : Int32) (s0 : Int32) (hW : Wd (xΓ X) B w G) (h : sX13_isReached_44 k22  w l3 s0 = some r), J X 4 G sz 0 0 44 [some (.ref (B.1 + 371)), none, none, some (.int l3)] [.int s0] := by
  intro w l3 s0 hW h
  unfold sX13_isReached_44 at h
  refine J_is4 hx rfl (by decide) (hc_of rfl) rfl dX13_isReached_44 ?_
  refine J_al4 hx rfl rfl dX13_isReached_45 ?_
  refine J_il4 hx rfl rfl dX13_isReached_46 ?_
  refine J_iconst hx (2 : Int32) dX13_isReached_47 rfl ?_
  obtain ⟨r1, hr2, h⟩ := bnd h
  refine J_rdV hx (kX13_of  hW hr2) ml_X13_36 lk_X13_of (ci := 11) rfl (hW.obj (rfl : kd 371 = 19) (by decide) (by decide)) (rest := []) rfl rfl (by decide) (by decide) (Nat.le_of_ble_eq_true rfl) (Nat.le_refl 0) (Nat.le_refl 0) dX13_isReached_48 ?_
  refine J_is4 hx rfl (by decide) (hc_of rfl) rfl dX13_isReached_51 ?_
  refine J_goto hx 22 dX13_isReached_52 rfl ?_
  exact hk22 _ _ _  hW h
def sX13_isReached_22 : Nat → Wl → Int32 → Int32 → Option Bool
  | 0, _, _, _ => none
  | n + 1, w, l2, l3 => (if l3 = (-1 : Int32) then (if l2 = 0 then some false else (if l2 = 1 then some true else none)) else (if l2 = 0 then sX13_isReached_44 (fun w l2 l3 => sX13_isReached_22 n w l2 l3) w l3 (0 : Int32) else (sX13_isOpen w l3).bind (fun r5 => (if r5 = true then sX13_isReached_44 (fun w l2 l3 => sX13_isReached_22 n w l2 l3) w l3 (1 : Int32) else sX13_isReached_44 (fun w l2 l3 => sX13_isReached_22 n w l2 l3) w l3 (0 : Int32)))))
theorem tX13_isReached_22 {X : Cx} {B : Bs} {sz : Nat} {G : Gf} {r : Bool} (hx : Fx X cX13_isReached 4 RX13 3 0 0) (hr : Rt X (some .boolean) 0 0 (RdΨ (.int (bI r)) G sz)) : ∀ (n : Nat), ∀ (w : Wl) (l2 : Int32) (l3 : Int32) (hW : Wd (xΓ X) B w G) (h : sX13_isReached_22 n w l2 l3 = some r), J X 4 G sz 0 0 22 [some (.ref (B.1 + 371)), none, some (.int l2), some (.int l3)] [] := by
  intro n
  induction n with
  | zero => intro w l2 l3 hW h; rw [sX13_isReached_22.eq_1] at h; cases h
  | succ n ih =>
    intro w l2 l3 hW h
    rw [sX13_isReached_22.eq_2] at h
    refine J_il4 hx rfl rfl dX13_isReached_22 ?_
    refine J_iconst hx (-1 : Int32) dX13_isReached_23 rfl ?_
    refine J_icmp_eq hx 55 dX13_isReached_24 rfl (fun h1 => ?_) (fun h1 => ?_)
    · replace h := pos h h1
      refine J_il4 hx rfl rfl dX13_isReached_55 ?_
      by_cases h2 : l2 = 0
      · replace h := pos h h2
        refine J_val (w := bI false) h2 ?_
        exact J_zretR hx hr dX13_isReached_56 (Nat.le_refl 0) (Nat.le_refl 0) (show (bI false) = bI _ from congrArg bI (Option.some.inj h))
      replace h := neg h h2
      obtain ⟨h3, h⟩ := grd h
      refine J_val (w := bI true) h3 ?_
      exact J_zretR hx hr dX13_isReached_56 (Nat.le_refl 0) (Nat.le_refl 0) (show (bI true) = bI _ from congrArg bI (Option.some.inj h))
    · replace h := neg h h1
      refine J_il4 hx rfl rfl dX13_isReached_27 ?_
      refine J_if_eq hx 43 dX13_isReached_28 rfl (fun h4 => ?_) (fun h4 => ?_)
      · replace h := pos h h4
        refine J_iconst hx (0 : Int32) dX13_isReached_43 rfl ?_
        refine J_lw (ls' := [some (.ref (B.1 + 371)), none, none, some (.int l3)]) (lwS (lwN (lwN (lwS lwZ)))) ?_
        exact tX13_isReached_44 hx hr _ ih _ _ _  hW h
      · replace h := neg h h4
        refine J_al4 hx rfl rfl dX13_isReached_31 ?_
        refine J_il4 hx rfl rfl dX13_isReached_32 ?_
        obtain ⟨r5, hr6, h⟩ := bnd h
        refine J_rdV hx (kX13_isOpen  hW hr6) ml_X13_47 lk_X13_isOpen (ci := 11) rfl (hW.obj (rfl : kd 371 = 19) (by decide) (by decide)) (rest := []) rfl rfl (by decide) (by decide) (Nat.le_of_ble_eq_true rfl) (Nat.le_refl 0) (Nat.le_refl 0) dX13_isReached_33 ?_
        refine J_bif_eq hx 43 dX13_isReached_36 rfl (fun h7 => ?_) (fun h7 => ?_)
        · replace h := neg h (bft h7)
          refine J_iconst hx (0 : Int32) dX13_isReached_43 rfl ?_
          refine J_lw (ls' := [some (.ref (B.1 + 371)), none, none, some (.int l3)]) (lwS (lwN (lwN (lwS lwZ)))) ?_
          exact tX13_isReached_44 hx hr _ ih _ _ _  hW h
        · replace h := pos h h7
          refine J_iconst hx (1 : Int32) dX13_isReached_39 rfl ?_
          refine J_goto hx 44 dX13_isReached_40 rfl ?_
          refine J_lw (ls' := [some (.ref (B.1 + 371)), none, none, some (.int l3)]) (lwS (lwN (lwN (lwS lwZ)))) ?_
          exact tX13_isReached_44 hx hr _ ih _ _ _  hW h
def sX13_isReached_14 (w : Wl) (l1 : Int32) (s0 : Int32) : Option Bool := (sX13_of w l1 (2 : Int32)).bind (fun r1 => sX13_isReached_22 FU w s0 r1)
theorem tX13_isReached_14 {X : Cx} {B : Bs} {sz : Nat} {G : Gf} {r : Bool} (hx : Fx X cX13_isReached 4 RX13 3 0 0) (hr : Rt X (some .boolean) 0 0 (RdΨ (.int (bI r)) G sz)) : ∀ (w : Wl) (l1 : Int32) (s0 : Int32) (hW : Wd (xΓ X) B w G) (h : sX13_isReached_14  w l1 s0 = some r), J X 4 G sz 0 0 14 [some (.ref (B.1 + 371)), some (.int l1), none, none] [.int s0] := by
  intro w l1 s0 hW h
  unfold sX13_isReached_14 at h
  refine J_is4 hx rfl (by decide) (hc_of rfl) rfl dX13_isReached_14 ?_
  refine J_al4 hx rfl rfl dX13_isReached_15 ?_
  refine J_il4 hx rfl rfl dX13_isReached_16 ?_
  refine J_iconst hx (2 : Int32) dX13_isReached_17 rfl ?_
  obtain ⟨r1, hr2, h⟩ := bnd h
  refine J_rdV hx (kX13_of  hW hr2) ml_X13_36 lk_X13_of (ci := 11) rfl (hW.obj (rfl : kd 371 = 19) (by decide) (by decide)) (rest := []) rfl rfl (by decide) (by decide) (Nat.le_of_ble_eq_true rfl) (Nat.le_refl 0) (Nat.le_refl 0) dX13_isReached_18 ?_
  refine J_is4 hx rfl (by decide) (hc_of rfl) rfl dX13_isReached_21 ?_
  refine J_lw (ls' := [some (.ref (B.1 + 371)), none, some (.int s0), some (.int r1)]) (lwS (lwN (lwS (lwS lwZ)))) ?_
  exact tX13_isReached_22 hx hr _ _ _ _  hW h
def sX13_isReached (w : Wl) (l1 : Int32) : Option Bool := (sX13_venueOf w l1).bind (fun r1 => (if r1 = (-1 : Int32) then sX13_isReached_14 w l1 (0 : Int32) else sX13_isReached_14 w l1 (1 : Int32)))
theorem kX13_isReached {l : Launch} {Γ : Gl} {B : Bs} {w : Wl} {G : Gf} {sz : Nat} {l1 : Int32} {r : Bool} (hW : Wd Γ B w G) (h : sX13_isReached w l1 = some r) : CtR l Γ yX13_isReached cX13_isReached 4 (some .boolean) 3 [.ref (B.1 + 371), .int l1] G sz (.int (bI r)) := by
  refine Ct.of rfl (Nat.le_of_ble_eq_true rfl) fun X hx hr hl hΓ hnm => ?_
  subst hl hΓ
  show J X 4 G sz 0 0 0 [some (.ref (B.1 + 371)), some (.int l1), none, none] []
  unfold sX13_isReached at h
  refine J_al4 hx rfl rfl dX13_isReached_0 ?_
  refine J_il4 hx rfl rfl dX13_isReached_1 ?_
  obtain ⟨r1, hr2, h⟩ := bnd h
  refine J_rdV hx (kX13_venueOf  hW hr2) ml_X13_44 lk_X13_venueOf (ci := 11) rfl (hW.obj (rfl : kd 371 = 19) (by decide) (by decide)) (rest := []) rfl rfl (by decide) (by decide) (Nat.le_of_ble_eq_true rfl) (Nat.le_refl 0) (Nat.le_refl 0) dX13_isReached_2 ?_
  refine J_iconst hx (-1 : Int32) dX13_isReached_5 rfl ?_
  refine J_icmp_eq hx 13 dX13_isReached_6 rfl (fun h3 => ?_) (fun h3 => ?_)
  · replace h := pos h h3
    refine J_iconst hx (0 : Int32) dX13_isReached_13 rfl ?_
    exact tX13_isReached_14 hx hr _ _ _  hW h
  · replace h := neg h h3
    refine J_iconst hx (1 : Int32) dX13_isReached_9 rfl ?_
    refine J_goto hx 14 dX13_isReached_10 rfl ?_
    exact tX13_isReached_14 hx hr _ _ _  hW h
theorem dX13_isWithin_0 : decode cX13_isWithin 0 = .ok (.iload_n 1, 1) := by decide +kernel
theorem dX13_isWithin_1 : decode cX13_isWithin 1 = .ok (.istore_n 3, 1) := by decide +kernel
theorem dX13_isWithin_2 : decode cX13_isWithin 2 = .ok (.iload_n 3, 1) := by decide +kernel
theorem dX13_isWithin_3 : decode cX13_isWithin 3 = .ok (.iconst (-1), 1) := by decide +kernel
theorem dX13_isWithin_4 : decode cX13_isWithin 4 = .ok (.if_icmp .eq 18, 3) := by decide +kernel
theorem dX13_isWithin_7 : decode cX13_isWithin 7 = .ok (.iload_n 3, 1) := by decide +kernel
theorem dX13_isWithin_8 : decode cX13_isWithin 8 = .ok (.iload_n 2, 1) := by decide +kernel
theorem dX13_isWithin_9 : decode cX13_isWithin 9 = .ok (.if_icmp .eq 13, 3) := by decide +kernel
theorem dX13_isWithin_12 : decode cX13_isWithin 12 = .ok (.aload_n 0, 1) := by decide +kernel
theorem dX13_isWithin_13 : decode cX13_isWithin 13 = .ok (.iload_n 3, 1) := by decide +kernel
theorem dX13_isWithin_14 : decode cX13_isWithin 14 = .ok (.iconst 2, 1) := by decide +kernel
theorem dX13_isWithin_15 : decode cX13_isWithin 15 = .ok (.invokevirtual 36, 3) := by decide +kernel
theorem dX13_isWithin_18 : decode cX13_isWithin 18 = .ok (.istore_n 3, 1) := by decide +kernel
theorem dX13_isWithin_19 : decode cX13_isWithin 19 = .ok (.goto (-17), 3) := by decide +kernel
theorem dX13_isWithin_22 : decode cX13_isWithin 22 = .ok (.iload_n 3, 1) := by decide +kernel
theorem dX13_isWithin_23 : decode cX13_isWithin 23 = .ok (.iload_n 2, 1) := by decide +kernel
theorem dX13_isWithin_24 : decode cX13_isWithin 24 = .ok (.if_icmp .ne 7, 3) := by decide +kernel
theorem dX13_isWithin_27 : decode cX13_isWithin 27 = .ok (.iconst 1, 1) := by decide +kernel
theorem dX13_isWithin_28 : decode cX13_isWithin 28 = .ok (.goto 4, 3) := by decide +kernel
theorem dX13_isWithin_31 : decode cX13_isWithin 31 = .ok (.iconst 0, 1) := by decide +kernel
theorem dX13_isWithin_32 : decode cX13_isWithin 32 = .ok (.ireturn, 1) := by decide +kernel
def sX13_isWithin_22 (w : Wl) (l2 : Int32) (l3 : Int32) : Option Bool := (if l3 = l2 then some true else some false)
theorem tX13_isWithin_22 {X : Cx} {B : Bs} {sz : Nat} {G : Gf} {r : Bool} (hx : Fx X cX13_isWithin 4 RX13 1 0 0) (hr : Rt X (some .boolean) 0 0 (RdΨ (.int (bI r)) G sz)) : ∀ (w : Wl) (l2 : Int32) (l3 : Int32) (hW : Wd (xΓ X) B w G) (h : sX13_isWithin_22  w l2 l3 = some r), J X 4 G sz 0 0 22 [none, none, some (.int l2), some (.int l3)] [] := by
  intro w l2 l3 hW h
  unfold sX13_isWithin_22 at h
  refine J_il4 hx rfl rfl dX13_isWithin_22 ?_
  refine J_il4 hx rfl rfl dX13_isWithin_23 ?_
  refine J_icmp_ne hx 31 dX13_isWithin_24 rfl (fun h1 => ?_) (fun h1 => ?_)
  · replace h := neg h h1
    refine J_iconst hx (0 : Int32) dX13_isWithin_31 rfl ?_
    exact J_zretR hx hr dX13_isWithin_32 (Nat.le_refl 0) (Nat.le_refl 0) (show (0 : Int32) = bI _ from congrArg bI (Option.some.inj h))
  · replace h := pos h h1
    refine J_iconst hx (1 : Int32) dX13_isWithin_27 rfl ?_
    refine J_goto hx 32 dX13_isWithin_28 rfl ?_
    exact J_zretR hx hr dX13_isWithin_32 (Nat.le_refl 0) (Nat.le_refl 0) (show (1 : Int32) = bI _ from congrArg bI (Option.some.inj h))
def sX13_isWithin_2 : Nat → Wl → Int32 → Int32 → Option Bool
  | 0, _, _, _ => none
  | n + 1, w, l2, l3 => (if l3 = (-1 : Int32) then sX13_isWithin_22 w l2 l3 else (if l3 = l2 then sX13_isWithin_22 w l2 l3 else (sX13_of w l3 (2 : Int32)).bind (fun r3 => sX13_isWithin_2 n w l2 r3)))
theorem tX13_isWithin_2 {X : Cx} {B : Bs} {sz : Nat} {G : Gf} {r : Bool} (hx : Fx X cX13_isWithin 4 RX13 1 0 0) (hr : Rt X (some .boolean) 0 0 (RdΨ (.int (bI r)) G sz)) : ∀ (n : Nat), ∀ (w : Wl) (l2 : Int32) (l3 : Int32) (hW : Wd (xΓ X) B w G) (h : sX13_isWithin_2 n w l2 l3 = some r), J X 4 G sz 0 0 2 [some (.ref (B.1 + 371)), none, some (.int l2), some (.int l3)] [] := by
  intro n
  induction n with
  | zero => intro w l2 l3 hW h; rw [sX13_isWithin_2.eq_1] at h; cases h
  | succ n ih =>
    intro w l2 l3 hW h
    rw [sX13_isWithin_2.eq_2] at h
    refine J_il4 hx rfl rfl dX13_isWithin_2 ?_
    refine J_iconst hx (-1 : Int32) dX13_isWithin_3 rfl ?_
    refine J_icmp_eq hx 22 dX13_isWithin_4 rfl (fun h1 => ?_) (fun h1 => ?_)
    · replace h := pos h h1
      refine J_lw (ls' := [none, none, some (.int l2), some (.int l3)]) (lwN (lwN (lwS (lwS lwZ)))) ?_
      exact tX13_isWithin_22 hx hr _ _ _  hW h
    · replace h := neg h h1
      refine J_il4 hx rfl rfl dX13_isWithin_7 ?_
      refine J_il4 hx rfl rfl dX13_isWithin_8 ?_
      refine J_icmp_eq hx 22 dX13_isWithin_9 rfl (fun h2 => ?_) (fun h2 => ?_)
      · replace h := pos h h2
        refine J_lw (ls' := [none, none, some (.int l2), some (.int l3)]) (lwN (lwN (lwS (lwS lwZ)))) ?_
        exact tX13_isWithin_22 hx hr _ _ _  hW h
      · replace h := neg h h2
        refine J_al4 hx rfl rfl dX13_isWithin_12 ?_
        refine J_il4 hx rfl rfl dX13_isWithin_13 ?_
        refine J_iconst hx (2 : Int32) dX13_isWithin_14 rfl ?_
        obtain ⟨r3, hr4, h⟩ := bnd h
        refine J_rdV hx (kX13_of  hW hr4) ml_X13_36 lk_X13_of (ci := 11) rfl (hW.obj (rfl : kd 371 = 19) (by decide) (by decide)) (rest := []) rfl rfl (by decide) (by decide) (Nat.le_of_ble_eq_true rfl) (Nat.le_refl 0) (Nat.le_refl 0) dX13_isWithin_15 ?_
        refine J_is4 hx rfl (by decide) (hc_of rfl) rfl dX13_isWithin_18 ?_
        refine J_goto hx 2 dX13_isWithin_19 rfl ?_
        exact ih _ _ _  hW h
def sX13_isWithin (w : Wl) (l1 : Int32) (l2 : Int32) : Option Bool := sX13_isWithin_2 FU w l2 l1
theorem kX13_isWithin {l : Launch} {Γ : Gl} {B : Bs} {w : Wl} {G : Gf} {sz : Nat} {l1 : Int32} {l2 : Int32} {r : Bool} (hW : Wd Γ B w G) (h : sX13_isWithin w l1 l2 = some r) : CtR l Γ yX13_isWithin cX13_isWithin 4 (some .boolean) 1 [.ref (B.1 + 371), .int l1, .int l2] G sz (.int (bI r)) := by
  refine Ct.of rfl (Nat.le_of_ble_eq_true rfl) fun X hx hr hl hΓ hnm => ?_
  subst hl hΓ
  show J X 4 G sz 0 0 0 [some (.ref (B.1 + 371)), some (.int l1), some (.int l2), none] []
  unfold sX13_isWithin at h
  refine J_il4 hx rfl rfl dX13_isWithin_0 ?_
  refine J_is4 hx rfl (by decide) (hc_of rfl) rfl dX13_isWithin_1 ?_
  refine J_lw (ls' := [some (.ref (B.1 + 371)), none, some (.int l2), some (.int l1)]) (lwS (lwN (lwS (lwS lwZ)))) ?_
  exact tX13_isWithin_2 hx hr _ _ _ _  hW h
theorem dX13_standsIn_0 : decode cX13_standsIn 0 = .ok (.aload_n 0, 1) := by decide +kernel
theorem dX13_standsIn_1 : decode cX13_standsIn 1 = .ok (.iload_n 1, 1) := by decide +kernel
theorem dX13_standsIn_2 : decode cX13_standsIn 2 = .ok (.iconst 4, 1) := by decide +kernel
theorem dX13_standsIn_3 : decode cX13_standsIn 3 = .ok (.invokevirtual 51, 3) := by decide +kernel
theorem dX13_standsIn_6 : decode cX13_standsIn 6 = .ok (.iconst (-1), 1) := by decide +kernel
theorem dX13_standsIn_7 : decode cX13_standsIn 7 = .ok (.if_icmp .ne 12, 3) := by decide +kernel
theorem dX13_standsIn_10 : decode cX13_standsIn 10 = .ok (.aload_n 0, 1) := by decide +kernel
theorem dX13_standsIn_11 : decode cX13_standsIn 11 = .ok (.iload_n 1, 1) := by decide +kernel
theorem dX13_standsIn_12 : decode cX13_standsIn 12 = .ok (.iconst 5, 1) := by decide +kernel
theorem dX13_standsIn_13 : decode cX13_standsIn 13 = .ok (.invokevirtual 51, 3) := by decide +kernel
theorem dX13_standsIn_16 : decode cX13_standsIn 16 = .ok (.goto 13, 3) := by decide +kernel
theorem dX13_standsIn_19 : decode cX13_standsIn 19 = .ok (.aload_n 0, 1) := by decide +kernel
theorem dX13_standsIn_20 : decode cX13_standsIn 20 = .ok (.aload_n 0, 1) := by decide +kernel
theorem dX13_standsIn_21 : decode cX13_standsIn 21 = .ok (.iload_n 1, 1) := by decide +kernel
theorem dX13_standsIn_22 : decode cX13_standsIn 22 = .ok (.iconst 4, 1) := by decide +kernel
theorem dX13_standsIn_23 : decode cX13_standsIn 23 = .ok (.invokevirtual 51, 3) := by decide +kernel
theorem dX13_standsIn_26 : decode cX13_standsIn 26 = .ok (.invokevirtual 44, 3) := by decide +kernel
theorem dX13_standsIn_29 : decode cX13_standsIn 29 = .ok (.ireturn, 1) := by decide +kernel
def sX13_standsIn (w : Wl) (l1 : Int32) : Option Int32 := (sX13_ofWork w l1 (4 : Int32)).bind (fun r1 => (if r1 = (-1 : Int32) then (sX13_ofWork w l1 (5 : Int32)).bind (fun r6 => some r6) else (sX13_venueOf w r1).bind (fun r4 => some r4)))
theorem kX13_standsIn {l : Launch} {Γ : Gl} {B : Bs} {w : Wl} {G : Gf} {sz : Nat} {l1 : Int32} {r : Int32} (hW : Wd Γ B w G) (h : sX13_standsIn w l1 = some r) : CtR l Γ yX13_standsIn cX13_standsIn 2 (some .int) 3 [.ref (B.1 + 371), .int l1] G sz (.int (r)) := by
  refine Ct.of rfl (Nat.le_of_ble_eq_true rfl) fun X hx hr hl hΓ hnm => ?_
  subst hl hΓ
  show J X 2 G sz 0 0 0 [some (.ref (B.1 + 371)), some (.int l1)] []
  unfold sX13_standsIn at h
  refine J_al4 hx rfl rfl dX13_standsIn_0 ?_
  refine J_il4 hx rfl rfl dX13_standsIn_1 ?_
  refine J_iconst hx (4 : Int32) dX13_standsIn_2 rfl ?_
  obtain ⟨r1, hr2, h⟩ := bnd h
  refine J_rdV hx (kX13_ofWork  hW hr2) ml_X13_51 lk_X13_ofWork (ci := 11) rfl (hW.obj (rfl : kd 371 = 19) (by decide) (by decide)) (rest := []) rfl rfl (by decide) (by decide) (Nat.le_of_ble_eq_true rfl) (Nat.le_refl 0) (Nat.le_refl 0) dX13_standsIn_3 ?_
  refine J_iconst hx (-1 : Int32) dX13_standsIn_6 rfl ?_
  refine J_icmp_ne hx 19 dX13_standsIn_7 rfl (fun h3 => ?_) (fun h3 => ?_)
  · replace h := neg h h3
    refine J_al4 hx rfl rfl dX13_standsIn_19 ?_
    refine J_al4 hx rfl rfl dX13_standsIn_20 ?_
    refine J_il4 hx rfl rfl dX13_standsIn_21 ?_
    refine J_iconst hx (4 : Int32) dX13_standsIn_22 rfl ?_
    refine J_rdV hx (kX13_ofWork  hW hr2) ml_X13_51 lk_X13_ofWork (ci := 11) rfl (hW.obj (rfl : kd 371 = 19) (by decide) (by decide)) (rest := [.ref (B.1 + 371)]) rfl rfl (by decide) (by decide) (Nat.le_of_ble_eq_true rfl) (Nat.le_refl 0) (Nat.le_refl 0) dX13_standsIn_23 ?_
    obtain ⟨r4, hr5, h⟩ := bnd h
    refine J_rdV hx (kX13_venueOf  hW hr5) ml_X13_44 lk_X13_venueOf (ci := 11) rfl (hW.obj (rfl : kd 371 = 19) (by decide) (by decide)) (rest := []) rfl rfl (by decide) (by decide) (Nat.le_of_ble_eq_true rfl) (Nat.le_refl 0) (Nat.le_refl 0) dX13_standsIn_26 ?_
    exact J_iretR hx hr dX13_standsIn_29 (Nat.le_refl 0) (Nat.le_refl 0) (Option.some.inj h)
  · replace h := pos h h3
    refine J_al4 hx rfl rfl dX13_standsIn_10 ?_
    refine J_il4 hx rfl rfl dX13_standsIn_11 ?_
    refine J_iconst hx (5 : Int32) dX13_standsIn_12 rfl ?_
    obtain ⟨r6, hr7, h⟩ := bnd h
    refine J_rdV hx (kX13_ofWork  hW hr7) ml_X13_51 lk_X13_ofWork (ci := 11) rfl (hW.obj (rfl : kd 371 = 19) (by decide) (by decide)) (rest := []) rfl rfl (by decide) (by decide) (Nat.le_of_ble_eq_true rfl) (Nat.le_refl 0) (Nat.le_refl 0) dX13_standsIn_13 ?_
    refine J_goto hx 29 dX13_standsIn_16 rfl ?_
    exact J_iretR hx hr dX13_standsIn_29 (Nat.le_refl 0) (Nat.le_refl 0) (Option.some.inj h)
theorem dX13_goesTo_0 : decode cX13_goesTo 0 = .ok (.aload_n 0, 1) := by decide +kernel
theorem dX13_goesTo_1 : decode cX13_goesTo 1 = .ok (.iload_n 1, 1) := by decide +kernel
theorem dX13_goesTo_2 : decode cX13_goesTo 2 = .ok (.iconst 4, 1) := by decide +kernel
theorem dX13_goesTo_3 : decode cX13_goesTo 3 = .ok (.invokevirtual 51, 3) := by decide +kernel
theorem dX13_goesTo_6 : decode cX13_goesTo 6 = .ok (.istore_n 2, 1) := by decide +kernel
theorem dX13_goesTo_7 : decode cX13_goesTo 7 = .ok (.iload_n 2, 1) := by decide +kernel
theorem dX13_goesTo_8 : decode cX13_goesTo 8 = .ok (.iconst (-1), 1) := by decide +kernel
theorem dX13_goesTo_9 : decode cX13_goesTo 9 = .ok (.if_icmp .eq 25, 3) := by decide +kernel
theorem dX13_goesTo_12 : decode cX13_goesTo 12 = .ok (.aload_n 0, 1) := by decide +kernel
theorem dX13_goesTo_13 : decode cX13_goesTo 13 = .ok (.iload_n 2, 1) := by decide +kernel
theorem dX13_goesTo_14 : decode cX13_goesTo 14 = .ok (.invokevirtual 44, 3) := by decide +kernel
theorem dX13_goesTo_17 : decode cX13_goesTo 17 = .ok (.iconst (-1), 1) := by decide +kernel
theorem dX13_goesTo_18 : decode cX13_goesTo 18 = .ok (.if_icmp .ne 16, 3) := by decide +kernel
theorem dX13_goesTo_21 : decode cX13_goesTo 21 = .ok (.aload_n 0, 1) := by decide +kernel
theorem dX13_goesTo_22 : decode cX13_goesTo 22 = .ok (.aload_n 0, 1) := by decide +kernel
theorem dX13_goesTo_23 : decode cX13_goesTo 23 = .ok (.iload_n 2, 1) := by decide +kernel
theorem dX13_goesTo_24 : decode cX13_goesTo 24 = .ok (.invokevirtual 40, 3) := by decide +kernel
theorem dX13_goesTo_27 : decode cX13_goesTo 27 = .ok (.iconst 4, 1) := by decide +kernel
theorem dX13_goesTo_28 : decode cX13_goesTo 28 = .ok (.invokevirtual 36, 3) := by decide +kernel
theorem dX13_goesTo_31 : decode cX13_goesTo 31 = .ok (.goto 4, 3) := by decide +kernel
theorem dX13_goesTo_34 : decode cX13_goesTo 34 = .ok (.iconst (-1), 1) := by decide +kernel
theorem dX13_goesTo_35 : decode cX13_goesTo 35 = .ok (.ireturn, 1) := by decide +kernel
def sX13_goesTo (w : Wl) (l1 : Int32) : Option Int32 := (sX13_ofWork w l1 (4 : Int32)).bind (fun r1 => (if r1 = (-1 : Int32) then some (-1 : Int32) else (sX13_venueOf w r1).bind (fun r4 => (if r4 = (-1 : Int32) then (sX13_outermost w r1).bind (fun r7 => (sX13_of w r7 (4 : Int32)).bind (fun r9 => some r9)) else some (-1 : Int32)))))
theorem kX13_goesTo {l : Launch} {Γ : Gl} {B : Bs} {w : Wl} {G : Gf} {sz : Nat} {l1 : Int32} {r : Int32} (hW : Wd Γ B w G) (h : sX13_goesTo w l1 = some r) : CtR l Γ yX13_goesTo cX13_goesTo 3 (some .int) 3 [.ref (B.1 + 371), .int l1] G sz (.int (r)) := by
  refine Ct.of rfl (Nat.le_of_ble_eq_true rfl) fun X hx hr hl hΓ hnm => ?_
  subst hl hΓ
  show J X 3 G sz 0 0 0 [some (.ref (B.1 + 371)), some (.int l1), none] []
  unfold sX13_goesTo at h
  refine J_al4 hx rfl rfl dX13_goesTo_0 ?_
  refine J_il4 hx rfl rfl dX13_goesTo_1 ?_
  refine J_iconst hx (4 : Int32) dX13_goesTo_2 rfl ?_
  obtain ⟨r1, hr2, h⟩ := bnd h
  refine J_rdV hx (kX13_ofWork  hW hr2) ml_X13_51 lk_X13_ofWork (ci := 11) rfl (hW.obj (rfl : kd 371 = 19) (by decide) (by decide)) (rest := []) rfl rfl (by decide) (by decide) (Nat.le_of_ble_eq_true rfl) (Nat.le_refl 0) (Nat.le_refl 0) dX13_goesTo_3 ?_
  refine J_is4 hx rfl (by decide) (hc_of rfl) rfl dX13_goesTo_6 ?_
  refine J_il4 hx rfl rfl dX13_goesTo_7 ?_
  refine J_iconst hx (-1 : Int32) dX13_goesTo_8 rfl ?_
  refine J_icmp_eq hx 34 dX13_goesTo_9 rfl (fun h3 => ?_) (fun h3 => ?_)
  · replace h := pos h h3
    refine J_iconst hx (-1 : Int32) dX13_goesTo_34 rfl ?_
    exact J_iretR hx hr dX13_goesTo_35 (Nat.le_refl 0) (Nat.le_refl 0) (Option.some.inj h)
  · replace h := neg h h3
    refine J_al4 hx rfl rfl dX13_goesTo_12 ?_
    refine J_il4 hx rfl rfl dX13_goesTo_13 ?_
    obtain ⟨r4, hr5, h⟩ := bnd h
    refine J_rdV hx (kX13_venueOf  hW hr5) ml_X13_44 lk_X13_venueOf (ci := 11) rfl (hW.obj (rfl : kd 371 = 19) (by decide) (by decide)) (rest := []) rfl rfl (by decide) (by decide) (Nat.le_of_ble_eq_true rfl) (Nat.le_refl 0) (Nat.le_refl 0) dX13_goesTo_14 ?_
    refine J_iconst hx (-1 : Int32) dX13_goesTo_17 rfl ?_
    refine J_icmp_ne hx 34 dX13_goesTo_18 rfl (fun h6 => ?_) (fun h6 => ?_)
    · replace h := neg h h6
      refine J_iconst hx (-1 : Int32) dX13_goesTo_34 rfl ?_
      exact J_iretR hx hr dX13_goesTo_35 (Nat.le_refl 0) (Nat.le_refl 0) (Option.some.inj h)
    · replace h := pos h h6
      refine J_al4 hx rfl rfl dX13_goesTo_21 ?_
      refine J_al4 hx rfl rfl dX13_goesTo_22 ?_
      refine J_il4 hx rfl rfl dX13_goesTo_23 ?_
      obtain ⟨r7, hr8, h⟩ := bnd h
      refine J_rdV hx (kX13_outermost  hW hr8) ml_X13_40 lk_X13_outermost (ci := 11) rfl (hW.obj (rfl : kd 371 = 19) (by decide) (by decide)) (rest := [.ref (B.1 + 371)]) rfl rfl (by decide) (by decide) (Nat.le_of_ble_eq_true rfl) (Nat.le_refl 0) (Nat.le_refl 0) dX13_goesTo_24 ?_
      refine J_iconst hx (4 : Int32) dX13_goesTo_27 rfl ?_
      obtain ⟨r9, hr10, h⟩ := bnd h
      refine J_rdV hx (kX13_of  hW hr10) ml_X13_36 lk_X13_of (ci := 11) rfl (hW.obj (rfl : kd 371 = 19) (by decide) (by decide)) (rest := []) rfl rfl (by decide) (by decide) (Nat.le_of_ble_eq_true rfl) (Nat.le_refl 0) (Nat.le_refl 0) dX13_goesTo_28 ?_
      refine J_goto hx 35 dX13_goesTo_31 rfl ?_
      exact J_iretR hx hr dX13_goesTo_35 (Nat.le_refl 0) (Nat.le_refl 0) (Option.some.inj h)
theorem dX13_worksIn_0 : decode cX13_worksIn 0 = .ok (.iconst 0, 1) := by decide +kernel
theorem dX13_worksIn_1 : decode cX13_worksIn 1 = .ok (.istore_n 3, 1) := by decide +kernel
theorem dX13_worksIn_2 : decode cX13_worksIn 2 = .ok (.iconst 0, 1) := by decide +kernel
theorem dX13_worksIn_3 : decode cX13_worksIn 3 = .ok (.istore 4, 2) := by decide +kernel
theorem dX13_worksIn_5 : decode cX13_worksIn 5 = .ok (.iload 4, 2) := by decide +kernel
theorem dX13_worksIn_7 : decode cX13_worksIn 7 = .ok (.aload_n 0, 1) := by decide +kernel
theorem dX13_worksIn_8 : decode cX13_worksIn 8 = .ok (.getfield 7, 3) := by decide +kernel
theorem dX13_worksIn_11 : decode cX13_worksIn 11 = .ok (.iconst 3, 1) := by decide +kernel
theorem dX13_worksIn_12 : decode cX13_worksIn 12 = .ok (.iaload, 1) := by decide +kernel
theorem dX13_worksIn_13 : decode cX13_worksIn 13 = .ok (.if_icmp .ge 46, 3) := by decide +kernel
theorem dX13_worksIn_16 : decode cX13_worksIn 16 = .ok (.iload_n 3, 1) := by decide +kernel
theorem dX13_worksIn_17 : decode cX13_worksIn 17 = .ok (.aload_n 0, 1) := by decide +kernel
theorem dX13_worksIn_18 : decode cX13_worksIn 18 = .ok (.aload_n 0, 1) := by decide +kernel
theorem dX13_worksIn_19 : decode cX13_worksIn 19 = .ok (.iload 4, 2) := by decide +kernel
theorem dX13_worksIn_21 : decode cX13_worksIn 21 = .ok (.iconst 4, 1) := by decide +kernel
theorem dX13_worksIn_22 : decode cX13_worksIn 22 = .ok (.invokevirtual 51, 3) := by decide +kernel
theorem dX13_worksIn_25 : decode cX13_worksIn 25 = .ok (.iload_n 1, 1) := by decide +kernel
theorem dX13_worksIn_26 : decode cX13_worksIn 26 = .ok (.invokevirtual 54, 3) := by decide +kernel
theorem dX13_worksIn_29 : decode cX13_worksIn 29 = .ok (.ifCond .eq 21, 3) := by decide +kernel
theorem dX13_worksIn_32 : decode cX13_worksIn 32 = .ok (.iload_n 2, 1) := by decide +kernel
theorem dX13_worksIn_33 : decode cX13_worksIn 33 = .ok (.ifCond .ne 7, 3) := by decide +kernel
theorem dX13_worksIn_36 : decode cX13_worksIn 36 = .ok (.iconst 1, 1) := by decide +kernel
theorem dX13_worksIn_37 : decode cX13_worksIn 37 = .ok (.goto 14, 3) := by decide +kernel
theorem dX13_worksIn_40 : decode cX13_worksIn 40 = .ok (.aload_n 0, 1) := by decide +kernel
theorem dX13_worksIn_41 : decode cX13_worksIn 41 = .ok (.iload 4, 2) := by decide +kernel
theorem dX13_worksIn_43 : decode cX13_worksIn 43 = .ok (.iconst 1, 1) := by decide +kernel
theorem dX13_worksIn_44 : decode cX13_worksIn 44 = .ok (.invokevirtual 51, 3) := by decide +kernel
theorem dX13_worksIn_47 : decode cX13_worksIn 47 = .ok (.goto 4, 3) := by decide +kernel
theorem dX13_worksIn_50 : decode cX13_worksIn 50 = .ok (.iconst 0, 1) := by decide +kernel
theorem dX13_worksIn_51 : decode cX13_worksIn 51 = .ok (.iadd, 1) := by decide +kernel
theorem dX13_worksIn_52 : decode cX13_worksIn 52 = .ok (.istore_n 3, 1) := by decide +kernel
theorem dX13_worksIn_53 : decode cX13_worksIn 53 = .ok (.iinc 4 1, 3) := by decide +kernel
theorem dX13_worksIn_56 : decode cX13_worksIn 56 = .ok (.goto (-51), 3) := by decide +kernel
theorem dX13_worksIn_59 : decode cX13_worksIn 59 = .ok (.iload_n 3, 1) := by decide +kernel
theorem dX13_worksIn_60 : decode cX13_worksIn 60 = .ok (.ireturn, 1) := by decide +kernel
def sX13_worksIn_5 : Nat → Wl → Int32 → Int32 → Int32 → Int32 → Option Int32
  | 0, _, _, _, _, _ => none
  | n + 1, w, l1, l2, l3, l4 => (if (w 372 3) ≤ l4 then some l3 else (sX13_ofWork w l4 (4 : Int32)).bind (fun r2 => (sX13_isWithin w r2 l1).bind (fun r4 => (if r4 = true then (if l2 = 0 then sX13_worksIn_5 n w l1 l2 (l3 + (1 : Int32)) (l4 + 1) else (sX13_ofWork w l4 (1 : Int32)).bind (fun r8 => sX13_worksIn_5 n w l1 l2 (l3 + r8) (l4 + 1))) else sX13_worksIn_5 n w l1 l2 (l3 + (0 : Int32)) (l4 + 1)))))
theorem tX13_worksIn_5 {X : Cx} {B : Bs} {sz : Nat} {G : Gf} {r : Int32} (hx : Fx X cX13_worksIn 5 RX13 2 0 0) (hr : Rt X (some .int) 0 0 (RdΨ (.int (r)) G sz)) : ∀ (n : Nat), ∀ (w : Wl) (l1 : Int32) (l2 : Int32) (l3 : Int32) (l4 : Int32) (hW : Wd (xΓ X) B w G) (h : sX13_worksIn_5 n w l1 l2 l3 l4 = some r), J X 5 G sz 0 0 5 [some (.ref (B.1 + 371)), some (.int l1), some (.int l2), some (.int l3), some (.int l4)] [] := by
  intro n
  induction n with
  | zero => intro w l1 l2 l3 l4 hW h; rw [sX13_worksIn_5.eq_1] at h; cases h
  | succ n ih =>
    intro w l1 l2 l3 l4 hW h
    rw [sX13_worksIn_5.eq_2] at h
    refine J_il hx rfl dX13_worksIn_5 ?_
    refine J_al4 hx rfl rfl dX13_worksIn_7 ?_
    refine g13_0 hx hW 372 (rfl : kd 371 = 19) fl_X13_7 rfl dX13_worksIn_8 ?_
    refine J_iconst hx (3 : Int32) dX13_worksIn_11 rfl ?_
    refine J_iaW hx hW (rfl : kd 372 = 641) (by decide +kernel : idx (3 : Int32) 541 = some 3) dX13_worksIn_12 ?_
    refine J_icmp_ge hx 59 dX13_worksIn_13 rfl (fun h1 => ?_) (fun h1 => ?_)
    · replace h := pos h h1
      refine J_il4 hx rfl rfl dX13_worksIn_59 ?_
      exact J_iretR hx hr dX13_worksIn_60 (Nat.le_refl 0) (Nat.le_refl 0) (Option.some.inj h)
    · replace h := neg h h1
      refine J_il4 hx rfl rfl dX13_worksIn_16 ?_
      refine J_al4 hx rfl rfl dX13_worksIn_17 ?_
      refine J_al4 hx rfl rfl dX13_worksIn_18 ?_
      refine J_il hx rfl dX13_worksIn_19 ?_
      refine J_iconst hx (4 : Int32) dX13_worksIn_21 rfl ?_
      obtain ⟨r2, hr3, h⟩ := bnd h
      refine J_rdV hx (kX13_ofWork  hW hr3) ml_X13_51 lk_X13_ofWork (ci := 11) rfl (hW.obj (rfl : kd 371 = 19) (by decide) (by decide)) (rest := [.ref (B.1 + 371), .int l3]) rfl rfl (by decide) (by decide) (Nat.le_of_ble_eq_true rfl) (Nat.le_refl 0) (Nat.le_refl 0) dX13_worksIn_22 ?_
      refine J_il4 hx rfl rfl dX13_worksIn_25 ?_
      obtain ⟨r4, hr5, h⟩ := bnd h
      refine J_rdV hx (kX13_isWithin  hW hr5) ml_X13_54 lk_X13_isWithin (ci := 11) rfl (hW.obj (rfl : kd 371 = 19) (by decide) (by decide)) (rest := [.int l3]) rfl rfl (by decide) (by decide) (Nat.le_of_ble_eq_true rfl) (Nat.le_refl 0) (Nat.le_refl 0) dX13_worksIn_26 ?_
      refine J_bif_eq hx 50 dX13_worksIn_29 rfl (fun h6 => ?_) (fun h6 => ?_)
      · replace h := neg h (bft h6)
        refine J_iconst hx (0 : Int32) dX13_worksIn_50 rfl ?_
        refine J_iadd hx dX13_worksIn_51 ?_
        refine J_is4 hx rfl (by decide) (hc_of rfl) rfl dX13_worksIn_52 ?_
        refine J_iinc hx (v' := (l4 + 1)) rfl rfl (by decide) (hc_of rfl) rfl dX13_worksIn_53 ?_
        refine J_goto hx 5 dX13_worksIn_56 rfl ?_
        exact ih _ _ _ _ _  hW h
      · replace h := pos h h6
        refine J_il4 hx rfl rfl dX13_worksIn_32 ?_
        refine J_if_ne hx 40 dX13_worksIn_33 rfl (fun h7 => ?_) (fun h7 => ?_)
        · replace h := neg h h7
          refine J_al4 hx rfl rfl dX13_worksIn_40 ?_
          refine J_il hx rfl dX13_worksIn_41 ?_
          refine J_iconst hx (1 : Int32) dX13_worksIn_43 rfl ?_
          obtain ⟨r8, hr9, h⟩ := bnd h
          refine J_rdV hx (kX13_ofWork  hW hr9) ml_X13_51 lk_X13_ofWork (ci := 11) rfl (hW.obj (rfl : kd 371 = 19) (by decide) (by decide)) (rest := [.int l3]) rfl rfl (by decide) (by decide) (Nat.le_of_ble_eq_true rfl) (Nat.le_refl 0) (Nat.le_refl 0) dX13_worksIn_44 ?_
          refine J_goto hx 51 dX13_worksIn_47 rfl ?_
          refine J_iadd hx dX13_worksIn_51 ?_
          refine J_is4 hx rfl (by decide) (hc_of rfl) rfl dX13_worksIn_52 ?_
          refine J_iinc hx (v' := (l4 + 1)) rfl rfl (by decide) (hc_of rfl) rfl dX13_worksIn_53 ?_
          refine J_goto hx 5 dX13_worksIn_56 rfl ?_
          exact ih _ _ _ _ _  hW h
        · replace h := pos h h7
          refine J_iconst hx (1 : Int32) dX13_worksIn_36 rfl ?_
          refine J_goto hx 51 dX13_worksIn_37 rfl ?_
          refine J_iadd hx dX13_worksIn_51 ?_
          refine J_is4 hx rfl (by decide) (hc_of rfl) rfl dX13_worksIn_52 ?_
          refine J_iinc hx (v' := (l4 + 1)) rfl rfl (by decide) (hc_of rfl) rfl dX13_worksIn_53 ?_
          refine J_goto hx 5 dX13_worksIn_56 rfl ?_
          exact ih _ _ _ _ _  hW h
def sX13_worksIn (w : Wl) (l1 : Int32) (l2 : Int32) : Option Int32 := sX13_worksIn_5 FU w l1 l2 (0 : Int32) (0 : Int32)
theorem kX13_worksIn {l : Launch} {Γ : Gl} {B : Bs} {w : Wl} {G : Gf} {sz : Nat} {l1 : Int32} {l2 : Int32} {r : Int32} (hW : Wd Γ B w G) (h : sX13_worksIn w l1 l2 = some r) : CtR l Γ yX13_worksIn cX13_worksIn 5 (some .int) 2 [.ref (B.1 + 371), .int l1, .int l2] G sz (.int (r)) := by
  refine Ct.of rfl (Nat.le_of_ble_eq_true rfl) fun X hx hr hl hΓ hnm => ?_
  subst hl hΓ
  show J X 5 G sz 0 0 0 [some (.ref (B.1 + 371)), some (.int l1), some (.int l2), none, none] []
  unfold sX13_worksIn at h
  refine J_iconst hx (0 : Int32) dX13_worksIn_0 rfl ?_
  refine J_is4 hx rfl (by decide) (hc_of rfl) rfl dX13_worksIn_1 ?_
  refine J_iconst hx (0 : Int32) dX13_worksIn_2 rfl ?_
  refine J_is hx (by decide) (hc_of rfl) rfl dX13_worksIn_3 ?_
  exact tX13_worksIn_5 hx hr _ _ _ _ _ _  hW h
theorem dX13_directWorks_0 : decode cX13_directWorks 0 = .ok (.iconst 0, 1) := by decide +kernel
theorem dX13_directWorks_1 : decode cX13_directWorks 1 = .ok (.istore_n 2, 1) := by decide +kernel
theorem dX13_directWorks_2 : decode cX13_directWorks 2 = .ok (.iconst 0, 1) := by decide +kernel
theorem dX13_directWorks_3 : decode cX13_directWorks 3 = .ok (.istore_n 3, 1) := by decide +kernel
theorem dX13_directWorks_4 : decode cX13_directWorks 4 = .ok (.iload_n 3, 1) := by decide +kernel
theorem dX13_directWorks_5 : decode cX13_directWorks 5 = .ok (.aload_n 0, 1) := by decide +kernel
theorem dX13_directWorks_6 : decode cX13_directWorks 6 = .ok (.getfield 7, 3) := by decide +kernel
theorem dX13_directWorks_9 : decode cX13_directWorks 9 = .ok (.iconst 3, 1) := by decide +kernel
theorem dX13_directWorks_10 : decode cX13_directWorks 10 = .ok (.iaload, 1) := by decide +kernel
theorem dX13_directWorks_11 : decode cX13_directWorks 11 = .ok (.if_icmp .ge 27, 3) := by decide +kernel
theorem dX13_directWorks_14 : decode cX13_directWorks 14 = .ok (.iload_n 2, 1) := by decide +kernel
theorem dX13_directWorks_15 : decode cX13_directWorks 15 = .ok (.aload_n 0, 1) := by decide +kernel
theorem dX13_directWorks_16 : decode cX13_directWorks 16 = .ok (.iload_n 3, 1) := by decide +kernel
theorem dX13_directWorks_17 : decode cX13_directWorks 17 = .ok (.iconst 4, 1) := by decide +kernel
theorem dX13_directWorks_18 : decode cX13_directWorks 18 = .ok (.invokevirtual 51, 3) := by decide +kernel
theorem dX13_directWorks_21 : decode cX13_directWorks 21 = .ok (.iload_n 1, 1) := by decide +kernel
theorem dX13_directWorks_22 : decode cX13_directWorks 22 = .ok (.if_icmp .ne 7, 3) := by decide +kernel
theorem dX13_directWorks_25 : decode cX13_directWorks 25 = .ok (.iconst 1, 1) := by decide +kernel
theorem dX13_directWorks_26 : decode cX13_directWorks 26 = .ok (.goto 4, 3) := by decide +kernel
theorem dX13_directWorks_29 : decode cX13_directWorks 29 = .ok (.iconst 0, 1) := by decide +kernel
theorem dX13_directWorks_30 : decode cX13_directWorks 30 = .ok (.iadd, 1) := by decide +kernel
theorem dX13_directWorks_31 : decode cX13_directWorks 31 = .ok (.istore_n 2, 1) := by decide +kernel
theorem dX13_directWorks_32 : decode cX13_directWorks 32 = .ok (.iinc 3 1, 3) := by decide +kernel
theorem dX13_directWorks_35 : decode cX13_directWorks 35 = .ok (.goto (-31), 3) := by decide +kernel
theorem dX13_directWorks_38 : decode cX13_directWorks 38 = .ok (.iload_n 2, 1) := by decide +kernel
theorem dX13_directWorks_39 : decode cX13_directWorks 39 = .ok (.ireturn, 1) := by decide +kernel
def sX13_directWorks_4 : Nat → Wl → Int32 → Int32 → Int32 → Option Int32
  | 0, _, _, _, _ => none
  | n + 1, w, l1, l2, l3 => (if (w 372 3) ≤ l3 then some l2 else (sX13_ofWork w l3 (4 : Int32)).bind (fun r2 => (if r2 = l1 then sX13_directWorks_4 n w l1 (l2 + (1 : Int32)) (l3 + 1) else sX13_directWorks_4 n w l1 (l2 + (0 : Int32)) (l3 + 1))))
theorem tX13_directWorks_4 {X : Cx} {B : Bs} {sz : Nat} {G : Gf} {r : Int32} (hx : Fx X cX13_directWorks 4 RX13 1 0 0) (hr : Rt X (some .int) 0 0 (RdΨ (.int (r)) G sz)) : ∀ (n : Nat), ∀ (w : Wl) (l1 : Int32) (l2 : Int32) (l3 : Int32) (hW : Wd (xΓ X) B w G) (h : sX13_directWorks_4 n w l1 l2 l3 = some r), J X 4 G sz 0 0 4 [some (.ref (B.1 + 371)), some (.int l1), some (.int l2), some (.int l3)] [] := by
  intro n
  induction n with
  | zero => intro w l1 l2 l3 hW h; rw [sX13_directWorks_4.eq_1] at h; cases h
  | succ n ih =>
    intro w l1 l2 l3 hW h
    rw [sX13_directWorks_4.eq_2] at h
    refine J_il4 hx rfl rfl dX13_directWorks_4 ?_
    refine J_al4 hx rfl rfl dX13_directWorks_5 ?_
    refine g13_0 hx hW 372 (rfl : kd 371 = 19) fl_X13_7 rfl dX13_directWorks_6 ?_
    refine J_iconst hx (3 : Int32) dX13_directWorks_9 rfl ?_
    refine J_iaW hx hW (rfl : kd 372 = 641) (by decide +kernel : idx (3 : Int32) 541 = some 3) dX13_directWorks_10 ?_
    refine J_icmp_ge hx 38 dX13_directWorks_11 rfl (fun h1 => ?_) (fun h1 => ?_)
    · replace h := pos h h1
      refine J_il4 hx rfl rfl dX13_directWorks_38 ?_
      exact J_iretR hx hr dX13_directWorks_39 (Nat.le_refl 0) (Nat.le_refl 0) (Option.some.inj h)
    · replace h := neg h h1
      refine J_il4 hx rfl rfl dX13_directWorks_14 ?_
      refine J_al4 hx rfl rfl dX13_directWorks_15 ?_
      refine J_il4 hx rfl rfl dX13_directWorks_16 ?_
      refine J_iconst hx (4 : Int32) dX13_directWorks_17 rfl ?_
      obtain ⟨r2, hr3, h⟩ := bnd h
      refine J_rdV hx (kX13_ofWork  hW hr3) ml_X13_51 lk_X13_ofWork (ci := 11) rfl (hW.obj (rfl : kd 371 = 19) (by decide) (by decide)) (rest := [.int l2]) rfl rfl (by decide) (by decide) (Nat.le_of_ble_eq_true rfl) (Nat.le_refl 0) (Nat.le_refl 0) dX13_directWorks_18 ?_
      refine J_il4 hx rfl rfl dX13_directWorks_21 ?_
      refine J_icmp_ne hx 29 dX13_directWorks_22 rfl (fun h4 => ?_) (fun h4 => ?_)
      · replace h := neg h h4
        refine J_iconst hx (0 : Int32) dX13_directWorks_29 rfl ?_
        refine J_iadd hx dX13_directWorks_30 ?_
        refine J_is4 hx rfl (by decide) (hc_of rfl) rfl dX13_directWorks_31 ?_
        refine J_iinc hx (v' := (l3 + 1)) rfl rfl (by decide) (hc_of rfl) rfl dX13_directWorks_32 ?_
        refine J_goto hx 4 dX13_directWorks_35 rfl ?_
        exact ih _ _ _ _  hW h
      · replace h := pos h h4
        refine J_iconst hx (1 : Int32) dX13_directWorks_25 rfl ?_
        refine J_goto hx 30 dX13_directWorks_26 rfl ?_
        refine J_iadd hx dX13_directWorks_30 ?_
        refine J_is4 hx rfl (by decide) (hc_of rfl) rfl dX13_directWorks_31 ?_
        refine J_iinc hx (v' := (l3 + 1)) rfl rfl (by decide) (hc_of rfl) rfl dX13_directWorks_32 ?_
        refine J_goto hx 4 dX13_directWorks_35 rfl ?_
        exact ih _ _ _ _  hW h
def sX13_directWorks (w : Wl) (l1 : Int32) : Option Int32 := sX13_directWorks_4 FU w l1 (0 : Int32) (0 : Int32)
theorem kX13_directWorks {l : Launch} {Γ : Gl} {B : Bs} {w : Wl} {G : Gf} {sz : Nat} {l1 : Int32} {r : Int32} (hW : Wd Γ B w G) (h : sX13_directWorks w l1 = some r) : CtR l Γ yX13_directWorks cX13_directWorks 4 (some .int) 1 [.ref (B.1 + 371), .int l1] G sz (.int (r)) := by
  refine Ct.of rfl (Nat.le_of_ble_eq_true rfl) fun X hx hr hl hΓ hnm => ?_
  subst hl hΓ
  show J X 4 G sz 0 0 0 [some (.ref (B.1 + 371)), some (.int l1), none, none] []
  unfold sX13_directWorks at h
  refine J_iconst hx (0 : Int32) dX13_directWorks_0 rfl ?_
  refine J_is4 hx rfl (by decide) (hc_of rfl) rfl dX13_directWorks_1 ?_
  refine J_iconst hx (0 : Int32) dX13_directWorks_2 rfl ?_
  refine J_is4 hx rfl (by decide) (hc_of rfl) rfl dX13_directWorks_3 ?_
  exact tX13_directWorks_4 hx hr _ _ _ _ _  hW h
theorem dX13_directCrates_0 : decode cX13_directCrates 0 = .ok (.iconst 0, 1) := by decide +kernel
theorem dX13_directCrates_1 : decode cX13_directCrates 1 = .ok (.istore_n 2, 1) := by decide +kernel
theorem dX13_directCrates_2 : decode cX13_directCrates 2 = .ok (.iconst 0, 1) := by decide +kernel
theorem dX13_directCrates_3 : decode cX13_directCrates 3 = .ok (.istore_n 3, 1) := by decide +kernel
theorem dX13_directCrates_4 : decode cX13_directCrates 4 = .ok (.iload_n 3, 1) := by decide +kernel
theorem dX13_directCrates_5 : decode cX13_directCrates 5 = .ok (.aload_n 0, 1) := by decide +kernel
theorem dX13_directCrates_6 : decode cX13_directCrates 6 = .ok (.getfield 7, 3) := by decide +kernel
theorem dX13_directCrates_9 : decode cX13_directCrates 9 = .ok (.iconst 2, 1) := by decide +kernel
theorem dX13_directCrates_10 : decode cX13_directCrates 10 = .ok (.iaload, 1) := by decide +kernel
theorem dX13_directCrates_11 : decode cX13_directCrates 11 = .ok (.if_icmp .ge 27, 3) := by decide +kernel
theorem dX13_directCrates_14 : decode cX13_directCrates 14 = .ok (.iload_n 2, 1) := by decide +kernel
theorem dX13_directCrates_15 : decode cX13_directCrates 15 = .ok (.aload_n 0, 1) := by decide +kernel
theorem dX13_directCrates_16 : decode cX13_directCrates 16 = .ok (.iload_n 3, 1) := by decide +kernel
theorem dX13_directCrates_17 : decode cX13_directCrates 17 = .ok (.iconst 2, 1) := by decide +kernel
theorem dX13_directCrates_18 : decode cX13_directCrates 18 = .ok (.invokevirtual 36, 3) := by decide +kernel
theorem dX13_directCrates_21 : decode cX13_directCrates 21 = .ok (.iload_n 1, 1) := by decide +kernel
theorem dX13_directCrates_22 : decode cX13_directCrates 22 = .ok (.if_icmp .ne 7, 3) := by decide +kernel
theorem dX13_directCrates_25 : decode cX13_directCrates 25 = .ok (.iconst 1, 1) := by decide +kernel
theorem dX13_directCrates_26 : decode cX13_directCrates 26 = .ok (.goto 4, 3) := by decide +kernel
theorem dX13_directCrates_29 : decode cX13_directCrates 29 = .ok (.iconst 0, 1) := by decide +kernel
theorem dX13_directCrates_30 : decode cX13_directCrates 30 = .ok (.iadd, 1) := by decide +kernel
theorem dX13_directCrates_31 : decode cX13_directCrates 31 = .ok (.istore_n 2, 1) := by decide +kernel
theorem dX13_directCrates_32 : decode cX13_directCrates 32 = .ok (.iinc 3 1, 3) := by decide +kernel
theorem dX13_directCrates_35 : decode cX13_directCrates 35 = .ok (.goto (-31), 3) := by decide +kernel
theorem dX13_directCrates_38 : decode cX13_directCrates 38 = .ok (.iload_n 2, 1) := by decide +kernel
theorem dX13_directCrates_39 : decode cX13_directCrates 39 = .ok (.ireturn, 1) := by decide +kernel
def sX13_directCrates_4 : Nat → Wl → Int32 → Int32 → Int32 → Option Int32
  | 0, _, _, _, _ => none
  | n + 1, w, l1, l2, l3 => (if (w 372 2) ≤ l3 then some l2 else (sX13_of w l3 (2 : Int32)).bind (fun r2 => (if r2 = l1 then sX13_directCrates_4 n w l1 (l2 + (1 : Int32)) (l3 + 1) else sX13_directCrates_4 n w l1 (l2 + (0 : Int32)) (l3 + 1))))
theorem tX13_directCrates_4 {X : Cx} {B : Bs} {sz : Nat} {G : Gf} {r : Int32} (hx : Fx X cX13_directCrates 4 RX13 1 0 0) (hr : Rt X (some .int) 0 0 (RdΨ (.int (r)) G sz)) : ∀ (n : Nat), ∀ (w : Wl) (l1 : Int32) (l2 : Int32) (l3 : Int32) (hW : Wd (xΓ X) B w G) (h : sX13_directCrates_4 n w l1 l2 l3 = some r), J X 4 G sz 0 0 4 [some (.ref (B.1 + 371)), some (.int l1), some (.int l2), some (.int l3)] [] := by
  intro n
  induction n with
  | zero => intro w l1 l2 l3 hW h; rw [sX13_directCrates_4.eq_1] at h; cases h
  | succ n ih =>
    intro w l1 l2 l3 hW h
    rw [sX13_directCrates_4.eq_2] at h
    refine J_il4 hx rfl rfl dX13_directCrates_4 ?_
    refine J_al4 hx rfl rfl dX13_directCrates_5 ?_
    refine g13_0 hx hW 372 (rfl : kd 371 = 19) fl_X13_7 rfl dX13_directCrates_6 ?_
    refine J_iconst hx (2 : Int32) dX13_directCrates_9 rfl ?_
    refine J_iaW hx hW (rfl : kd 372 = 641) (by decide +kernel : idx (2 : Int32) 541 = some 2) dX13_directCrates_10 ?_
    refine J_icmp_ge hx 38 dX13_directCrates_11 rfl (fun h1 => ?_) (fun h1 => ?_)
    · replace h := pos h h1
      refine J_il4 hx rfl rfl dX13_directCrates_38 ?_
      exact J_iretR hx hr dX13_directCrates_39 (Nat.le_refl 0) (Nat.le_refl 0) (Option.some.inj h)
    · replace h := neg h h1
      refine J_il4 hx rfl rfl dX13_directCrates_14 ?_
      refine J_al4 hx rfl rfl dX13_directCrates_15 ?_
      refine J_il4 hx rfl rfl dX13_directCrates_16 ?_
      refine J_iconst hx (2 : Int32) dX13_directCrates_17 rfl ?_
      obtain ⟨r2, hr3, h⟩ := bnd h
      refine J_rdV hx (kX13_of  hW hr3) ml_X13_36 lk_X13_of (ci := 11) rfl (hW.obj (rfl : kd 371 = 19) (by decide) (by decide)) (rest := [.int l2]) rfl rfl (by decide) (by decide) (Nat.le_of_ble_eq_true rfl) (Nat.le_refl 0) (Nat.le_refl 0) dX13_directCrates_18 ?_
      refine J_il4 hx rfl rfl dX13_directCrates_21 ?_
      refine J_icmp_ne hx 29 dX13_directCrates_22 rfl (fun h4 => ?_) (fun h4 => ?_)
      · replace h := neg h h4
        refine J_iconst hx (0 : Int32) dX13_directCrates_29 rfl ?_
        refine J_iadd hx dX13_directCrates_30 ?_
        refine J_is4 hx rfl (by decide) (hc_of rfl) rfl dX13_directCrates_31 ?_
        refine J_iinc hx (v' := (l3 + 1)) rfl rfl (by decide) (hc_of rfl) rfl dX13_directCrates_32 ?_
        refine J_goto hx 4 dX13_directCrates_35 rfl ?_
        exact ih _ _ _ _  hW h
      · replace h := pos h h4
        refine J_iconst hx (1 : Int32) dX13_directCrates_25 rfl ?_
        refine J_goto hx 30 dX13_directCrates_26 rfl ?_
        refine J_iadd hx dX13_directCrates_30 ?_
        refine J_is4 hx rfl (by decide) (hc_of rfl) rfl dX13_directCrates_31 ?_
        refine J_iinc hx (v' := (l3 + 1)) rfl rfl (by decide) (hc_of rfl) rfl dX13_directCrates_32 ?_
        refine J_goto hx 4 dX13_directCrates_35 rfl ?_
        exact ih _ _ _ _  hW h
def sX13_directCrates (w : Wl) (l1 : Int32) : Option Int32 := sX13_directCrates_4 FU w l1 (0 : Int32) (0 : Int32)
theorem kX13_directCrates {l : Launch} {Γ : Gl} {B : Bs} {w : Wl} {G : Gf} {sz : Nat} {l1 : Int32} {r : Int32} (hW : Wd Γ B w G) (h : sX13_directCrates w l1 = some r) : CtR l Γ yX13_directCrates cX13_directCrates 4 (some .int) 1 [.ref (B.1 + 371), .int l1] G sz (.int (r)) := by
  refine Ct.of rfl (Nat.le_of_ble_eq_true rfl) fun X hx hr hl hΓ hnm => ?_
  subst hl hΓ
  show J X 4 G sz 0 0 0 [some (.ref (B.1 + 371)), some (.int l1), none, none] []
  unfold sX13_directCrates at h
  refine J_iconst hx (0 : Int32) dX13_directCrates_0 rfl ?_
  refine J_is4 hx rfl (by decide) (hc_of rfl) rfl dX13_directCrates_1 ?_
  refine J_iconst hx (0 : Int32) dX13_directCrates_2 rfl ?_
  refine J_is4 hx rfl (by decide) (hc_of rfl) rfl dX13_directCrates_3 ?_
  exact tX13_directCrates_4 hx hr _ _ _ _ _  hW h
theorem dX13_isClimate_0 : decode cX13_isClimate 0 = .ok (.iload_n 0, 1) := by decide +kernel
theorem dX13_isClimate_1 : decode cX13_isClimate 1 = .ok (.bipush (-10), 2) := by decide +kernel
theorem dX13_isClimate_3 : decode cX13_isClimate 3 = .ok (.bipush 40, 2) := by decide +kernel
theorem dX13_isClimate_5 : decode cX13_isClimate 5 = .ok (.invokestatic 32, 3) := by decide +kernel
theorem dX13_isClimate_8 : decode cX13_isClimate 8 = .ok (.ifCond .eq 18, 3) := by decide +kernel
theorem dX13_isClimate_11 : decode cX13_isClimate 11 = .ok (.iload_n 1, 1) := by decide +kernel
theorem dX13_isClimate_12 : decode cX13_isClimate 12 = .ok (.bipush 20, 2) := by decide +kernel
theorem dX13_isClimate_14 : decode cX13_isClimate 14 = .ok (.bipush 90, 2) := by decide +kernel
theorem dX13_isClimate_16 : decode cX13_isClimate 16 = .ok (.invokestatic 32, 3) := by decide +kernel
theorem dX13_isClimate_19 : decode cX13_isClimate 19 = .ok (.ifCond .eq 7, 3) := by decide +kernel
theorem dX13_isClimate_22 : decode cX13_isClimate 22 = .ok (.iconst 1, 1) := by decide +kernel
theorem dX13_isClimate_23 : decode cX13_isClimate 23 = .ok (.goto 4, 3) := by decide +kernel
theorem dX13_isClimate_26 : decode cX13_isClimate 26 = .ok (.iconst 0, 1) := by decide +kernel
theorem dX13_isClimate_27 : decode cX13_isClimate 27 = .ok (.ireturn, 1) := by decide +kernel
def sX13_isClimate (w : Wl) (l0 : Int32) (l1 : Int32) : Option Bool := (sX13_in w l0 (-10 : Int32) (40 : Int32)).bind (fun r1 => (if r1 = true then (sX13_in w l1 (20 : Int32) (90 : Int32)).bind (fun r4 => (if r4 = true then some true else some false)) else some false))
theorem kX13_isClimate {l : Launch} {Γ : Gl} {B : Bs} {w : Wl} {G : Gf} {sz : Nat} {l0 : Int32} {l1 : Int32} {r : Bool} (hW : Wd Γ B w G) (h : sX13_isClimate w l0 l1 = some r) : CtR l Γ yX13_isClimate cX13_isClimate 2 (some .boolean) 1 [.int l0, .int l1] G sz (.int (bI r)) := by
  refine Ct.of rfl (Nat.le_of_ble_eq_true rfl) fun X hx hr hl hΓ hnm => ?_
  subst hl hΓ
  show J X 2 G sz 0 0 0 [some (.int l0), some (.int l1)] []
  unfold sX13_isClimate at h
  refine J_il4 hx rfl rfl dX13_isClimate_0 ?_
  refine J_bipush hx (-10 : Int32) dX13_isClimate_1 rfl ?_
  refine J_bipush hx (40 : Int32) dX13_isClimate_3 rfl ?_
  obtain ⟨r1, hr2, h⟩ := bnd h
  refine J_rdS hx (kX13_in  hW hr2) ml_X13_32 lk_X13_in (rest := []) rfl rfl (by decide) (by decide) (Nat.le_of_ble_eq_true rfl) (Nat.le_refl 0) (Nat.le_refl 0) dX13_isClimate_5 ?_
  refine J_bif_eq hx 26 dX13_isClimate_8 rfl (fun h3 => ?_) (fun h3 => ?_)
  · replace h := neg h (bft h3)
    refine J_iconst hx (0 : Int32) dX13_isClimate_26 rfl ?_
    exact J_zretR hx hr dX13_isClimate_27 (Nat.le_refl 0) (Nat.le_refl 0) (show (0 : Int32) = bI _ from congrArg bI (Option.some.inj h))
  · replace h := pos h h3
    refine J_il4 hx rfl rfl dX13_isClimate_11 ?_
    refine J_bipush hx (20 : Int32) dX13_isClimate_12 rfl ?_
    refine J_bipush hx (90 : Int32) dX13_isClimate_14 rfl ?_
    obtain ⟨r4, hr5, h⟩ := bnd h
    refine J_rdS hx (kX13_in  hW hr5) ml_X13_32 lk_X13_in (rest := []) rfl rfl (by decide) (by decide) (Nat.le_of_ble_eq_true rfl) (Nat.le_refl 0) (Nat.le_refl 0) dX13_isClimate_16 ?_
    refine J_bif_eq hx 26 dX13_isClimate_19 rfl (fun h6 => ?_) (fun h6 => ?_)
    · replace h := neg h (bft h6)
      refine J_iconst hx (0 : Int32) dX13_isClimate_26 rfl ?_
      exact J_zretR hx hr dX13_isClimate_27 (Nat.le_refl 0) (Nat.le_refl 0) (show (0 : Int32) = bI _ from congrArg bI (Option.some.inj h))
    · replace h := pos h h6
      refine J_iconst hx (1 : Int32) dX13_isClimate_22 rfl ?_
      refine J_goto hx 27 dX13_isClimate_23 rfl ?_
      exact J_zretR hx hr dX13_isClimate_27 (Nat.le_refl 0) (Nat.le_refl 0) (show (1 : Int32) = bI _ from congrArg bI (Option.some.inj h))
theorem dX13_addVenue_0 : decode cX13_addVenue 0 = .ok (.iload_n 1, 1) := by decide +kernel
theorem dX13_addVenue_1 : decode cX13_addVenue 1 = .ok (.iload_n 2, 1) := by decide +kernel
theorem dX13_addVenue_2 : decode cX13_addVenue 2 = .ok (.invokestatic 58, 3) := by decide +kernel
theorem dX13_addVenue_5 : decode cX13_addVenue 5 = .ok (.ifCond .eq 29, 3) := by decide +kernel
theorem dX13_addVenue_8 : decode cX13_addVenue 8 = .ok (.iload_n 3, 1) := by decide +kernel
theorem dX13_addVenue_9 : decode cX13_addVenue 9 = .ok (.iconst 0, 1) := by decide +kernel
theorem dX13_addVenue_10 : decode cX13_addVenue 10 = .ok (.sipush 500, 3) := by decide +kernel
theorem dX13_addVenue_13 : decode cX13_addVenue 13 = .ok (.invokestatic 32, 3) := by decide +kernel
theorem dX13_addVenue_16 : decode cX13_addVenue 16 = .ok (.ifCond .eq 18, 3) := by decide +kernel
theorem dX13_addVenue_19 : decode cX13_addVenue 19 = .ok (.iload 4, 2) := by decide +kernel
theorem dX13_addVenue_21 : decode cX13_addVenue 21 = .ok (.iconst 0, 1) := by decide +kernel
theorem dX13_addVenue_22 : decode cX13_addVenue 22 = .ok (.ldc 61, 2) := by decide +kernel
theorem dX13_addVenue_24 : decode cX13_addVenue 24 = .ok (.invokestatic 32, 3) := by decide +kernel
theorem dX13_addVenue_27 : decode cX13_addVenue 27 = .ok (.ifCond .eq 7, 3) := by decide +kernel
theorem dX13_addVenue_30 : decode cX13_addVenue 30 = .ok (.iconst 1, 1) := by decide +kernel
theorem dX13_addVenue_31 : decode cX13_addVenue 31 = .ok (.goto 4, 3) := by decide +kernel
theorem dX13_addVenue_34 : decode cX13_addVenue 34 = .ok (.iconst 0, 1) := by decide +kernel
theorem dX13_addVenue_35 : decode cX13_addVenue 35 = .ok (.istore 5, 2) := by decide +kernel
theorem dX13_addVenue_37 : decode cX13_addVenue 37 = .ok (.aload_n 0, 1) := by decide +kernel
theorem dX13_addVenue_38 : decode cX13_addVenue 38 = .ok (.iload 5, 2) := by decide +kernel
theorem dX13_addVenue_40 : decode cX13_addVenue 40 = .ok (.ifCond .ne 7, 3) := by decide +kernel
theorem dX13_addVenue_43 : decode cX13_addVenue 43 = .ok (.iconst 1, 1) := by decide +kernel
theorem dX13_addVenue_44 : decode cX13_addVenue 44 = .ok (.goto 19, 3) := by decide +kernel
theorem dX13_addVenue_47 : decode cX13_addVenue 47 = .ok (.aload_n 0, 1) := by decide +kernel
theorem dX13_addVenue_48 : decode cX13_addVenue 48 = .ok (.getfield 7, 3) := by decide +kernel
theorem dX13_addVenue_51 : decode cX13_addVenue 51 = .ok (.iconst 1, 1) := by decide +kernel
theorem dX13_addVenue_52 : decode cX13_addVenue 52 = .ok (.iaload, 1) := by decide +kernel
theorem dX13_addVenue_53 : decode cX13_addVenue 53 = .ok (.bipush 8, 2) := by decide +kernel
theorem dX13_addVenue_55 : decode cX13_addVenue 55 = .ok (.if_icmp .ne 7, 3) := by decide +kernel
theorem dX13_addVenue_58 : decode cX13_addVenue 58 = .ok (.iconst 2, 1) := by decide +kernel
theorem dX13_addVenue_59 : decode cX13_addVenue 59 = .ok (.goto 4, 3) := by decide +kernel
theorem dX13_addVenue_62 : decode cX13_addVenue 62 = .ok (.iconst 0, 1) := by decide +kernel
theorem dX13_addVenue_63 : decode cX13_addVenue 63 = .ok (.putfield 25, 3) := by decide +kernel
theorem dX13_addVenue_66 : decode cX13_addVenue 66 = .ok (.aload_n 0, 1) := by decide +kernel
theorem dX13_addVenue_67 : decode cX13_addVenue 67 = .ok (.getfield 25, 3) := by decide +kernel
theorem dX13_addVenue_70 : decode cX13_addVenue 70 = .ok (.ifCond .eq 5, 3) := by decide +kernel
theorem dX13_addVenue_73 : decode cX13_addVenue 73 = .ok (.iconst 0, 1) := by decide +kernel
theorem dX13_addVenue_74 : decode cX13_addVenue 74 = .ok (.ireturn, 1) := by decide +kernel
theorem dX13_addVenue_75 : decode cX13_addVenue 75 = .ok (.aload_n 0, 1) := by decide +kernel
theorem dX13_addVenue_76 : decode cX13_addVenue 76 = .ok (.invokevirtual 62, 3) := by decide +kernel
theorem dX13_addVenue_79 : decode cX13_addVenue 79 = .ok (.bipush 9, 2) := by decide +kernel
theorem dX13_addVenue_81 : decode cX13_addVenue 81 = .ok (.bipush 13, 2) := by decide +kernel
theorem dX13_addVenue_83 : decode cX13_addVenue 83 = .ok (.aload_n 0, 1) := by decide +kernel
theorem dX13_addVenue_84 : decode cX13_addVenue 84 = .ok (.getfield 7, 3) := by decide +kernel
theorem dX13_addVenue_87 : decode cX13_addVenue 87 = .ok (.iconst 1, 1) := by decide +kernel
theorem dX13_addVenue_88 : decode cX13_addVenue 88 = .ok (.iaload, 1) := by decide +kernel
theorem dX13_addVenue_89 : decode cX13_addVenue 89 = .ok (.imul, 1) := by decide +kernel
theorem dX13_addVenue_90 : decode cX13_addVenue 90 = .ok (.iadd, 1) := by decide +kernel
theorem dX13_addVenue_91 : decode cX13_addVenue 91 = .ok (.istore 6, 2) := by decide +kernel
theorem dX13_addVenue_93 : decode cX13_addVenue 93 = .ok (.aload_n 0, 1) := by decide +kernel
theorem dX13_addVenue_94 : decode cX13_addVenue 94 = .ok (.getfield 7, 3) := by decide +kernel
theorem dX13_addVenue_97 : decode cX13_addVenue 97 = .ok (.iload 6, 2) := by decide +kernel
theorem dX13_addVenue_99 : decode cX13_addVenue 99 = .ok (.iload_n 1, 1) := by decide +kernel
theorem dX13_addVenue_100 : decode cX13_addVenue 100 = .ok (.iastore, 1) := by decide +kernel
theorem dX13_addVenue_101 : decode cX13_addVenue 101 = .ok (.aload_n 0, 1) := by decide +kernel
theorem dX13_addVenue_102 : decode cX13_addVenue 102 = .ok (.getfield 7, 3) := by decide +kernel
theorem dX13_addVenue_105 : decode cX13_addVenue 105 = .ok (.iload 6, 2) := by decide +kernel
theorem dX13_addVenue_107 : decode cX13_addVenue 107 = .ok (.iconst 1, 1) := by decide +kernel
theorem dX13_addVenue_108 : decode cX13_addVenue 108 = .ok (.iadd, 1) := by decide +kernel
theorem dX13_addVenue_109 : decode cX13_addVenue 109 = .ok (.iload_n 2, 1) := by decide +kernel
theorem dX13_addVenue_110 : decode cX13_addVenue 110 = .ok (.iastore, 1) := by decide +kernel
theorem dX13_addVenue_111 : decode cX13_addVenue 111 = .ok (.aload_n 0, 1) := by decide +kernel
theorem dX13_addVenue_112 : decode cX13_addVenue 112 = .ok (.getfield 7, 3) := by decide +kernel
theorem dX13_addVenue_115 : decode cX13_addVenue 115 = .ok (.iload 6, 2) := by decide +kernel
theorem dX13_addVenue_117 : decode cX13_addVenue 117 = .ok (.iconst 2, 1) := by decide +kernel
theorem dX13_addVenue_118 : decode cX13_addVenue 118 = .ok (.iadd, 1) := by decide +kernel
theorem dX13_addVenue_119 : decode cX13_addVenue 119 = .ok (.iload_n 3, 1) := by decide +kernel
theorem dX13_addVenue_120 : decode cX13_addVenue 120 = .ok (.iastore, 1) := by decide +kernel
theorem dX13_addVenue_121 : decode cX13_addVenue 121 = .ok (.aload_n 0, 1) := by decide +kernel
theorem dX13_addVenue_122 : decode cX13_addVenue 122 = .ok (.getfield 7, 3) := by decide +kernel
theorem dX13_addVenue_125 : decode cX13_addVenue 125 = .ok (.iload 6, 2) := by decide +kernel
theorem dX13_addVenue_127 : decode cX13_addVenue 127 = .ok (.iconst 3, 1) := by decide +kernel
theorem dX13_addVenue_128 : decode cX13_addVenue 128 = .ok (.iadd, 1) := by decide +kernel
theorem dX13_addVenue_129 : decode cX13_addVenue 129 = .ok (.iload 4, 2) := by decide +kernel
theorem dX13_addVenue_131 : decode cX13_addVenue 131 = .ok (.iastore, 1) := by decide +kernel
theorem dX13_addVenue_132 : decode cX13_addVenue 132 = .ok (.aload_n 0, 1) := by decide +kernel
theorem dX13_addVenue_133 : decode cX13_addVenue 133 = .ok (.getfield 7, 3) := by decide +kernel
theorem dX13_addVenue_136 : decode cX13_addVenue 136 = .ok (.iconst 1, 1) := by decide +kernel
theorem dX13_addVenue_137 : decode cX13_addVenue 137 = .ok (.dup2, 1) := by decide +kernel
theorem dX13_addVenue_138 : decode cX13_addVenue 138 = .ok (.iaload, 1) := by decide +kernel
theorem dX13_addVenue_139 : decode cX13_addVenue 139 = .ok (.iconst 1, 1) := by decide +kernel
theorem dX13_addVenue_140 : decode cX13_addVenue 140 = .ok (.iadd, 1) := by decide +kernel
theorem dX13_addVenue_141 : decode cX13_addVenue 141 = .ok (.iastore, 1) := by decide +kernel
theorem dX13_addVenue_142 : decode cX13_addVenue 142 = .ok (.aload_n 0, 1) := by decide +kernel
theorem dX13_addVenue_143 : decode cX13_addVenue 143 = .ok (.getfield 7, 3) := by decide +kernel
theorem dX13_addVenue_146 : decode cX13_addVenue 146 = .ok (.iconst 1, 1) := by decide +kernel
theorem dX13_addVenue_147 : decode cX13_addVenue 147 = .ok (.iaload, 1) := by decide +kernel
theorem dX13_addVenue_148 : decode cX13_addVenue 148 = .ok (.iconst 1, 1) := by decide +kernel
theorem dX13_addVenue_149 : decode cX13_addVenue 149 = .ok (.isub, 1) := by decide +kernel
theorem dX13_addVenue_150 : decode cX13_addVenue 150 = .ok (.ireturn, 1) := by decide +kernel
def sX13_addVenue_63 (w : Wl) (l1 : Int32) (l2 : Int32) (l3 : Int32) (l4 : Int32) (s1 : Int32) : Option (Int32 × Wl) := (if ((wst w 371 5 s1) 371 5) = 0 then (sX13_keep (wst w 371 5 s1) ).bind (fun r4 => (idx ((9 : Int32) + ((13 : Int32) * (r4 372 1))) 541).bind (fun c8 => (idx (((9 : Int32) + ((13 : Int32) * (r4 372 1))) + (1 : Int32)) 541).bind (fun c12 => (idx (((9 : Int32) + ((13 : Int32) * (r4 372 1))) + (2 : Int32)) 541).bind (fun c16 => (idx (((9 : Int32) + ((13 : Int32) * (r4 372 1))) + (3 : Int32)) 541).bind (fun c20 => some ((((wst (wst (wst (wst (wst r4 372 c8 l1) 372 c12 l2) 372 c16 l3) 372 c20 l4) 372 1 (((wst (wst (wst (wst r4 372 c8 l1) 372 c12 l2) 372 c16 l3) 372 c20 l4) 372 1) + (1 : Int32))) 372 1) - (1 : Int32)), (wst (wst (wst (wst (wst r4 372 c8 l1) 372 c12 l2) 372 c16 l3) 372 c20 l4) 372 1 (((wst (wst (wst (wst r4 372 c8 l1) 372 c12 l2) 372 c16 l3) 372 c20 l4) 372 1) + (1 : Int32))))))))) else some ((0 : Int32), (wst w 371 5 s1)))
theorem tX13_addVenue_63 {X : Cx} {B : Bs} {sz : Nat} {r : (Int32 × Wl)} (hx : Fx X cX13_addVenue 7 RX13 2 0 0) (hr : Rt X (some .int) 0 0 (WΨ (xΓ X) B (some (.int (r.1))) r.2 sz)) : ∀ (w : Wl) (l1 : Int32) (l2 : Int32) (l3 : Int32) (l4 : Int32) (s1 : Int32) {G : Gf} (hW : Wd (xΓ X) B w G) (h : sX13_addVenue_63  w l1 l2 l3 l4 s1 = some r), J X 7 G sz 0 0 63 [some (.ref (B.1 + 371)), some (.int l1), some (.int l2), some (.int l3), some (.int l4), none, none] [.int s1, .ref (B.1 + 371)] := by
  intro w l1 l2 l3 l4 s1 G hW h
  unfold sX13_addVenue_63 at h
  refine p13_5 hx hW (rfl : kd 371 = 19) fl_X13_25 dX13_addVenue_63 fun G1 hW2 => ?_
  refine J_al4 hx rfl rfl dX13_addVenue_66 ?_
  refine g13_5 hx hW2 (rfl : kd 371 = 19) fl_X13_25 dX13_addVenue_67 ?_
  refine J_if_eq hx 75 dX13_addVenue_70 rfl (fun h3 => ?_) (fun h3 => ?_)
  · replace h := pos h h3
    refine J_al4 hx rfl rfl dX13_addVenue_75 ?_
    obtain ⟨r4, hr5, h⟩ := bnd h
    refine J_wrV hx (kX13_keep  hW2 hr5) ml_X13_62 lk_X13_keep (ci := 11) rfl (hW2.obj (rfl : kd 371 = 19) (by decide) (by decide)) (rest := []) rfl rfl (by decide) (by decide) (Nat.le_of_ble_eq_true rfl) (Nat.le_refl 0) (Nat.le_refl 0) dX13_addVenue_76 fun G6 hW7 => ?_
    show J X 7 G6 sz 0 0 79 [some (.ref (B.1 + 371)), some (.int l1), some (.int l2), some (.int l3), some (.int l4), none, none] []
    refine J_bipush hx (9 : Int32) dX13_addVenue_79 rfl ?_
    refine J_bipush hx (13 : Int32) dX13_addVenue_81 rfl ?_
    refine J_al4 hx rfl rfl dX13_addVenue_83 ?_
    refine g13_0 hx hW7 372 (rfl : kd 371 = 19) fl_X13_7 rfl dX13_addVenue_84 ?_
    refine J_iconst hx (1 : Int32) dX13_addVenue_87 rfl ?_
    refine J_iaW hx hW7 (rfl : kd 372 = 641) (by decide +kernel : idx (1 : Int32) 541 = some 1) dX13_addVenue_88 ?_
    refine J_imul hx dX13_addVenue_89 ?_
    refine J_iadd hx dX13_addVenue_90 ?_
    refine J_is hx (by decide) (hc_of rfl) rfl dX13_addVenue_91 ?_
    refine J_al4 hx rfl rfl dX13_addVenue_93 ?_
    refine g13_0 hx hW7 372 (rfl : kd 371 = 19) fl_X13_7 rfl dX13_addVenue_94 ?_
    refine J_il hx rfl dX13_addVenue_97 ?_
    refine J_il4 hx rfl rfl dX13_addVenue_99 ?_
    obtain ⟨c8, hc9, h⟩ := bnd h
    refine J_iaS hx hW7 (rfl : kd 372 = 641) hc9 dX13_addVenue_100 fun G10 hW11 => ?_
    refine J_al4 hx rfl rfl dX13_addVenue_101 ?_
    refine g13_0 hx hW11 372 (rfl : kd 371 = 19) fl_X13_7 rfl dX13_addVenue_102 ?_
    refine J_il hx rfl dX13_addVenue_105 ?_
    refine J_iconst hx (1 : Int32) dX13_addVenue_107 rfl ?_
    refine J_iadd hx dX13_addVenue_108 ?_
    refine J_il4 hx rfl rfl dX13_addVenue_109 ?_
    obtain ⟨c12, hc13, h⟩ := bnd h
    refine J_iaS hx hW11 (rfl : kd 372 = 641) hc13 dX13_addVenue_110 fun G14 hW15 => ?_
    refine J_al4 hx rfl rfl dX13_addVenue_111 ?_
    refine g13_0 hx hW15 372 (rfl : kd 371 = 19) fl_X13_7 rfl dX13_addVenue_112 ?_
    refine J_il hx rfl dX13_addVenue_115 ?_
    refine J_iconst hx (2 : Int32) dX13_addVenue_117 rfl ?_
    refine J_iadd hx dX13_addVenue_118 ?_
    refine J_il4 hx rfl rfl dX13_addVenue_119 ?_
    obtain ⟨c16, hc17, h⟩ := bnd h
    refine J_iaS hx hW15 (rfl : kd 372 = 641) hc17 dX13_addVenue_120 fun G18 hW19 => ?_
    refine J_al4 hx rfl rfl dX13_addVenue_121 ?_
    refine g13_0 hx hW19 372 (rfl : kd 371 = 19) fl_X13_7 rfl dX13_addVenue_122 ?_
    refine J_il hx rfl dX13_addVenue_125 ?_
    refine J_iconst hx (3 : Int32) dX13_addVenue_127 rfl ?_
    refine J_iadd hx dX13_addVenue_128 ?_
    refine J_il hx rfl dX13_addVenue_129 ?_
    obtain ⟨c20, hc21, h⟩ := bnd h
    refine J_iaS hx hW19 (rfl : kd 372 = 641) hc21 dX13_addVenue_131 fun G22 hW23 => ?_
    refine J_al4 hx rfl rfl dX13_addVenue_132 ?_
    refine g13_0 hx hW23 372 (rfl : kd 371 = 19) fl_X13_7 rfl dX13_addVenue_133 ?_
    refine J_iconst hx (1 : Int32) dX13_addVenue_136 rfl ?_
    refine J_dup2 hx dX13_addVenue_137 ?_
    refine J_iaW hx hW23 (rfl : kd 372 = 641) (by decide +kernel : idx (1 : Int32) 541 = some 1) dX13_addVenue_138 ?_
    refine J_iconst hx (1 : Int32) dX13_addVenue_139 rfl ?_
    refine J_iadd hx dX13_addVenue_140 ?_
    refine J_iaS hx hW23 (rfl : kd 372 = 641) (by decide +kernel : idx (1 : Int32) 541 = some 1) dX13_addVenue_141 fun G24 hW25 => ?_
    refine J_al4 hx rfl rfl dX13_addVenue_142 ?_
    refine g13_0 hx hW25 372 (rfl : kd 371 = 19) fl_X13_7 rfl dX13_addVenue_143 ?_
    refine J_iconst hx (1 : Int32) dX13_addVenue_146 rfl ?_
    refine J_iaW hx hW25 (rfl : kd 372 = 641) (by decide +kernel : idx (1 : Int32) 541 = some 1) dX13_addVenue_147 ?_
    refine J_iconst hx (1 : Int32) dX13_addVenue_148 rfl ?_
    refine J_isub hx dX13_addVenue_149 ?_
    obtain rfl := Option.some.inj h
    exact J_iretW hx hr hW25 dX13_addVenue_150 (Nat.le_refl 0) (Nat.le_refl 0)
  · replace h := neg h h3
    refine J_iconst hx (0 : Int32) dX13_addVenue_73 rfl ?_
    obtain rfl := Option.some.inj h
    exact J_iretW hx hr hW2 dX13_addVenue_74 (Nat.le_refl 0) (Nat.le_refl 0)
def sX13_addVenue_35 (w : Wl) (l1 : Int32) (l2 : Int32) (l3 : Int32) (l4 : Int32) (s0 : Int32) : Option (Int32 × Wl) := (if s0 = 0 then sX13_addVenue_63 w l1 l2 l3 l4 (1 : Int32) else (if (w 372 1) = (8 : Int32) then sX13_addVenue_63 w l1 l2 l3 l4 (2 : Int32) else sX13_addVenue_63 w l1 l2 l3 l4 (0 : Int32)))
theorem tX13_addVenue_35 {X : Cx} {B : Bs} {sz : Nat} {r : (Int32 × Wl)} (hx : Fx X cX13_addVenue 7 RX13 2 0 0) (hr : Rt X (some .int) 0 0 (WΨ (xΓ X) B (some (.int (r.1))) r.2 sz)) : ∀ (w : Wl) (l1 : Int32) (l2 : Int32) (l3 : Int32) (l4 : Int32) (s0 : Int32) {G : Gf} (hW : Wd (xΓ X) B w G) (h : sX13_addVenue_35  w l1 l2 l3 l4 s0 = some r), J X 7 G sz 0 0 35 [some (.ref (B.1 + 371)), some (.int l1), some (.int l2), some (.int l3), some (.int l4), none, none] [.int s0] := by
  intro w l1 l2 l3 l4 s0 G hW h
  unfold sX13_addVenue_35 at h
  refine J_is hx (by decide) (hc_of rfl) rfl dX13_addVenue_35 ?_
  refine J_al4 hx rfl rfl dX13_addVenue_37 ?_
  refine J_il hx rfl dX13_addVenue_38 ?_
  refine J_if_ne hx 47 dX13_addVenue_40 rfl (fun h1 => ?_) (fun h1 => ?_)
  · replace h := neg h h1
    refine J_al4 hx rfl rfl dX13_addVenue_47 ?_
    refine g13_0 hx hW 372 (rfl : kd 371 = 19) fl_X13_7 rfl dX13_addVenue_48 ?_
    refine J_iconst hx (1 : Int32) dX13_addVenue_51 rfl ?_
    refine J_iaW hx hW (rfl : kd 372 = 641) (by decide +kernel : idx (1 : Int32) 541 = some 1) dX13_addVenue_52 ?_
    refine J_bipush hx (8 : Int32) dX13_addVenue_53 rfl ?_
    refine J_icmp_ne hx 62 dX13_addVenue_55 rfl (fun h2 => ?_) (fun h2 => ?_)
    · replace h := neg h h2
      refine J_iconst hx (0 : Int32) dX13_addVenue_62 rfl ?_
      refine J_lw (ls' := [some (.ref (B.1 + 371)), some (.int l1), some (.int l2), some (.int l3), some (.int l4), none, none]) (lwS (lwS (lwS (lwS (lwS (lwN (lwN lwZ))))))) ?_
      exact tX13_addVenue_63 hx hr _ _ _ _ _ _  hW h
    · replace h := pos h h2
      refine J_iconst hx (2 : Int32) dX13_addVenue_58 rfl ?_
      refine J_goto hx 63 dX13_addVenue_59 rfl ?_
      refine J_lw (ls' := [some (.ref (B.1 + 371)), some (.int l1), some (.int l2), some (.int l3), some (.int l4), none, none]) (lwS (lwS (lwS (lwS (lwS (lwN (lwN lwZ))))))) ?_
      exact tX13_addVenue_63 hx hr _ _ _ _ _ _  hW h
  · replace h := pos h h1
    refine J_iconst hx (1 : Int32) dX13_addVenue_43 rfl ?_
    refine J_goto hx 63 dX13_addVenue_44 rfl ?_
    refine J_lw (ls' := [some (.ref (B.1 + 371)), some (.int l1), some (.int l2), some (.int l3), some (.int l4), none, none]) (lwS (lwS (lwS (lwS (lwS (lwN (lwN lwZ))))))) ?_
    exact tX13_addVenue_63 hx hr _ _ _ _ _ _  hW h
def sX13_addVenue (w : Wl) (l1 : Int32) (l2 : Int32) (l3 : Int32) (l4 : Int32) : Option (Int32 × Wl) := (sX13_isClimate w l1 l2).bind (fun r1 => (if r1 = true then (sX13_in w l3 (0 : Int32) (500 : Int32)).bind (fun r4 => (if r4 = true then (sX13_in w l4 (0 : Int32) (10000000 : Int32)).bind (fun r7 => (if r7 = true then sX13_addVenue_35 w l1 l2 l3 l4 (1 : Int32) else sX13_addVenue_35 w l1 l2 l3 l4 (0 : Int32))) else sX13_addVenue_35 w l1 l2 l3 l4 (0 : Int32))) else sX13_addVenue_35 w l1 l2 l3 l4 (0 : Int32)))
theorem kX13_addVenue {l : Launch} {Γ : Gl} {B : Bs} {w : Wl} {G : Gf} {sz : Nat} {l1 : Int32} {l2 : Int32} {l3 : Int32} {l4 : Int32} {r : (Int32 × Wl)} (hW : Wd Γ B w G) (h : sX13_addVenue w l1 l2 l3 l4 = some r) : CtW l Γ yX13_addVenue cX13_addVenue 7 (some .int) 2 [.ref (B.1 + 371), .int l1, .int l2, .int l3, .int l4] G sz B (some (.int (r.1))) r.2 := by
  refine Ct.of rfl (Nat.le_of_ble_eq_true rfl) fun X hx hr hl hΓ hnm => ?_
  subst hl hΓ
  show J X 7 G sz 0 0 0 [some (.ref (B.1 + 371)), some (.int l1), some (.int l2), some (.int l3), some (.int l4), none, none] []
  unfold sX13_addVenue at h
  refine J_il4 hx rfl rfl dX13_addVenue_0 ?_
  refine J_il4 hx rfl rfl dX13_addVenue_1 ?_
  obtain ⟨r1, hr2, h⟩ := bnd h
  refine J_rdS hx (kX13_isClimate  hW hr2) ml_X13_58 lk_X13_isClimate (rest := []) rfl rfl (by decide) (by decide) (Nat.le_of_ble_eq_true rfl) (Nat.le_refl 0) (Nat.le_refl 0) dX13_addVenue_2 ?_
  refine J_bif_eq hx 34 dX13_addVenue_5 rfl (fun h3 => ?_) (fun h3 => ?_)
  · replace h := neg h (bft h3)
    refine J_iconst hx (0 : Int32) dX13_addVenue_34 rfl ?_
    exact tX13_addVenue_35 hx hr _ _ _ _ _ _  hW h
  · replace h := pos h h3
    refine J_il4 hx rfl rfl dX13_addVenue_8 ?_
    refine J_iconst hx (0 : Int32) dX13_addVenue_9 rfl ?_
    refine J_sipush hx (500 : Int32) dX13_addVenue_10 rfl ?_
    obtain ⟨r4, hr5, h⟩ := bnd h
    refine J_rdS hx (kX13_in  hW hr5) ml_X13_32 lk_X13_in (rest := []) rfl rfl (by decide) (by decide) (Nat.le_of_ble_eq_true rfl) (Nat.le_refl 0) (Nat.le_refl 0) dX13_addVenue_13 ?_
    refine J_bif_eq hx 34 dX13_addVenue_16 rfl (fun h6 => ?_) (fun h6 => ?_)
    · replace h := neg h (bft h6)
      refine J_iconst hx (0 : Int32) dX13_addVenue_34 rfl ?_
      exact tX13_addVenue_35 hx hr _ _ _ _ _ _  hW h
    · replace h := pos h h6
      refine J_il hx rfl dX13_addVenue_19 ?_
      refine J_iconst hx (0 : Int32) dX13_addVenue_21 rfl ?_
      refine J_ldc hx cn_X13_61 dX13_addVenue_22 ?_
      obtain ⟨r7, hr8, h⟩ := bnd h
      refine J_rdS hx (kX13_in  hW hr8) ml_X13_32 lk_X13_in (rest := []) rfl rfl (by decide) (by decide) (Nat.le_of_ble_eq_true rfl) (Nat.le_refl 0) (Nat.le_refl 0) dX13_addVenue_24 ?_
      refine J_bif_eq hx 34 dX13_addVenue_27 rfl (fun h9 => ?_) (fun h9 => ?_)
      · replace h := neg h (bft h9)
        refine J_iconst hx (0 : Int32) dX13_addVenue_34 rfl ?_
        exact tX13_addVenue_35 hx hr _ _ _ _ _ _  hW h
      · replace h := pos h h9
        refine J_iconst hx (1 : Int32) dX13_addVenue_30 rfl ?_
        refine J_goto hx 35 dX13_addVenue_31 rfl ?_
        exact tX13_addVenue_35 hx hr _ _ _ _ _ _  hW h
theorem dX13_setClimate_0 : decode cX13_setClimate 0 = .ok (.aload_n 0, 1) := by decide +kernel
theorem dX13_setClimate_1 : decode cX13_setClimate 1 = .ok (.aload_n 0, 1) := by decide +kernel
theorem dX13_setClimate_2 : decode cX13_setClimate 2 = .ok (.iload_n 1, 1) := by decide +kernel
theorem dX13_setClimate_3 : decode cX13_setClimate 3 = .ok (.invokevirtual 65, 3) := by decide +kernel
theorem dX13_setClimate_6 : decode cX13_setClimate 6 = .ok (.ifCond .ne 7, 3) := by decide +kernel
theorem dX13_setClimate_9 : decode cX13_setClimate 9 = .ok (.iconst 1, 1) := by decide +kernel
theorem dX13_setClimate_10 : decode cX13_setClimate 10 = .ok (.goto 16, 3) := by decide +kernel
theorem dX13_setClimate_13 : decode cX13_setClimate 13 = .ok (.iload_n 2, 1) := by decide +kernel
theorem dX13_setClimate_14 : decode cX13_setClimate 14 = .ok (.iload_n 3, 1) := by decide +kernel
theorem dX13_setClimate_15 : decode cX13_setClimate 15 = .ok (.invokestatic 58, 3) := by decide +kernel
theorem dX13_setClimate_18 : decode cX13_setClimate 18 = .ok (.ifCond .eq 7, 3) := by decide +kernel
theorem dX13_setClimate_21 : decode cX13_setClimate 21 = .ok (.iconst 0, 1) := by decide +kernel
theorem dX13_setClimate_22 : decode cX13_setClimate 22 = .ok (.goto 4, 3) := by decide +kernel
theorem dX13_setClimate_25 : decode cX13_setClimate 25 = .ok (.iconst 2, 1) := by decide +kernel
theorem dX13_setClimate_26 : decode cX13_setClimate 26 = .ok (.putfield 25, 3) := by decide +kernel
theorem dX13_setClimate_29 : decode cX13_setClimate 29 = .ok (.aload_n 0, 1) := by decide +kernel
theorem dX13_setClimate_30 : decode cX13_setClimate 30 = .ok (.getfield 25, 3) := by decide +kernel
theorem dX13_setClimate_33 : decode cX13_setClimate 33 = .ok (.ifCond .eq 5, 3) := by decide +kernel
theorem dX13_setClimate_36 : decode cX13_setClimate 36 = .ok (.iconst 0, 1) := by decide +kernel
theorem dX13_setClimate_37 : decode cX13_setClimate 37 = .ok (.ireturn, 1) := by decide +kernel
theorem dX13_setClimate_38 : decode cX13_setClimate 38 = .ok (.aload_n 0, 1) := by decide +kernel
theorem dX13_setClimate_39 : decode cX13_setClimate 39 = .ok (.invokevirtual 62, 3) := by decide +kernel
theorem dX13_setClimate_42 : decode cX13_setClimate 42 = .ok (.bipush 9, 2) := by decide +kernel
theorem dX13_setClimate_44 : decode cX13_setClimate 44 = .ok (.bipush 13, 2) := by decide +kernel
theorem dX13_setClimate_46 : decode cX13_setClimate 46 = .ok (.iload_n 1, 1) := by decide +kernel
theorem dX13_setClimate_47 : decode cX13_setClimate 47 = .ok (.imul, 1) := by decide +kernel
theorem dX13_setClimate_48 : decode cX13_setClimate 48 = .ok (.iadd, 1) := by decide +kernel
theorem dX13_setClimate_49 : decode cX13_setClimate 49 = .ok (.istore 4, 2) := by decide +kernel
theorem dX13_setClimate_51 : decode cX13_setClimate 51 = .ok (.sipush 1000, 3) := by decide +kernel
theorem dX13_setClimate_54 : decode cX13_setClimate 54 = .ok (.aload_n 0, 1) := by decide +kernel
theorem dX13_setClimate_55 : decode cX13_setClimate 55 = .ok (.getfield 7, 3) := by decide +kernel
theorem dX13_setClimate_58 : decode cX13_setClimate 58 = .ok (.iload 4, 2) := by decide +kernel
theorem dX13_setClimate_60 : decode cX13_setClimate 60 = .ok (.iaload, 1) := by decide +kernel
theorem dX13_setClimate_61 : decode cX13_setClimate 61 = .ok (.imul, 1) := by decide +kernel
theorem dX13_setClimate_62 : decode cX13_setClimate 62 = .ok (.aload_n 0, 1) := by decide +kernel
theorem dX13_setClimate_63 : decode cX13_setClimate 63 = .ok (.getfield 7, 3) := by decide +kernel
theorem dX13_setClimate_66 : decode cX13_setClimate 66 = .ok (.iload 4, 2) := by decide +kernel
theorem dX13_setClimate_68 : decode cX13_setClimate 68 = .ok (.iconst 1, 1) := by decide +kernel
theorem dX13_setClimate_69 : decode cX13_setClimate 69 = .ok (.iadd, 1) := by decide +kernel
theorem dX13_setClimate_70 : decode cX13_setClimate 70 = .ok (.iaload, 1) := by decide +kernel
theorem dX13_setClimate_71 : decode cX13_setClimate 71 = .ok (.iadd, 1) := by decide +kernel
theorem dX13_setClimate_72 : decode cX13_setClimate 72 = .ok (.istore 5, 2) := by decide +kernel
theorem dX13_setClimate_74 : decode cX13_setClimate 74 = .ok (.aload_n 0, 1) := by decide +kernel
theorem dX13_setClimate_75 : decode cX13_setClimate 75 = .ok (.getfield 7, 3) := by decide +kernel
theorem dX13_setClimate_78 : decode cX13_setClimate 78 = .ok (.iload 4, 2) := by decide +kernel
theorem dX13_setClimate_80 : decode cX13_setClimate 80 = .ok (.iload_n 2, 1) := by decide +kernel
theorem dX13_setClimate_81 : decode cX13_setClimate 81 = .ok (.iastore, 1) := by decide +kernel
theorem dX13_setClimate_82 : decode cX13_setClimate 82 = .ok (.aload_n 0, 1) := by decide +kernel
theorem dX13_setClimate_83 : decode cX13_setClimate 83 = .ok (.getfield 7, 3) := by decide +kernel
theorem dX13_setClimate_86 : decode cX13_setClimate 86 = .ok (.iload 4, 2) := by decide +kernel
theorem dX13_setClimate_88 : decode cX13_setClimate 88 = .ok (.iconst 1, 1) := by decide +kernel
theorem dX13_setClimate_89 : decode cX13_setClimate 89 = .ok (.iadd, 1) := by decide +kernel
theorem dX13_setClimate_90 : decode cX13_setClimate 90 = .ok (.iload_n 3, 1) := by decide +kernel
theorem dX13_setClimate_91 : decode cX13_setClimate 91 = .ok (.iastore, 1) := by decide +kernel
theorem dX13_setClimate_92 : decode cX13_setClimate 92 = .ok (.iload 5, 2) := by decide +kernel
theorem dX13_setClimate_94 : decode cX13_setClimate 94 = .ok (.ireturn, 1) := by decide +kernel
def sX13_setClimate_26 (w : Wl) (l1 : Int32) (l2 : Int32) (l3 : Int32) (s1 : Int32) : Option (Int32 × Wl) := (if ((wst w 371 5 s1) 371 5) = 0 then (sX13_keep (wst w 371 5 s1) ).bind (fun r4 => (idx ((9 : Int32) + ((13 : Int32) * l1)) 541).bind (fun c8 => (idx (((9 : Int32) + ((13 : Int32) * l1)) + (1 : Int32)) 541).bind (fun c10 => some ((((1000 : Int32) * (r4 372 c8)) + (r4 372 c10)), (wst (wst r4 372 c8 l2) 372 c10 l3))))) else some ((0 : Int32), (wst w 371 5 s1)))
theorem tX13_setClimate_26 {X : Cx} {B : Bs} {sz : Nat} {r : (Int32 × Wl)} (hx : Fx X cX13_setClimate 6 RX13 2 0 0) (hr : Rt X (some .int) 0 0 (WΨ (xΓ X) B (some (.int (r.1))) r.2 sz)) : ∀ (w : Wl) (l1 : Int32) (l2 : Int32) (l3 : Int32) (s1 : Int32) {G : Gf} (hW : Wd (xΓ X) B w G) (h : sX13_setClimate_26  w l1 l2 l3 s1 = some r), J X 6 G sz 0 0 26 [some (.ref (B.1 + 371)), some (.int l1), some (.int l2), some (.int l3), none, none] [.int s1, .ref (B.1 + 371)] := by
  intro w l1 l2 l3 s1 G hW h
  unfold sX13_setClimate_26 at h
  refine p13_5 hx hW (rfl : kd 371 = 19) fl_X13_25 dX13_setClimate_26 fun G1 hW2 => ?_
  refine J_al4 hx rfl rfl dX13_setClimate_29 ?_
  refine g13_5 hx hW2 (rfl : kd 371 = 19) fl_X13_25 dX13_setClimate_30 ?_
  refine J_if_eq hx 38 dX13_setClimate_33 rfl (fun h3 => ?_) (fun h3 => ?_)
  · replace h := pos h h3
    refine J_al4 hx rfl rfl dX13_setClimate_38 ?_
    obtain ⟨r4, hr5, h⟩ := bnd h
    refine J_wrV hx (kX13_keep  hW2 hr5) ml_X13_62 lk_X13_keep (ci := 11) rfl (hW2.obj (rfl : kd 371 = 19) (by decide) (by decide)) (rest := []) rfl rfl (by decide) (by decide) (Nat.le_of_ble_eq_true rfl) (Nat.le_refl 0) (Nat.le_refl 0) dX13_setClimate_39 fun G6 hW7 => ?_
    show J X 6 G6 sz 0 0 42 [some (.ref (B.1 + 371)), some (.int l1), some (.int l2), some (.int l3), none, none] []
    refine J_bipush hx (9 : Int32) dX13_setClimate_42 rfl ?_
    refine J_bipush hx (13 : Int32) dX13_setClimate_44 rfl ?_
    refine J_il4 hx rfl rfl dX13_setClimate_46 ?_
    refine J_imul hx dX13_setClimate_47 ?_
    refine J_iadd hx dX13_setClimate_48 ?_
    refine J_is hx (by decide) (hc_of rfl) rfl dX13_setClimate_49 ?_
    refine J_sipush hx (1000 : Int32) dX13_setClimate_51 rfl ?_
    refine J_al4 hx rfl rfl dX13_setClimate_54 ?_
    refine g13_0 hx hW7 372 (rfl : kd 371 = 19) fl_X13_7 rfl dX13_setClimate_55 ?_
    refine J_il hx rfl dX13_setClimate_58 ?_
    obtain ⟨c8, hc9, h⟩ := bnd h
    refine J_iaW hx hW7 (rfl : kd 372 = 641) hc9 dX13_setClimate_60 ?_
    refine J_imul hx dX13_setClimate_61 ?_
    refine J_al4 hx rfl rfl dX13_setClimate_62 ?_
    refine g13_0 hx hW7 372 (rfl : kd 371 = 19) fl_X13_7 rfl dX13_setClimate_63 ?_
    refine J_il hx rfl dX13_setClimate_66 ?_
    refine J_iconst hx (1 : Int32) dX13_setClimate_68 rfl ?_
    refine J_iadd hx dX13_setClimate_69 ?_
    obtain ⟨c10, hc11, h⟩ := bnd h
    refine J_iaW hx hW7 (rfl : kd 372 = 641) hc11 dX13_setClimate_70 ?_
    refine J_iadd hx dX13_setClimate_71 ?_
    refine J_is hx (by decide) (hc_of rfl) rfl dX13_setClimate_72 ?_
    refine J_al4 hx rfl rfl dX13_setClimate_74 ?_
    refine g13_0 hx hW7 372 (rfl : kd 371 = 19) fl_X13_7 rfl dX13_setClimate_75 ?_
    refine J_il hx rfl dX13_setClimate_78 ?_
    refine J_il4 hx rfl rfl dX13_setClimate_80 ?_
    refine J_iaS hx hW7 (rfl : kd 372 = 641) hc9 dX13_setClimate_81 fun G12 hW13 => ?_
    refine J_al4 hx rfl rfl dX13_setClimate_82 ?_
    refine g13_0 hx hW13 372 (rfl : kd 371 = 19) fl_X13_7 rfl dX13_setClimate_83 ?_
    refine J_il hx rfl dX13_setClimate_86 ?_
    refine J_iconst hx (1 : Int32) dX13_setClimate_88 rfl ?_
    refine J_iadd hx dX13_setClimate_89 ?_
    refine J_il4 hx rfl rfl dX13_setClimate_90 ?_
    refine J_iaS hx hW13 (rfl : kd 372 = 641) hc11 dX13_setClimate_91 fun G14 hW15 => ?_
    refine J_il hx rfl dX13_setClimate_92 ?_
    obtain rfl := Option.some.inj h
    exact J_iretW hx hr hW15 dX13_setClimate_94 (Nat.le_refl 0) (Nat.le_refl 0)
  · replace h := neg h h3
    refine J_iconst hx (0 : Int32) dX13_setClimate_36 rfl ?_
    obtain rfl := Option.some.inj h
    exact J_iretW hx hr hW2 dX13_setClimate_37 (Nat.le_refl 0) (Nat.le_refl 0)
def sX13_setClimate (w : Wl) (l1 : Int32) (l2 : Int32) (l3 : Int32) : Option (Int32 × Wl) := (sX13_isVenue w l1).bind (fun r1 => (if r1 = true then (sX13_isClimate w l2 l3).bind (fun r4 => (if r4 = true then sX13_setClimate_26 w l1 l2 l3 (0 : Int32) else sX13_setClimate_26 w l1 l2 l3 (2 : Int32))) else sX13_setClimate_26 w l1 l2 l3 (1 : Int32)))
theorem kX13_setClimate {l : Launch} {Γ : Gl} {B : Bs} {w : Wl} {G : Gf} {sz : Nat} {l1 : Int32} {l2 : Int32} {l3 : Int32} {r : (Int32 × Wl)} (hW : Wd Γ B w G) (h : sX13_setClimate w l1 l2 l3 = some r) : CtW l Γ yX13_setClimate cX13_setClimate 6 (some .int) 2 [.ref (B.1 + 371), .int l1, .int l2, .int l3] G sz B (some (.int (r.1))) r.2 := by
  refine Ct.of rfl (Nat.le_of_ble_eq_true rfl) fun X hx hr hl hΓ hnm => ?_
  subst hl hΓ
  show J X 6 G sz 0 0 0 [some (.ref (B.1 + 371)), some (.int l1), some (.int l2), some (.int l3), none, none] []
  unfold sX13_setClimate at h
  refine J_al4 hx rfl rfl dX13_setClimate_0 ?_
  refine J_al4 hx rfl rfl dX13_setClimate_1 ?_
  refine J_il4 hx rfl rfl dX13_setClimate_2 ?_
  obtain ⟨r1, hr2, h⟩ := bnd h
  refine J_rdV hx (kX13_isVenue  hW hr2) ml_X13_65 lk_X13_isVenue (ci := 11) rfl (hW.obj (rfl : kd 371 = 19) (by decide) (by decide)) (rest := [.ref (B.1 + 371)]) rfl rfl (by decide) (by decide) (Nat.le_of_ble_eq_true rfl) (Nat.le_refl 0) (Nat.le_refl 0) dX13_setClimate_3 ?_
  refine J_bif_ne hx 13 dX13_setClimate_6 rfl (fun h3 => ?_) (fun h3 => ?_)
  · replace h := pos h h3
    refine J_il4 hx rfl rfl dX13_setClimate_13 ?_
    refine J_il4 hx rfl rfl dX13_setClimate_14 ?_
    obtain ⟨r4, hr5, h⟩ := bnd h
    refine J_rdS hx (kX13_isClimate  hW hr5) ml_X13_58 lk_X13_isClimate (rest := [.ref (B.1 + 371)]) rfl rfl (by decide) (by decide) (Nat.le_of_ble_eq_true rfl) (Nat.le_refl 0) (Nat.le_refl 0) dX13_setClimate_15 ?_
    refine J_bif_eq hx 25 dX13_setClimate_18 rfl (fun h6 => ?_) (fun h6 => ?_)
    · replace h := neg h (bft h6)
      refine J_iconst hx (2 : Int32) dX13_setClimate_25 rfl ?_
      exact tX13_setClimate_26 hx hr _ _ _ _ _  hW h
    · replace h := pos h h6
      refine J_iconst hx (0 : Int32) dX13_setClimate_21 rfl ?_
      refine J_goto hx 26 dX13_setClimate_22 rfl ?_
      exact tX13_setClimate_26 hx hr _ _ _ _ _  hW h
  · replace h := neg h (bft h3)
    refine J_iconst hx (1 : Int32) dX13_setClimate_9 rfl ?_
    refine J_goto hx 26 dX13_setClimate_10 rfl ?_
    exact tX13_setClimate_26 hx hr _ _ _ _ _  hW h
theorem dX13_setWay_0 : decode cX13_setWay 0 = .ok (.aload_n 0, 1) := by decide +kernel
theorem dX13_setWay_1 : decode cX13_setWay 1 = .ok (.aload_n 0, 1) := by decide +kernel
theorem dX13_setWay_2 : decode cX13_setWay 2 = .ok (.iload_n 1, 1) := by decide +kernel
theorem dX13_setWay_3 : decode cX13_setWay 3 = .ok (.invokevirtual 65, 3) := by decide +kernel
theorem dX13_setWay_6 : decode cX13_setWay 6 = .ok (.ifCond .eq 11, 3) := by decide +kernel
theorem dX13_setWay_9 : decode cX13_setWay 9 = .ok (.aload_n 0, 1) := by decide +kernel
theorem dX13_setWay_10 : decode cX13_setWay 10 = .ok (.iload_n 2, 1) := by decide +kernel
theorem dX13_setWay_11 : decode cX13_setWay 11 = .ok (.invokevirtual 65, 3) := by decide +kernel
theorem dX13_setWay_14 : decode cX13_setWay 14 = .ok (.ifCond .ne 7, 3) := by decide +kernel
theorem dX13_setWay_17 : decode cX13_setWay 17 = .ok (.iconst 1, 1) := by decide +kernel
theorem dX13_setWay_18 : decode cX13_setWay 18 = .ok (.goto 24, 3) := by decide +kernel
theorem dX13_setWay_21 : decode cX13_setWay 21 = .ok (.iload_n 1, 1) := by decide +kernel
theorem dX13_setWay_22 : decode cX13_setWay 22 = .ok (.iload_n 2, 1) := by decide +kernel
theorem dX13_setWay_23 : decode cX13_setWay 23 = .ok (.if_icmp .eq 14, 3) := by decide +kernel
theorem dX13_setWay_26 : decode cX13_setWay 26 = .ok (.iload_n 3, 1) := by decide +kernel
theorem dX13_setWay_27 : decode cX13_setWay 27 = .ok (.iconst 0, 1) := by decide +kernel
theorem dX13_setWay_28 : decode cX13_setWay 28 = .ok (.sipush 200, 3) := by decide +kernel
theorem dX13_setWay_31 : decode cX13_setWay 31 = .ok (.invokestatic 32, 3) := by decide +kernel
theorem dX13_setWay_34 : decode cX13_setWay 34 = .ok (.ifCond .ne 7, 3) := by decide +kernel
theorem dX13_setWay_37 : decode cX13_setWay 37 = .ok (.iconst 2, 1) := by decide +kernel
theorem dX13_setWay_38 : decode cX13_setWay 38 = .ok (.goto 4, 3) := by decide +kernel
theorem dX13_setWay_41 : decode cX13_setWay 41 = .ok (.iconst 0, 1) := by decide +kernel
theorem dX13_setWay_42 : decode cX13_setWay 42 = .ok (.putfield 25, 3) := by decide +kernel
theorem dX13_setWay_45 : decode cX13_setWay 45 = .ok (.aload_n 0, 1) := by decide +kernel
theorem dX13_setWay_46 : decode cX13_setWay 46 = .ok (.getfield 25, 3) := by decide +kernel
theorem dX13_setWay_49 : decode cX13_setWay 49 = .ok (.ifCond .eq 5, 3) := by decide +kernel
theorem dX13_setWay_52 : decode cX13_setWay 52 = .ok (.iconst 0, 1) := by decide +kernel
theorem dX13_setWay_53 : decode cX13_setWay 53 = .ok (.ireturn, 1) := by decide +kernel
theorem dX13_setWay_54 : decode cX13_setWay 54 = .ok (.aload_n 0, 1) := by decide +kernel
theorem dX13_setWay_55 : decode cX13_setWay 55 = .ok (.invokevirtual 62, 3) := by decide +kernel
theorem dX13_setWay_58 : decode cX13_setWay 58 = .ok (.aload_n 0, 1) := by decide +kernel
theorem dX13_setWay_59 : decode cX13_setWay 59 = .ok (.iload_n 1, 1) := by decide +kernel
theorem dX13_setWay_60 : decode cX13_setWay 60 = .ok (.iconst 5, 1) := by decide +kernel
theorem dX13_setWay_61 : decode cX13_setWay 61 = .ok (.iload_n 2, 1) := by decide +kernel
theorem dX13_setWay_62 : decode cX13_setWay 62 = .ok (.iadd, 1) := by decide +kernel
theorem dX13_setWay_63 : decode cX13_setWay 63 = .ok (.invokevirtual 68, 3) := by decide +kernel
theorem dX13_setWay_66 : decode cX13_setWay 66 = .ok (.istore 4, 2) := by decide +kernel
theorem dX13_setWay_68 : decode cX13_setWay 68 = .ok (.aload_n 0, 1) := by decide +kernel
theorem dX13_setWay_69 : decode cX13_setWay 69 = .ok (.getfield 7, 3) := by decide +kernel
theorem dX13_setWay_72 : decode cX13_setWay 72 = .ok (.bipush 9, 2) := by decide +kernel
theorem dX13_setWay_74 : decode cX13_setWay 74 = .ok (.bipush 13, 2) := by decide +kernel
theorem dX13_setWay_76 : decode cX13_setWay 76 = .ok (.iload_n 1, 1) := by decide +kernel
theorem dX13_setWay_77 : decode cX13_setWay 77 = .ok (.imul, 1) := by decide +kernel
theorem dX13_setWay_78 : decode cX13_setWay 78 = .ok (.iadd, 1) := by decide +kernel
theorem dX13_setWay_79 : decode cX13_setWay 79 = .ok (.iconst 5, 1) := by decide +kernel
theorem dX13_setWay_80 : decode cX13_setWay 80 = .ok (.iadd, 1) := by decide +kernel
theorem dX13_setWay_81 : decode cX13_setWay 81 = .ok (.iload_n 2, 1) := by decide +kernel
theorem dX13_setWay_82 : decode cX13_setWay 82 = .ok (.iadd, 1) := by decide +kernel
theorem dX13_setWay_83 : decode cX13_setWay 83 = .ok (.iload_n 3, 1) := by decide +kernel
theorem dX13_setWay_84 : decode cX13_setWay 84 = .ok (.iastore, 1) := by decide +kernel
theorem dX13_setWay_85 : decode cX13_setWay 85 = .ok (.aload_n 0, 1) := by decide +kernel
theorem dX13_setWay_86 : decode cX13_setWay 86 = .ok (.getfield 7, 3) := by decide +kernel
theorem dX13_setWay_89 : decode cX13_setWay 89 = .ok (.bipush 9, 2) := by decide +kernel
theorem dX13_setWay_91 : decode cX13_setWay 91 = .ok (.bipush 13, 2) := by decide +kernel
theorem dX13_setWay_93 : decode cX13_setWay 93 = .ok (.iload_n 2, 1) := by decide +kernel
theorem dX13_setWay_94 : decode cX13_setWay 94 = .ok (.imul, 1) := by decide +kernel
theorem dX13_setWay_95 : decode cX13_setWay 95 = .ok (.iadd, 1) := by decide +kernel
theorem dX13_setWay_96 : decode cX13_setWay 96 = .ok (.iconst 5, 1) := by decide +kernel
theorem dX13_setWay_97 : decode cX13_setWay 97 = .ok (.iadd, 1) := by decide +kernel
theorem dX13_setWay_98 : decode cX13_setWay 98 = .ok (.iload_n 1, 1) := by decide +kernel
theorem dX13_setWay_99 : decode cX13_setWay 99 = .ok (.iadd, 1) := by decide +kernel
theorem dX13_setWay_100 : decode cX13_setWay 100 = .ok (.iload_n 3, 1) := by decide +kernel
theorem dX13_setWay_101 : decode cX13_setWay 101 = .ok (.iastore, 1) := by decide +kernel
theorem dX13_setWay_102 : decode cX13_setWay 102 = .ok (.iload 4, 2) := by decide +kernel
theorem dX13_setWay_104 : decode cX13_setWay 104 = .ok (.ireturn, 1) := by decide +kernel
def sX13_setWay_42 (w : Wl) (l1 : Int32) (l2 : Int32) (l3 : Int32) (s1 : Int32) : Option (Int32 × Wl) := (if ((wst w 371 5 s1) 371 5) = 0 then (sX13_keep (wst w 371 5 s1) ).bind (fun r4 => (sX13_ofVenue r4 l1 ((5 : Int32) + l2)).bind (fun r8 => (idx ((((9 : Int32) + ((13 : Int32) * l1)) + (5 : Int32)) + l2) 541).bind (fun c10 => (idx ((((9 : Int32) + ((13 : Int32) * l2)) + (5 : Int32)) + l1) 541).bind (fun c14 => some (r8, (wst (wst r4 372 c10 l3) 372 c14 l3)))))) else some ((0 : Int32), (wst w 371 5 s1)))
theorem tX13_setWay_42 {X : Cx} {B : Bs} {sz : Nat} {r : (Int32 × Wl)} (hx : Fx X cX13_setWay 5 RX13 2 0 0) (hr : Rt X (some .int) 0 0 (WΨ (xΓ X) B (some (.int (r.1))) r.2 sz)) : ∀ (w : Wl) (l1 : Int32) (l2 : Int32) (l3 : Int32) (s1 : Int32) {G : Gf} (hW : Wd (xΓ X) B w G) (h : sX13_setWay_42  w l1 l2 l3 s1 = some r), J X 5 G sz 0 0 42 [some (.ref (B.1 + 371)), some (.int l1), some (.int l2), some (.int l3), none] [.int s1, .ref (B.1 + 371)] := by
  intro w l1 l2 l3 s1 G hW h
  unfold sX13_setWay_42 at h
  refine p13_5 hx hW (rfl : kd 371 = 19) fl_X13_25 dX13_setWay_42 fun G1 hW2 => ?_
  refine J_al4 hx rfl rfl dX13_setWay_45 ?_
  refine g13_5 hx hW2 (rfl : kd 371 = 19) fl_X13_25 dX13_setWay_46 ?_
  refine J_if_eq hx 54 dX13_setWay_49 rfl (fun h3 => ?_) (fun h3 => ?_)
  · replace h := pos h h3
    refine J_al4 hx rfl rfl dX13_setWay_54 ?_
    obtain ⟨r4, hr5, h⟩ := bnd h
    refine J_wrV hx (kX13_keep  hW2 hr5) ml_X13_62 lk_X13_keep (ci := 11) rfl (hW2.obj (rfl : kd 371 = 19) (by decide) (by decide)) (rest := []) rfl rfl (by decide) (by decide) (Nat.le_of_ble_eq_true rfl) (Nat.le_refl 0) (Nat.le_refl 0) dX13_setWay_55 fun G6 hW7 => ?_
    show J X 5 G6 sz 0 0 58 [some (.ref (B.1 + 371)), some (.int l1), some (.int l2), some (.int l3), none] []
    refine J_al4 hx rfl rfl dX13_setWay_58 ?_
    refine J_il4 hx rfl rfl dX13_setWay_59 ?_
    refine J_iconst hx (5 : Int32) dX13_setWay_60 rfl ?_
    refine J_il4 hx rfl rfl dX13_setWay_61 ?_
    refine J_iadd hx dX13_setWay_62 ?_
    obtain ⟨r8, hr9, h⟩ := bnd h
    refine J_rdV hx (kX13_ofVenue  hW7 hr9) ml_X13_68 lk_X13_ofVenue (ci := 11) rfl (hW7.obj (rfl : kd 371 = 19) (by decide) (by decide)) (rest := []) rfl rfl (by decide) (by decide) (Nat.le_of_ble_eq_true rfl) (Nat.le_refl 0) (Nat.le_refl 0) dX13_setWay_63 ?_
    refine J_is hx (by decide) (hc_of rfl) rfl dX13_setWay_66 ?_
    refine J_al4 hx rfl rfl dX13_setWay_68 ?_
    refine g13_0 hx hW7 372 (rfl : kd 371 = 19) fl_X13_7 rfl dX13_setWay_69 ?_
    refine J_bipush hx (9 : Int32) dX13_setWay_72 rfl ?_
    refine J_bipush hx (13 : Int32) dX13_setWay_74 rfl ?_
    refine J_il4 hx rfl rfl dX13_setWay_76 ?_
    refine J_imul hx dX13_setWay_77 ?_
    refine J_iadd hx dX13_setWay_78 ?_
    refine J_iconst hx (5 : Int32) dX13_setWay_79 rfl ?_
    refine J_iadd hx dX13_setWay_80 ?_
    refine J_il4 hx rfl rfl dX13_setWay_81 ?_
    refine J_iadd hx dX13_setWay_82 ?_
    refine J_il4 hx rfl rfl dX13_setWay_83 ?_
    obtain ⟨c10, hc11, h⟩ := bnd h
    refine J_iaS hx hW7 (rfl : kd 372 = 641) hc11 dX13_setWay_84 fun G12 hW13 => ?_
    refine J_al4 hx rfl rfl dX13_setWay_85 ?_
    refine g13_0 hx hW13 372 (rfl : kd 371 = 19) fl_X13_7 rfl dX13_setWay_86 ?_
    refine J_bipush hx (9 : Int32) dX13_setWay_89 rfl ?_
    refine J_bipush hx (13 : Int32) dX13_setWay_91 rfl ?_
    refine J_il4 hx rfl rfl dX13_setWay_93 ?_
    refine J_imul hx dX13_setWay_94 ?_
    refine J_iadd hx dX13_setWay_95 ?_
    refine J_iconst hx (5 : Int32) dX13_setWay_96 rfl ?_
    refine J_iadd hx dX13_setWay_97 ?_
    refine J_il4 hx rfl rfl dX13_setWay_98 ?_
    refine J_iadd hx dX13_setWay_99 ?_
    refine J_il4 hx rfl rfl dX13_setWay_100 ?_
    obtain ⟨c14, hc15, h⟩ := bnd h
    refine J_iaS hx hW13 (rfl : kd 372 = 641) hc15 dX13_setWay_101 fun G16 hW17 => ?_
    refine J_il hx rfl dX13_setWay_102 ?_
    obtain rfl := Option.some.inj h
    exact J_iretW hx hr hW17 dX13_setWay_104 (Nat.le_refl 0) (Nat.le_refl 0)
  · replace h := neg h h3
    refine J_iconst hx (0 : Int32) dX13_setWay_52 rfl ?_
    obtain rfl := Option.some.inj h
    exact J_iretW hx hr hW2 dX13_setWay_53 (Nat.le_refl 0) (Nat.le_refl 0)
def sX13_setWay (w : Wl) (l1 : Int32) (l2 : Int32) (l3 : Int32) : Option (Int32 × Wl) := (sX13_isVenue w l1).bind (fun r1 => (if r1 = true then (sX13_isVenue w l2).bind (fun r4 => (if r4 = true then (if l1 = l2 then sX13_setWay_42 w l1 l2 l3 (2 : Int32) else (sX13_in w l3 (0 : Int32) (200 : Int32)).bind (fun r8 => (if r8 = true then sX13_setWay_42 w l1 l2 l3 (0 : Int32) else sX13_setWay_42 w l1 l2 l3 (2 : Int32)))) else sX13_setWay_42 w l1 l2 l3 (1 : Int32))) else sX13_setWay_42 w l1 l2 l3 (1 : Int32)))
theorem kX13_setWay {l : Launch} {Γ : Gl} {B : Bs} {w : Wl} {G : Gf} {sz : Nat} {l1 : Int32} {l2 : Int32} {l3 : Int32} {r : (Int32 × Wl)} (hW : Wd Γ B w G) (h : sX13_setWay w l1 l2 l3 = some r) : CtW l Γ yX13_setWay cX13_setWay 5 (some .int) 2 [.ref (B.1 + 371), .int l1, .int l2, .int l3] G sz B (some (.int (r.1))) r.2 := by
  refine Ct.of rfl (Nat.le_of_ble_eq_true rfl) fun X hx hr hl hΓ hnm => ?_
  subst hl hΓ
  show J X 5 G sz 0 0 0 [some (.ref (B.1 + 371)), some (.int l1), some (.int l2), some (.int l3), none] []
  unfold sX13_setWay at h
  refine J_al4 hx rfl rfl dX13_setWay_0 ?_
  refine J_al4 hx rfl rfl dX13_setWay_1 ?_
  refine J_il4 hx rfl rfl dX13_setWay_2 ?_
  obtain ⟨r1, hr2, h⟩ := bnd h
  refine J_rdV hx (kX13_isVenue  hW hr2) ml_X13_65 lk_X13_isVenue (ci := 11) rfl (hW.obj (rfl : kd 371 = 19) (by decide) (by decide)) (rest := [.ref (B.1 + 371)]) rfl rfl (by decide) (by decide) (Nat.le_of_ble_eq_true rfl) (Nat.le_refl 0) (Nat.le_refl 0) dX13_setWay_3 ?_
  refine J_bif_eq hx 17 dX13_setWay_6 rfl (fun h3 => ?_) (fun h3 => ?_)
  · replace h := neg h (bft h3)
    refine J_iconst hx (1 : Int32) dX13_setWay_17 rfl ?_
    refine J_goto hx 42 dX13_setWay_18 rfl ?_
    exact tX13_setWay_42 hx hr _ _ _ _ _  hW h
  · replace h := pos h h3
    refine J_al4 hx rfl rfl dX13_setWay_9 ?_
    refine J_il4 hx rfl rfl dX13_setWay_10 ?_
    obtain ⟨r4, hr5, h⟩ := bnd h
    refine J_rdV hx (kX13_isVenue  hW hr5) ml_X13_65 lk_X13_isVenue (ci := 11) rfl (hW.obj (rfl : kd 371 = 19) (by decide) (by decide)) (rest := [.ref (B.1 + 371)]) rfl rfl (by decide) (by decide) (Nat.le_of_ble_eq_true rfl) (Nat.le_refl 0) (Nat.le_refl 0) dX13_setWay_11 ?_
    refine J_bif_ne hx 21 dX13_setWay_14 rfl (fun h6 => ?_) (fun h6 => ?_)
    · replace h := pos h h6
      refine J_il4 hx rfl rfl dX13_setWay_21 ?_
      refine J_il4 hx rfl rfl dX13_setWay_22 ?_
      refine J_icmp_eq hx 37 dX13_setWay_23 rfl (fun h7 => ?_) (fun h7 => ?_)
      · replace h := pos h h7
        refine J_iconst hx (2 : Int32) dX13_setWay_37 rfl ?_
        refine J_goto hx 42 dX13_setWay_38 rfl ?_
        exact tX13_setWay_42 hx hr _ _ _ _ _  hW h
      · replace h := neg h h7
        refine J_il4 hx rfl rfl dX13_setWay_26 ?_
        refine J_iconst hx (0 : Int32) dX13_setWay_27 rfl ?_
        refine J_sipush hx (200 : Int32) dX13_setWay_28 rfl ?_
        obtain ⟨r8, hr9, h⟩ := bnd h
        refine J_rdS hx (kX13_in  hW hr9) ml_X13_32 lk_X13_in (rest := [.ref (B.1 + 371)]) rfl rfl (by decide) (by decide) (Nat.le_of_ble_eq_true rfl) (Nat.le_refl 0) (Nat.le_refl 0) dX13_setWay_31 ?_
        refine J_bif_ne hx 41 dX13_setWay_34 rfl (fun h10 => ?_) (fun h10 => ?_)
        · replace h := pos h h10
          refine J_iconst hx (0 : Int32) dX13_setWay_41 rfl ?_
          exact tX13_setWay_42 hx hr _ _ _ _ _  hW h
        · replace h := neg h (bft h10)
          refine J_iconst hx (2 : Int32) dX13_setWay_37 rfl ?_
          refine J_goto hx 42 dX13_setWay_38 rfl ?_
          exact tX13_setWay_42 hx hr _ _ _ _ _  hW h
    · replace h := neg h (bft h6)
      refine J_iconst hx (1 : Int32) dX13_setWay_17 rfl ?_
      refine J_goto hx 42 dX13_setWay_18 rfl ?_
      exact tX13_setWay_42 hx hr _ _ _ _ _  hW h
theorem dX13_isLent_0 : decode cX13_isLent 0 = .ok (.iload_n 0, 1) := by decide +kernel
theorem dX13_isLent_1 : decode cX13_isLent 1 = .ok (.tableswitch 58 0 3 #[31, 31, 40, 49], 31) := by decide +kernel
theorem dX13_isLent_32 : decode cX13_isLent 32 = .ok (.iload_n 1, 1) := by decide +kernel
theorem dX13_isLent_33 : decode cX13_isLent 33 = .ok (.bipush (-10), 2) := by decide +kernel
theorem dX13_isLent_35 : decode cX13_isLent 35 = .ok (.bipush 40, 2) := by decide +kernel
theorem dX13_isLent_37 : decode cX13_isLent 37 = .ok (.invokestatic 32, 3) := by decide +kernel
theorem dX13_isLent_40 : decode cX13_isLent 40 = .ok (.ireturn, 1) := by decide +kernel
theorem dX13_isLent_41 : decode cX13_isLent 41 = .ok (.iload_n 1, 1) := by decide +kernel
theorem dX13_isLent_42 : decode cX13_isLent 42 = .ok (.bipush 20, 2) := by decide +kernel
theorem dX13_isLent_44 : decode cX13_isLent 44 = .ok (.bipush 90, 2) := by decide +kernel
theorem dX13_isLent_46 : decode cX13_isLent 46 = .ok (.invokestatic 32, 3) := by decide +kernel
theorem dX13_isLent_49 : decode cX13_isLent 49 = .ok (.ireturn, 1) := by decide +kernel
theorem dX13_isLent_50 : decode cX13_isLent 50 = .ok (.iload_n 1, 1) := by decide +kernel
theorem dX13_isLent_51 : decode cX13_isLent 51 = .ok (.iconst 0, 1) := by decide +kernel
theorem dX13_isLent_52 : decode cX13_isLent 52 = .ok (.sipush 255, 3) := by decide +kernel
theorem dX13_isLent_55 : decode cX13_isLent 55 = .ok (.invokestatic 32, 3) := by decide +kernel
theorem dX13_isLent_58 : decode cX13_isLent 58 = .ok (.ireturn, 1) := by decide +kernel
theorem dX13_isLent_59 : decode cX13_isLent 59 = .ok (.iconst 0, 1) := by decide +kernel
theorem dX13_isLent_60 : decode cX13_isLent 60 = .ok (.ireturn, 1) := by decide +kernel
def sX13_isLent (w : Wl) (l0 : Int32) (l1 : Int32) : Option Bool := (if l0 = 0 then (sX13_in w l1 (-10 : Int32) (40 : Int32)).bind (fun r2 => some r2) else (if l0 = 1 then (sX13_in w l1 (-10 : Int32) (40 : Int32)).bind (fun r5 => some r5) else (if l0 = 2 then (sX13_in w l1 (20 : Int32) (90 : Int32)).bind (fun r8 => some r8) else (if l0 = 3 then (sX13_in w l1 (0 : Int32) (255 : Int32)).bind (fun r11 => some r11) else some false))))
theorem kX13_isLent {l : Launch} {Γ : Gl} {B : Bs} {w : Wl} {G : Gf} {sz : Nat} {l0 : Int32} {l1 : Int32} {r : Bool} (hW : Wd Γ B w G) (h : sX13_isLent w l0 l1 = some r) : CtR l Γ yX13_isLent cX13_isLent 2 (some .boolean) 1 [.int l0, .int l1] G sz (.int (bI r)) := by
  refine Ct.of rfl (Nat.le_of_ble_eq_true rfl) fun X hx hr hl hΓ hnm => ?_
  subst hl hΓ
  show J X 2 G sz 0 0 0 [some (.int l0), some (.int l1)] []
  unfold sX13_isLent at h
  refine J_il4 hx rfl rfl dX13_isLent_0 ?_
  by_cases h1 : l0 = 0
  · replace h := pos h h1
    refine J_swIn hx 32 dX13_isLent_1 (by rw [h1]; decide) (by rw [h1]; decide) (by rw [h1]; rfl) rfl ?_
    refine J_il4 hx rfl rfl dX13_isLent_32 ?_
    refine J_bipush hx (-10 : Int32) dX13_isLent_33 rfl ?_
    refine J_bipush hx (40 : Int32) dX13_isLent_35 rfl ?_
    obtain ⟨r2, hr3, h⟩ := bnd h
    refine J_rdS hx (kX13_in  hW hr3) ml_X13_32 lk_X13_in (rest := []) rfl rfl (by decide) (by decide) (Nat.le_of_ble_eq_true rfl) (Nat.le_refl 0) (Nat.le_refl 0) dX13_isLent_37 ?_
    exact J_zretR hx hr dX13_isLent_40 (Nat.le_refl 0) (Nat.le_refl 0) (show (bI r2) = bI _ from congrArg bI (Option.some.inj h))
  replace h := neg h h1
  by_cases h4 : l0 = 1
  · replace h := pos h h4
    refine J_swIn hx 32 dX13_isLent_1 (by rw [h4]; decide) (by rw [h4]; decide) (by rw [h4]; rfl) rfl ?_
    refine J_il4 hx rfl rfl dX13_isLent_32 ?_
    refine J_bipush hx (-10 : Int32) dX13_isLent_33 rfl ?_
    refine J_bipush hx (40 : Int32) dX13_isLent_35 rfl ?_
    obtain ⟨r5, hr6, h⟩ := bnd h
    refine J_rdS hx (kX13_in  hW hr6) ml_X13_32 lk_X13_in (rest := []) rfl rfl (by decide) (by decide) (Nat.le_of_ble_eq_true rfl) (Nat.le_refl 0) (Nat.le_refl 0) dX13_isLent_37 ?_
    exact J_zretR hx hr dX13_isLent_40 (Nat.le_refl 0) (Nat.le_refl 0) (show (bI r5) = bI _ from congrArg bI (Option.some.inj h))
  replace h := neg h h4
  by_cases h7 : l0 = 2
  · replace h := pos h h7
    refine J_swIn hx 41 dX13_isLent_1 (by rw [h7]; decide) (by rw [h7]; decide) (by rw [h7]; rfl) rfl ?_
    refine J_il4 hx rfl rfl dX13_isLent_41 ?_
    refine J_bipush hx (20 : Int32) dX13_isLent_42 rfl ?_
    refine J_bipush hx (90 : Int32) dX13_isLent_44 rfl ?_
    obtain ⟨r8, hr9, h⟩ := bnd h
    refine J_rdS hx (kX13_in  hW hr9) ml_X13_32 lk_X13_in (rest := []) rfl rfl (by decide) (by decide) (Nat.le_of_ble_eq_true rfl) (Nat.le_refl 0) (Nat.le_refl 0) dX13_isLent_46 ?_
    exact J_zretR hx hr dX13_isLent_49 (Nat.le_refl 0) (Nat.le_refl 0) (show (bI r8) = bI _ from congrArg bI (Option.some.inj h))
  replace h := neg h h7
  by_cases h10 : l0 = 3
  · replace h := pos h h10
    refine J_swIn hx 50 dX13_isLent_1 (by rw [h10]; decide) (by rw [h10]; decide) (by rw [h10]; rfl) rfl ?_
    refine J_il4 hx rfl rfl dX13_isLent_50 ?_
    refine J_iconst hx (0 : Int32) dX13_isLent_51 rfl ?_
    refine J_sipush hx (255 : Int32) dX13_isLent_52 rfl ?_
    obtain ⟨r11, hr12, h⟩ := bnd h
    refine J_rdS hx (kX13_in  hW hr12) ml_X13_32 lk_X13_in (rest := []) rfl rfl (by decide) (by decide) (Nat.le_of_ble_eq_true rfl) (Nat.le_refl 0) (Nat.le_refl 0) dX13_isLent_55 ?_
    exact J_zretR hx hr dX13_isLent_58 (Nat.le_refl 0) (Nat.le_refl 0) (show (bI r11) = bI _ from congrArg bI (Option.some.inj h))
  replace h := neg h h10
  refine J_swOut hx 59 dX13_isLent_1 (swD fun j jl jh e => by
      have hj : j = 0 ∨ j = 1 ∨ j = 2 ∨ j = 3 := by omega
      rcases hj with rfl | rfl | rfl | rfl <;> first | exact h1 e | exact h4 e | exact h7 e | exact h10 e) rfl ?_
  refine J_iconst hx (0 : Int32) dX13_isLent_59 rfl ?_
  exact J_zretR hx hr dX13_isLent_60 (Nat.le_refl 0) (Nat.le_refl 0) (show (0 : Int32) = bI _ from congrArg bI (Option.some.inj h))
theorem dX13_setLender_0 : decode cX13_setLender 0 = .ok (.aload_n 0, 1) := by decide +kernel
theorem dX13_setLender_1 : decode cX13_setLender 1 = .ok (.iload_n 1, 1) := by decide +kernel
theorem dX13_setLender_2 : decode cX13_setLender 2 = .ok (.iconst 0, 1) := by decide +kernel
theorem dX13_setLender_3 : decode cX13_setLender 3 = .ok (.iconst 5, 1) := by decide +kernel
theorem dX13_setLender_4 : decode cX13_setLender 4 = .ok (.invokestatic 32, 3) := by decide +kernel
theorem dX13_setLender_7 : decode cX13_setLender 7 = .ok (.ifCond .eq 15, 3) := by decide +kernel
theorem dX13_setLender_10 : decode cX13_setLender 10 = .ok (.iload_n 2, 1) := by decide +kernel
theorem dX13_setLender_11 : decode cX13_setLender 11 = .ok (.iload_n 3, 1) := by decide +kernel
theorem dX13_setLender_12 : decode cX13_setLender 12 = .ok (.invokestatic 71, 3) := by decide +kernel
theorem dX13_setLender_15 : decode cX13_setLender 15 = .ok (.ifCond .eq 7, 3) := by decide +kernel
theorem dX13_setLender_18 : decode cX13_setLender 18 = .ok (.iconst 0, 1) := by decide +kernel
theorem dX13_setLender_19 : decode cX13_setLender 19 = .ok (.goto 4, 3) := by decide +kernel
theorem dX13_setLender_22 : decode cX13_setLender 22 = .ok (.iconst 1, 1) := by decide +kernel
theorem dX13_setLender_23 : decode cX13_setLender 23 = .ok (.putfield 25, 3) := by decide +kernel
theorem dX13_setLender_26 : decode cX13_setLender 26 = .ok (.aload_n 0, 1) := by decide +kernel
theorem dX13_setLender_27 : decode cX13_setLender 27 = .ok (.getfield 25, 3) := by decide +kernel
theorem dX13_setLender_30 : decode cX13_setLender 30 = .ok (.ifCond .eq 5, 3) := by decide +kernel
theorem dX13_setLender_33 : decode cX13_setLender 33 = .ok (.iconst 0, 1) := by decide +kernel
theorem dX13_setLender_34 : decode cX13_setLender 34 = .ok (.ireturn, 1) := by decide +kernel
theorem dX13_setLender_35 : decode cX13_setLender 35 = .ok (.aload_n 0, 1) := by decide +kernel
theorem dX13_setLender_36 : decode cX13_setLender 36 = .ok (.invokevirtual 62, 3) := by decide +kernel
theorem dX13_setLender_39 : decode cX13_setLender 39 = .ok (.aload_n 0, 1) := by decide +kernel
theorem dX13_setLender_40 : decode cX13_setLender 40 = .ok (.getfield 7, 3) := by decide +kernel
theorem dX13_setLender_43 : decode cX13_setLender 43 = .ok (.bipush 113, 2) := by decide +kernel
theorem dX13_setLender_45 : decode cX13_setLender 45 = .ok (.iconst 4, 1) := by decide +kernel
theorem dX13_setLender_46 : decode cX13_setLender 46 = .ok (.iload_n 1, 1) := by decide +kernel
theorem dX13_setLender_47 : decode cX13_setLender 47 = .ok (.imul, 1) := by decide +kernel
theorem dX13_setLender_48 : decode cX13_setLender 48 = .ok (.iadd, 1) := by decide +kernel
theorem dX13_setLender_49 : decode cX13_setLender 49 = .ok (.iload_n 2, 1) := by decide +kernel
theorem dX13_setLender_50 : decode cX13_setLender 50 = .ok (.iadd, 1) := by decide +kernel
theorem dX13_setLender_51 : decode cX13_setLender 51 = .ok (.iaload, 1) := by decide +kernel
theorem dX13_setLender_52 : decode cX13_setLender 52 = .ok (.istore 4, 2) := by decide +kernel
theorem dX13_setLender_54 : decode cX13_setLender 54 = .ok (.aload_n 0, 1) := by decide +kernel
theorem dX13_setLender_55 : decode cX13_setLender 55 = .ok (.getfield 7, 3) := by decide +kernel
theorem dX13_setLender_58 : decode cX13_setLender 58 = .ok (.bipush 113, 2) := by decide +kernel
theorem dX13_setLender_60 : decode cX13_setLender 60 = .ok (.iconst 4, 1) := by decide +kernel
theorem dX13_setLender_61 : decode cX13_setLender 61 = .ok (.iload_n 1, 1) := by decide +kernel
theorem dX13_setLender_62 : decode cX13_setLender 62 = .ok (.imul, 1) := by decide +kernel
theorem dX13_setLender_63 : decode cX13_setLender 63 = .ok (.iadd, 1) := by decide +kernel
theorem dX13_setLender_64 : decode cX13_setLender 64 = .ok (.iload_n 2, 1) := by decide +kernel
theorem dX13_setLender_65 : decode cX13_setLender 65 = .ok (.iadd, 1) := by decide +kernel
theorem dX13_setLender_66 : decode cX13_setLender 66 = .ok (.iload_n 3, 1) := by decide +kernel
theorem dX13_setLender_67 : decode cX13_setLender 67 = .ok (.iastore, 1) := by decide +kernel
theorem dX13_setLender_68 : decode cX13_setLender 68 = .ok (.iload 4, 2) := by decide +kernel
theorem dX13_setLender_70 : decode cX13_setLender 70 = .ok (.ireturn, 1) := by decide +kernel
def sX13_setLender_23 (w : Wl) (l1 : Int32) (l2 : Int32) (l3 : Int32) (s1 : Int32) : Option (Int32 × Wl) := (if ((wst w 371 5 s1) 371 5) = 0 then (sX13_keep (wst w 371 5 s1) ).bind (fun r4 => (idx (((113 : Int32) + ((4 : Int32) * l1)) + l2) 541).bind (fun c8 => some ((r4 372 c8), (wst r4 372 c8 l3)))) else some ((0 : Int32), (wst w 371 5 s1)))
theorem tX13_setLender_23 {X : Cx} {B : Bs} {sz : Nat} {r : (Int32 × Wl)} (hx : Fx X cX13_setLender 5 RX13 2 0 0) (hr : Rt X (some .int) 0 0 (WΨ (xΓ X) B (some (.int (r.1))) r.2 sz)) : ∀ (w : Wl) (l1 : Int32) (l2 : Int32) (l3 : Int32) (s1 : Int32) {G : Gf} (hW : Wd (xΓ X) B w G) (h : sX13_setLender_23  w l1 l2 l3 s1 = some r), J X 5 G sz 0 0 23 [some (.ref (B.1 + 371)), some (.int l1), some (.int l2), some (.int l3), none] [.int s1, .ref (B.1 + 371)] := by
  intro w l1 l2 l3 s1 G hW h
  unfold sX13_setLender_23 at h
  refine p13_5 hx hW (rfl : kd 371 = 19) fl_X13_25 dX13_setLender_23 fun G1 hW2 => ?_
  refine J_al4 hx rfl rfl dX13_setLender_26 ?_
  refine g13_5 hx hW2 (rfl : kd 371 = 19) fl_X13_25 dX13_setLender_27 ?_
  refine J_if_eq hx 35 dX13_setLender_30 rfl (fun h3 => ?_) (fun h3 => ?_)
  · replace h := pos h h3
    refine J_al4 hx rfl rfl dX13_setLender_35 ?_
    obtain ⟨r4, hr5, h⟩ := bnd h
    refine J_wrV hx (kX13_keep  hW2 hr5) ml_X13_62 lk_X13_keep (ci := 11) rfl (hW2.obj (rfl : kd 371 = 19) (by decide) (by decide)) (rest := []) rfl rfl (by decide) (by decide) (Nat.le_of_ble_eq_true rfl) (Nat.le_refl 0) (Nat.le_refl 0) dX13_setLender_36 fun G6 hW7 => ?_
    show J X 5 G6 sz 0 0 39 [some (.ref (B.1 + 371)), some (.int l1), some (.int l2), some (.int l3), none] []
    refine J_al4 hx rfl rfl dX13_setLender_39 ?_
    refine g13_0 hx hW7 372 (rfl : kd 371 = 19) fl_X13_7 rfl dX13_setLender_40 ?_
    refine J_bipush hx (113 : Int32) dX13_setLender_43 rfl ?_
    refine J_iconst hx (4 : Int32) dX13_setLender_45 rfl ?_
    refine J_il4 hx rfl rfl dX13_setLender_46 ?_
    refine J_imul hx dX13_setLender_47 ?_
    refine J_iadd hx dX13_setLender_48 ?_
    refine J_il4 hx rfl rfl dX13_setLender_49 ?_
    refine J_iadd hx dX13_setLender_50 ?_
    obtain ⟨c8, hc9, h⟩ := bnd h
    refine J_iaW hx hW7 (rfl : kd 372 = 641) hc9 dX13_setLender_51 ?_
    refine J_is hx (by decide) (hc_of rfl) rfl dX13_setLender_52 ?_
    refine J_al4 hx rfl rfl dX13_setLender_54 ?_
    refine g13_0 hx hW7 372 (rfl : kd 371 = 19) fl_X13_7 rfl dX13_setLender_55 ?_
    refine J_bipush hx (113 : Int32) dX13_setLender_58 rfl ?_
    refine J_iconst hx (4 : Int32) dX13_setLender_60 rfl ?_
    refine J_il4 hx rfl rfl dX13_setLender_61 ?_
    refine J_imul hx dX13_setLender_62 ?_
    refine J_iadd hx dX13_setLender_63 ?_
    refine J_il4 hx rfl rfl dX13_setLender_64 ?_
    refine J_iadd hx dX13_setLender_65 ?_
    refine J_il4 hx rfl rfl dX13_setLender_66 ?_
    refine J_iaS hx hW7 (rfl : kd 372 = 641) hc9 dX13_setLender_67 fun G10 hW11 => ?_
    refine J_il hx rfl dX13_setLender_68 ?_
    obtain rfl := Option.some.inj h
    exact J_iretW hx hr hW11 dX13_setLender_70 (Nat.le_refl 0) (Nat.le_refl 0)
  · replace h := neg h h3
    refine J_iconst hx (0 : Int32) dX13_setLender_33 rfl ?_
    obtain rfl := Option.some.inj h
    exact J_iretW hx hr hW2 dX13_setLender_34 (Nat.le_refl 0) (Nat.le_refl 0)
def sX13_setLender (w : Wl) (l1 : Int32) (l2 : Int32) (l3 : Int32) : Option (Int32 × Wl) := (sX13_in w l1 (0 : Int32) (5 : Int32)).bind (fun r1 => (if r1 = true then (sX13_isLent w l2 l3).bind (fun r4 => (if r4 = true then sX13_setLender_23 w l1 l2 l3 (0 : Int32) else sX13_setLender_23 w l1 l2 l3 (1 : Int32))) else sX13_setLender_23 w l1 l2 l3 (1 : Int32)))
theorem kX13_setLender {l : Launch} {Γ : Gl} {B : Bs} {w : Wl} {G : Gf} {sz : Nat} {l1 : Int32} {l2 : Int32} {l3 : Int32} {r : (Int32 × Wl)} (hW : Wd Γ B w G) (h : sX13_setLender w l1 l2 l3 = some r) : CtW l Γ yX13_setLender cX13_setLender 5 (some .int) 2 [.ref (B.1 + 371), .int l1, .int l2, .int l3] G sz B (some (.int (r.1))) r.2 := by
  refine Ct.of rfl (Nat.le_of_ble_eq_true rfl) fun X hx hr hl hΓ hnm => ?_
  subst hl hΓ
  show J X 5 G sz 0 0 0 [some (.ref (B.1 + 371)), some (.int l1), some (.int l2), some (.int l3), none] []
  unfold sX13_setLender at h
  refine J_al4 hx rfl rfl dX13_setLender_0 ?_
  refine J_il4 hx rfl rfl dX13_setLender_1 ?_
  refine J_iconst hx (0 : Int32) dX13_setLender_2 rfl ?_
  refine J_iconst hx (5 : Int32) dX13_setLender_3 rfl ?_
  obtain ⟨r1, hr2, h⟩ := bnd h
  refine J_rdS hx (kX13_in  hW hr2) ml_X13_32 lk_X13_in (rest := [.ref (B.1 + 371)]) rfl rfl (by decide) (by decide) (Nat.le_of_ble_eq_true rfl) (Nat.le_refl 0) (Nat.le_refl 0) dX13_setLender_4 ?_
  refine J_bif_eq hx 22 dX13_setLender_7 rfl (fun h3 => ?_) (fun h3 => ?_)
  · replace h := neg h (bft h3)
    refine J_iconst hx (1 : Int32) dX13_setLender_22 rfl ?_
    exact tX13_setLender_23 hx hr _ _ _ _ _  hW h
  · replace h := pos h h3
    refine J_il4 hx rfl rfl dX13_setLender_10 ?_
    refine J_il4 hx rfl rfl dX13_setLender_11 ?_
    obtain ⟨r4, hr5, h⟩ := bnd h
    refine J_rdS hx (kX13_isLent  hW hr5) ml_X13_71 lk_X13_isLent (rest := [.ref (B.1 + 371)]) rfl rfl (by decide) (by decide) (Nat.le_of_ble_eq_true rfl) (Nat.le_refl 0) (Nat.le_refl 0) dX13_setLender_12 ?_
    refine J_bif_eq hx 22 dX13_setLender_15 rfl (fun h6 => ?_) (fun h6 => ?_)
    · replace h := neg h (bft h6)
      refine J_iconst hx (1 : Int32) dX13_setLender_22 rfl ?_
      exact tX13_setLender_23 hx hr _ _ _ _ _  hW h
    · replace h := pos h h6
      refine J_iconst hx (0 : Int32) dX13_setLender_18 rfl ?_
      refine J_goto hx 23 dX13_setLender_19 rfl ?_
      exact tX13_setLender_23 hx hr _ _ _ _ _  hW h
theorem dX13_setWayRate_0 : decode cX13_setWayRate 0 = .ok (.aload_n 0, 1) := by decide +kernel
theorem dX13_setWayRate_1 : decode cX13_setWayRate 1 = .ok (.iload_n 1, 1) := by decide +kernel
theorem dX13_setWayRate_2 : decode cX13_setWayRate 2 = .ok (.iconst 0, 1) := by decide +kernel
theorem dX13_setWayRate_3 : decode cX13_setWayRate 3 = .ok (.sipush 5000, 3) := by decide +kernel
theorem dX13_setWayRate_6 : decode cX13_setWayRate 6 = .ok (.invokestatic 32, 3) := by decide +kernel
theorem dX13_setWayRate_9 : decode cX13_setWayRate 9 = .ok (.ifCond .eq 7, 3) := by decide +kernel
theorem dX13_setWayRate_12 : decode cX13_setWayRate 12 = .ok (.iconst 0, 1) := by decide +kernel
theorem dX13_setWayRate_13 : decode cX13_setWayRate 13 = .ok (.goto 4, 3) := by decide +kernel
theorem dX13_setWayRate_16 : decode cX13_setWayRate 16 = .ok (.iconst 1, 1) := by decide +kernel
theorem dX13_setWayRate_17 : decode cX13_setWayRate 17 = .ok (.putfield 25, 3) := by decide +kernel
theorem dX13_setWayRate_20 : decode cX13_setWayRate 20 = .ok (.aload_n 0, 1) := by decide +kernel
theorem dX13_setWayRate_21 : decode cX13_setWayRate 21 = .ok (.getfield 25, 3) := by decide +kernel
theorem dX13_setWayRate_24 : decode cX13_setWayRate 24 = .ok (.ifCond .eq 5, 3) := by decide +kernel
theorem dX13_setWayRate_27 : decode cX13_setWayRate 27 = .ok (.iconst 0, 1) := by decide +kernel
theorem dX13_setWayRate_28 : decode cX13_setWayRate 28 = .ok (.ireturn, 1) := by decide +kernel
theorem dX13_setWayRate_29 : decode cX13_setWayRate 29 = .ok (.aload_n 0, 1) := by decide +kernel
theorem dX13_setWayRate_30 : decode cX13_setWayRate 30 = .ok (.invokevirtual 62, 3) := by decide +kernel
theorem dX13_setWayRate_33 : decode cX13_setWayRate 33 = .ok (.aload_n 0, 1) := by decide +kernel
theorem dX13_setWayRate_34 : decode cX13_setWayRate 34 = .ok (.getfield 7, 3) := by decide +kernel
theorem dX13_setWayRate_37 : decode cX13_setWayRate 37 = .ok (.bipush 8, 2) := by decide +kernel
theorem dX13_setWayRate_39 : decode cX13_setWayRate 39 = .ok (.iaload, 1) := by decide +kernel
theorem dX13_setWayRate_40 : decode cX13_setWayRate 40 = .ok (.istore_n 2, 1) := by decide +kernel
theorem dX13_setWayRate_41 : decode cX13_setWayRate 41 = .ok (.aload_n 0, 1) := by decide +kernel
theorem dX13_setWayRate_42 : decode cX13_setWayRate 42 = .ok (.getfield 7, 3) := by decide +kernel
theorem dX13_setWayRate_45 : decode cX13_setWayRate 45 = .ok (.bipush 8, 2) := by decide +kernel
theorem dX13_setWayRate_47 : decode cX13_setWayRate 47 = .ok (.iload_n 1, 1) := by decide +kernel
theorem dX13_setWayRate_48 : decode cX13_setWayRate 48 = .ok (.iastore, 1) := by decide +kernel
theorem dX13_setWayRate_49 : decode cX13_setWayRate 49 = .ok (.iload_n 2, 1) := by decide +kernel
theorem dX13_setWayRate_50 : decode cX13_setWayRate 50 = .ok (.ireturn, 1) := by decide +kernel
def sX13_setWayRate_17 (w : Wl) (l1 : Int32) (s1 : Int32) : Option (Int32 × Wl) := (if ((wst w 371 5 s1) 371 5) = 0 then (sX13_keep (wst w 371 5 s1) ).bind (fun r4 => some ((r4 372 8), (wst r4 372 8 l1))) else some ((0 : Int32), (wst w 371 5 s1)))
theorem tX13_setWayRate_17 {X : Cx} {B : Bs} {sz : Nat} {r : (Int32 × Wl)} (hx : Fx X cX13_setWayRate 3 RX13 1 0 0) (hr : Rt X (some .int) 0 0 (WΨ (xΓ X) B (some (.int (r.1))) r.2 sz)) : ∀ (w : Wl) (l1 : Int32) (s1 : Int32) {G : Gf} (hW : Wd (xΓ X) B w G) (h : sX13_setWayRate_17  w l1 s1 = some r), J X 3 G sz 0 0 17 [some (.ref (B.1 + 371)), some (.int l1), none] [.int s1, .ref (B.1 + 371)] := by
  intro w l1 s1 G hW h
  unfold sX13_setWayRate_17 at h
  refine p13_5 hx hW (rfl : kd 371 = 19) fl_X13_25 dX13_setWayRate_17 fun G1 hW2 => ?_
  refine J_al4 hx rfl rfl dX13_setWayRate_20 ?_
  refine g13_5 hx hW2 (rfl : kd 371 = 19) fl_X13_25 dX13_setWayRate_21 ?_
  refine J_if_eq hx 29 dX13_setWayRate_24 rfl (fun h3 => ?_) (fun h3 => ?_)
  · replace h := pos h h3
    refine J_al4 hx rfl rfl dX13_setWayRate_29 ?_
    obtain ⟨r4, hr5, h⟩ := bnd h
    refine J_wrV hx (kX13_keep  hW2 hr5) ml_X13_62 lk_X13_keep (ci := 11) rfl (hW2.obj (rfl : kd 371 = 19) (by decide) (by decide)) (rest := []) rfl rfl (by decide) (by decide) (Nat.le_of_ble_eq_true rfl) (Nat.le_refl 0) (Nat.le_refl 0) dX13_setWayRate_30 fun G6 hW7 => ?_
    show J X 3 G6 sz 0 0 33 [some (.ref (B.1 + 371)), some (.int l1), none] []
    refine J_al4 hx rfl rfl dX13_setWayRate_33 ?_
    refine g13_0 hx hW7 372 (rfl : kd 371 = 19) fl_X13_7 rfl dX13_setWayRate_34 ?_
    refine J_bipush hx (8 : Int32) dX13_setWayRate_37 rfl ?_
    refine J_iaW hx hW7 (rfl : kd 372 = 641) (by decide +kernel : idx (8 : Int32) 541 = some 8) dX13_setWayRate_39 ?_
    refine J_is4 hx rfl (by decide) (hc_of rfl) rfl dX13_setWayRate_40 ?_
    refine J_al4 hx rfl rfl dX13_setWayRate_41 ?_
    refine g13_0 hx hW7 372 (rfl : kd 371 = 19) fl_X13_7 rfl dX13_setWayRate_42 ?_
    refine J_bipush hx (8 : Int32) dX13_setWayRate_45 rfl ?_
    refine J_il4 hx rfl rfl dX13_setWayRate_47 ?_
    refine J_iaS hx hW7 (rfl : kd 372 = 641) (by decide +kernel : idx (8 : Int32) 541 = some 8) dX13_setWayRate_48 fun G8 hW9 => ?_
    refine J_il4 hx rfl rfl dX13_setWayRate_49 ?_
    obtain rfl := Option.some.inj h
    exact J_iretW hx hr hW9 dX13_setWayRate_50 (Nat.le_refl 0) (Nat.le_refl 0)
  · replace h := neg h h3
    refine J_iconst hx (0 : Int32) dX13_setWayRate_27 rfl ?_
    obtain rfl := Option.some.inj h
    exact J_iretW hx hr hW2 dX13_setWayRate_28 (Nat.le_refl 0) (Nat.le_refl 0)
def sX13_setWayRate (w : Wl) (l1 : Int32) : Option (Int32 × Wl) := (sX13_in w l1 (0 : Int32) (5000 : Int32)).bind (fun r1 => (if r1 = true then sX13_setWayRate_17 w l1 (0 : Int32) else sX13_setWayRate_17 w l1 (1 : Int32)))
theorem kX13_setWayRate {l : Launch} {Γ : Gl} {B : Bs} {w : Wl} {G : Gf} {sz : Nat} {l1 : Int32} {r : (Int32 × Wl)} (hW : Wd Γ B w G) (h : sX13_setWayRate w l1 = some r) : CtW l Γ yX13_setWayRate cX13_setWayRate 3 (some .int) 1 [.ref (B.1 + 371), .int l1] G sz B (some (.int (r.1))) r.2 := by
  refine Ct.of rfl (Nat.le_of_ble_eq_true rfl) fun X hx hr hl hΓ hnm => ?_
  subst hl hΓ
  show J X 3 G sz 0 0 0 [some (.ref (B.1 + 371)), some (.int l1), none] []
  unfold sX13_setWayRate at h
  refine J_al4 hx rfl rfl dX13_setWayRate_0 ?_
  refine J_il4 hx rfl rfl dX13_setWayRate_1 ?_
  refine J_iconst hx (0 : Int32) dX13_setWayRate_2 rfl ?_
  refine J_sipush hx (5000 : Int32) dX13_setWayRate_3 rfl ?_
  obtain ⟨r1, hr2, h⟩ := bnd h
  refine J_rdS hx (kX13_in  hW hr2) ml_X13_32 lk_X13_in (rest := [.ref (B.1 + 371)]) rfl rfl (by decide) (by decide) (Nat.le_of_ble_eq_true rfl) (Nat.le_refl 0) (Nat.le_refl 0) dX13_setWayRate_6 ?_
  refine J_bif_eq hx 16 dX13_setWayRate_9 rfl (fun h3 => ?_) (fun h3 => ?_)
  · replace h := neg h (bft h3)
    refine J_iconst hx (1 : Int32) dX13_setWayRate_16 rfl ?_
    exact tX13_setWayRate_17 hx hr _ _ _  hW h
  · replace h := pos h h3
    refine J_iconst hx (0 : Int32) dX13_setWayRate_12 rfl ?_
    refine J_goto hx 17 dX13_setWayRate_13 rfl ?_
    exact tX13_setWayRate_17 hx hr _ _ _  hW h
theorem dX13_addCourier_0 : decode cX13_addCourier 0 = .ok (.aload_n 0, 1) := by decide +kernel
theorem dX13_addCourier_1 : decode cX13_addCourier 1 = .ok (.aload_n 0, 1) := by decide +kernel
theorem dX13_addCourier_2 : decode cX13_addCourier 2 = .ok (.iload_n 1, 1) := by decide +kernel
theorem dX13_addCourier_3 : decode cX13_addCourier 3 = .ok (.invokevirtual 65, 3) := by decide +kernel
theorem dX13_addCourier_6 : decode cX13_addCourier 6 = .ok (.ifCond .ne 7, 3) := by decide +kernel
theorem dX13_addCourier_9 : decode cX13_addCourier 9 = .ok (.iconst 1, 1) := by decide +kernel
theorem dX13_addCourier_10 : decode cX13_addCourier 10 = .ok (.goto 18, 3) := by decide +kernel
theorem dX13_addCourier_13 : decode cX13_addCourier 13 = .ok (.aload_n 0, 1) := by decide +kernel
theorem dX13_addCourier_14 : decode cX13_addCourier 14 = .ok (.getfield 7, 3) := by decide +kernel
theorem dX13_addCourier_17 : decode cX13_addCourier 17 = .ok (.iconst 4, 1) := by decide +kernel
theorem dX13_addCourier_18 : decode cX13_addCourier 18 = .ok (.iaload, 1) := by decide +kernel
theorem dX13_addCourier_19 : decode cX13_addCourier 19 = .ok (.iconst 4, 1) := by decide +kernel
theorem dX13_addCourier_20 : decode cX13_addCourier 20 = .ok (.if_icmp .ne 7, 3) := by decide +kernel
theorem dX13_addCourier_23 : decode cX13_addCourier 23 = .ok (.iconst 2, 1) := by decide +kernel
theorem dX13_addCourier_24 : decode cX13_addCourier 24 = .ok (.goto 4, 3) := by decide +kernel
theorem dX13_addCourier_27 : decode cX13_addCourier 27 = .ok (.iconst 0, 1) := by decide +kernel
theorem dX13_addCourier_28 : decode cX13_addCourier 28 = .ok (.putfield 25, 3) := by decide +kernel
theorem dX13_addCourier_31 : decode cX13_addCourier 31 = .ok (.aload_n 0, 1) := by decide +kernel
theorem dX13_addCourier_32 : decode cX13_addCourier 32 = .ok (.getfield 25, 3) := by decide +kernel
theorem dX13_addCourier_35 : decode cX13_addCourier 35 = .ok (.ifCond .eq 5, 3) := by decide +kernel
theorem dX13_addCourier_38 : decode cX13_addCourier 38 = .ok (.iconst 0, 1) := by decide +kernel
theorem dX13_addCourier_39 : decode cX13_addCourier 39 = .ok (.ireturn, 1) := by decide +kernel
theorem dX13_addCourier_40 : decode cX13_addCourier 40 = .ok (.aload_n 0, 1) := by decide +kernel
theorem dX13_addCourier_41 : decode cX13_addCourier 41 = .ok (.invokevirtual 62, 3) := by decide +kernel
theorem dX13_addCourier_44 : decode cX13_addCourier 44 = .ok (.aload_n 0, 1) := by decide +kernel
theorem dX13_addCourier_45 : decode cX13_addCourier 45 = .ok (.getfield 7, 3) := by decide +kernel
theorem dX13_addCourier_48 : decode cX13_addCourier 48 = .ok (.sipush 137, 3) := by decide +kernel
theorem dX13_addCourier_51 : decode cX13_addCourier 51 = .ok (.iconst 2, 1) := by decide +kernel
theorem dX13_addCourier_52 : decode cX13_addCourier 52 = .ok (.aload_n 0, 1) := by decide +kernel
theorem dX13_addCourier_53 : decode cX13_addCourier 53 = .ok (.getfield 7, 3) := by decide +kernel
theorem dX13_addCourier_56 : decode cX13_addCourier 56 = .ok (.iconst 4, 1) := by decide +kernel
theorem dX13_addCourier_57 : decode cX13_addCourier 57 = .ok (.iaload, 1) := by decide +kernel
theorem dX13_addCourier_58 : decode cX13_addCourier 58 = .ok (.imul, 1) := by decide +kernel
theorem dX13_addCourier_59 : decode cX13_addCourier 59 = .ok (.iadd, 1) := by decide +kernel
theorem dX13_addCourier_60 : decode cX13_addCourier 60 = .ok (.iload_n 1, 1) := by decide +kernel
theorem dX13_addCourier_61 : decode cX13_addCourier 61 = .ok (.iastore, 1) := by decide +kernel
theorem dX13_addCourier_62 : decode cX13_addCourier 62 = .ok (.aload_n 0, 1) := by decide +kernel
theorem dX13_addCourier_63 : decode cX13_addCourier 63 = .ok (.getfield 7, 3) := by decide +kernel
theorem dX13_addCourier_66 : decode cX13_addCourier 66 = .ok (.sipush 137, 3) := by decide +kernel
theorem dX13_addCourier_69 : decode cX13_addCourier 69 = .ok (.iconst 2, 1) := by decide +kernel
theorem dX13_addCourier_70 : decode cX13_addCourier 70 = .ok (.aload_n 0, 1) := by decide +kernel
theorem dX13_addCourier_71 : decode cX13_addCourier 71 = .ok (.getfield 7, 3) := by decide +kernel
theorem dX13_addCourier_74 : decode cX13_addCourier 74 = .ok (.iconst 4, 1) := by decide +kernel
theorem dX13_addCourier_75 : decode cX13_addCourier 75 = .ok (.iaload, 1) := by decide +kernel
theorem dX13_addCourier_76 : decode cX13_addCourier 76 = .ok (.imul, 1) := by decide +kernel
theorem dX13_addCourier_77 : decode cX13_addCourier 77 = .ok (.iadd, 1) := by decide +kernel
theorem dX13_addCourier_78 : decode cX13_addCourier 78 = .ok (.iconst 1, 1) := by decide +kernel
theorem dX13_addCourier_79 : decode cX13_addCourier 79 = .ok (.iadd, 1) := by decide +kernel
theorem dX13_addCourier_80 : decode cX13_addCourier 80 = .ok (.iconst (-1), 1) := by decide +kernel
theorem dX13_addCourier_81 : decode cX13_addCourier 81 = .ok (.iastore, 1) := by decide +kernel
theorem dX13_addCourier_82 : decode cX13_addCourier 82 = .ok (.aload_n 0, 1) := by decide +kernel
theorem dX13_addCourier_83 : decode cX13_addCourier 83 = .ok (.getfield 7, 3) := by decide +kernel
theorem dX13_addCourier_86 : decode cX13_addCourier 86 = .ok (.iconst 4, 1) := by decide +kernel
theorem dX13_addCourier_87 : decode cX13_addCourier 87 = .ok (.dup2, 1) := by decide +kernel
theorem dX13_addCourier_88 : decode cX13_addCourier 88 = .ok (.iaload, 1) := by decide +kernel
theorem dX13_addCourier_89 : decode cX13_addCourier 89 = .ok (.iconst 1, 1) := by decide +kernel
theorem dX13_addCourier_90 : decode cX13_addCourier 90 = .ok (.iadd, 1) := by decide +kernel
theorem dX13_addCourier_91 : decode cX13_addCourier 91 = .ok (.iastore, 1) := by decide +kernel
theorem dX13_addCourier_92 : decode cX13_addCourier 92 = .ok (.aload_n 0, 1) := by decide +kernel
theorem dX13_addCourier_93 : decode cX13_addCourier 93 = .ok (.getfield 7, 3) := by decide +kernel
theorem dX13_addCourier_96 : decode cX13_addCourier 96 = .ok (.iconst 4, 1) := by decide +kernel
theorem dX13_addCourier_97 : decode cX13_addCourier 97 = .ok (.iaload, 1) := by decide +kernel
theorem dX13_addCourier_98 : decode cX13_addCourier 98 = .ok (.iconst 1, 1) := by decide +kernel
theorem dX13_addCourier_99 : decode cX13_addCourier 99 = .ok (.isub, 1) := by decide +kernel
theorem dX13_addCourier_100 : decode cX13_addCourier 100 = .ok (.ireturn, 1) := by decide +kernel
def sX13_addCourier_28 (w : Wl) (l1 : Int32) (s1 : Int32) : Option (Int32 × Wl) := (if ((wst w 371 5 s1) 371 5) = 0 then (sX13_keep (wst w 371 5 s1) ).bind (fun r4 => (idx ((137 : Int32) + ((2 : Int32) * (r4 372 4))) 541).bind (fun c8 => (idx (((137 : Int32) + ((2 : Int32) * ((wst r4 372 c8 l1) 372 4))) + (1 : Int32)) 541).bind (fun c12 => some ((((wst (wst (wst r4 372 c8 l1) 372 c12 (-1 : Int32)) 372 4 (((wst (wst r4 372 c8 l1) 372 c12 (-1 : Int32)) 372 4) + (1 : Int32))) 372 4) - (1 : Int32)), (wst (wst (wst r4 372 c8 l1) 372 c12 (-1 : Int32)) 372 4 (((wst (wst r4 372 c8 l1) 372 c12 (-1 : Int32)) 372 4) + (1 : Int32))))))) else some ((0 : Int32), (wst w 371 5 s1)))
theorem tX13_addCourier_28 {X : Cx} {B : Bs} {sz : Nat} {r : (Int32 × Wl)} (hx : Fx X cX13_addCourier 2 RX13 2 0 0) (hr : Rt X (some .int) 0 0 (WΨ (xΓ X) B (some (.int (r.1))) r.2 sz)) : ∀ (w : Wl) (l1 : Int32) (s1 : Int32) {G : Gf} (hW : Wd (xΓ X) B w G) (h : sX13_addCourier_28  w l1 s1 = some r), J X 2 G sz 0 0 28 [some (.ref (B.1 + 371)), some (.int l1)] [.int s1, .ref (B.1 + 371)] := by
  intro w l1 s1 G hW h
  unfold sX13_addCourier_28 at h
  refine p13_5 hx hW (rfl : kd 371 = 19) fl_X13_25 dX13_addCourier_28 fun G1 hW2 => ?_
  refine J_al4 hx rfl rfl dX13_addCourier_31 ?_
  refine g13_5 hx hW2 (rfl : kd 371 = 19) fl_X13_25 dX13_addCourier_32 ?_
  refine J_if_eq hx 40 dX13_addCourier_35 rfl (fun h3 => ?_) (fun h3 => ?_)
  · replace h := pos h h3
    refine J_al4 hx rfl rfl dX13_addCourier_40 ?_
    obtain ⟨r4, hr5, h⟩ := bnd h
    refine J_wrV hx (kX13_keep  hW2 hr5) ml_X13_62 lk_X13_keep (ci := 11) rfl (hW2.obj (rfl : kd 371 = 19) (by decide) (by decide)) (rest := []) rfl rfl (by decide) (by decide) (Nat.le_of_ble_eq_true rfl) (Nat.le_refl 0) (Nat.le_refl 0) dX13_addCourier_41 fun G6 hW7 => ?_
    show J X 2 G6 sz 0 0 44 [some (.ref (B.1 + 371)), some (.int l1)] []
    refine J_al4 hx rfl rfl dX13_addCourier_44 ?_
    refine g13_0 hx hW7 372 (rfl : kd 371 = 19) fl_X13_7 rfl dX13_addCourier_45 ?_
    refine J_sipush hx (137 : Int32) dX13_addCourier_48 rfl ?_
    refine J_iconst hx (2 : Int32) dX13_addCourier_51 rfl ?_
    refine J_al4 hx rfl rfl dX13_addCourier_52 ?_
    refine g13_0 hx hW7 372 (rfl : kd 371 = 19) fl_X13_7 rfl dX13_addCourier_53 ?_
    refine J_iconst hx (4 : Int32) dX13_addCourier_56 rfl ?_
    refine J_iaW hx hW7 (rfl : kd 372 = 641) (by decide +kernel : idx (4 : Int32) 541 = some 4) dX13_addCourier_57 ?_
    refine J_imul hx dX13_addCourier_58 ?_
    refine J_iadd hx dX13_addCourier_59 ?_
    refine J_il4 hx rfl rfl dX13_addCourier_60 ?_
    obtain ⟨c8, hc9, h⟩ := bnd h
    refine J_iaS hx hW7 (rfl : kd 372 = 641) hc9 dX13_addCourier_61 fun G10 hW11 => ?_
    refine J_al4 hx rfl rfl dX13_addCourier_62 ?_
    refine g13_0 hx hW11 372 (rfl : kd 371 = 19) fl_X13_7 rfl dX13_addCourier_63 ?_
    refine J_sipush hx (137 : Int32) dX13_addCourier_66 rfl ?_
    refine J_iconst hx (2 : Int32) dX13_addCourier_69 rfl ?_
    refine J_al4 hx rfl rfl dX13_addCourier_70 ?_
    refine g13_0 hx hW11 372 (rfl : kd 371 = 19) fl_X13_7 rfl dX13_addCourier_71 ?_
    refine J_iconst hx (4 : Int32) dX13_addCourier_74 rfl ?_
    refine J_iaW hx hW11 (rfl : kd 372 = 641) (by decide +kernel : idx (4 : Int32) 541 = some 4) dX13_addCourier_75 ?_
    refine J_imul hx dX13_addCourier_76 ?_
    refine J_iadd hx dX13_addCourier_77 ?_
    refine J_iconst hx (1 : Int32) dX13_addCourier_78 rfl ?_
    refine J_iadd hx dX13_addCourier_79 ?_
    refine J_iconst hx (-1 : Int32) dX13_addCourier_80 rfl ?_
    obtain ⟨c12, hc13, h⟩ := bnd h
    refine J_iaS hx hW11 (rfl : kd 372 = 641) hc13 dX13_addCourier_81 fun G14 hW15 => ?_
    refine J_al4 hx rfl rfl dX13_addCourier_82 ?_
    refine g13_0 hx hW15 372 (rfl : kd 371 = 19) fl_X13_7 rfl dX13_addCourier_83 ?_
    refine J_iconst hx (4 : Int32) dX13_addCourier_86 rfl ?_
    refine J_dup2 hx dX13_addCourier_87 ?_
    refine J_iaW hx hW15 (rfl : kd 372 = 641) (by decide +kernel : idx (4 : Int32) 541 = some 4) dX13_addCourier_88 ?_
    refine J_iconst hx (1 : Int32) dX13_addCourier_89 rfl ?_
    refine J_iadd hx dX13_addCourier_90 ?_
    refine J_iaS hx hW15 (rfl : kd 372 = 641) (by decide +kernel : idx (4 : Int32) 541 = some 4) dX13_addCourier_91 fun G16 hW17 => ?_
    refine J_al4 hx rfl rfl dX13_addCourier_92 ?_
    refine g13_0 hx hW17 372 (rfl : kd 371 = 19) fl_X13_7 rfl dX13_addCourier_93 ?_
    refine J_iconst hx (4 : Int32) dX13_addCourier_96 rfl ?_
    refine J_iaW hx hW17 (rfl : kd 372 = 641) (by decide +kernel : idx (4 : Int32) 541 = some 4) dX13_addCourier_97 ?_
    refine J_iconst hx (1 : Int32) dX13_addCourier_98 rfl ?_
    refine J_isub hx dX13_addCourier_99 ?_
    obtain rfl := Option.some.inj h
    exact J_iretW hx hr hW17 dX13_addCourier_100 (Nat.le_refl 0) (Nat.le_refl 0)
  · replace h := neg h h3
    refine J_iconst hx (0 : Int32) dX13_addCourier_38 rfl ?_
    obtain rfl := Option.some.inj h
    exact J_iretW hx hr hW2 dX13_addCourier_39 (Nat.le_refl 0) (Nat.le_refl 0)
def sX13_addCourier (w : Wl) (l1 : Int32) : Option (Int32 × Wl) := (sX13_isVenue w l1).bind (fun r1 => (if r1 = true then (if (w 372 4) = (4 : Int32) then sX13_addCourier_28 w l1 (2 : Int32) else sX13_addCourier_28 w l1 (0 : Int32)) else sX13_addCourier_28 w l1 (1 : Int32)))
theorem kX13_addCourier {l : Launch} {Γ : Gl} {B : Bs} {w : Wl} {G : Gf} {sz : Nat} {l1 : Int32} {r : (Int32 × Wl)} (hW : Wd Γ B w G) (h : sX13_addCourier w l1 = some r) : CtW l Γ yX13_addCourier cX13_addCourier 2 (some .int) 2 [.ref (B.1 + 371), .int l1] G sz B (some (.int (r.1))) r.2 := by
  refine Ct.of rfl (Nat.le_of_ble_eq_true rfl) fun X hx hr hl hΓ hnm => ?_
  subst hl hΓ
  show J X 2 G sz 0 0 0 [some (.ref (B.1 + 371)), some (.int l1)] []
  unfold sX13_addCourier at h
  refine J_al4 hx rfl rfl dX13_addCourier_0 ?_
  refine J_al4 hx rfl rfl dX13_addCourier_1 ?_
  refine J_il4 hx rfl rfl dX13_addCourier_2 ?_
  obtain ⟨r1, hr2, h⟩ := bnd h
  refine J_rdV hx (kX13_isVenue  hW hr2) ml_X13_65 lk_X13_isVenue (ci := 11) rfl (hW.obj (rfl : kd 371 = 19) (by decide) (by decide)) (rest := [.ref (B.1 + 371)]) rfl rfl (by decide) (by decide) (Nat.le_of_ble_eq_true rfl) (Nat.le_refl 0) (Nat.le_refl 0) dX13_addCourier_3 ?_
  refine J_bif_ne hx 13 dX13_addCourier_6 rfl (fun h3 => ?_) (fun h3 => ?_)
  · replace h := pos h h3
    refine J_al4 hx rfl rfl dX13_addCourier_13 ?_
    refine g13_0 hx hW 372 (rfl : kd 371 = 19) fl_X13_7 rfl dX13_addCourier_14 ?_
    refine J_iconst hx (4 : Int32) dX13_addCourier_17 rfl ?_
    refine J_iaW hx hW (rfl : kd 372 = 641) (by decide +kernel : idx (4 : Int32) 541 = some 4) dX13_addCourier_18 ?_
    refine J_iconst hx (4 : Int32) dX13_addCourier_19 rfl ?_
    refine J_icmp_ne hx 27 dX13_addCourier_20 rfl (fun h4 => ?_) (fun h4 => ?_)
    · replace h := neg h h4
      refine J_iconst hx (0 : Int32) dX13_addCourier_27 rfl ?_
      exact tX13_addCourier_28 hx hr _ _ _  hW h
    · replace h := pos h h4
      refine J_iconst hx (2 : Int32) dX13_addCourier_23 rfl ?_
      refine J_goto hx 28 dX13_addCourier_24 rfl ?_
      exact tX13_addCourier_28 hx hr _ _ _  hW h
  · replace h := neg h (bft h3)
    refine J_iconst hx (1 : Int32) dX13_addCourier_9 rfl ?_
    refine J_goto hx 28 dX13_addCourier_10 rfl ?_
    exact tX13_addCourier_28 hx hr _ _ _  hW h
theorem dX13_addCrate_0 : decode cX13_addCrate 0 = .ok (.aload_n 0, 1) := by decide +kernel
theorem dX13_addCrate_1 : decode cX13_addCrate 1 = .ok (.aload_n 0, 1) := by decide +kernel
theorem dX13_addCrate_2 : decode cX13_addCrate 2 = .ok (.iload_n 1, 1) := by decide +kernel
theorem dX13_addCrate_3 : decode cX13_addCrate 3 = .ok (.invokevirtual 65, 3) := by decide +kernel
theorem dX13_addCrate_6 : decode cX13_addCrate 6 = .ok (.ifCond .ne 7, 3) := by decide +kernel
theorem dX13_addCrate_9 : decode cX13_addCrate 9 = .ok (.iconst 1, 1) := by decide +kernel
theorem dX13_addCrate_10 : decode cX13_addCrate 10 = .ok (.goto 32, 3) := by decide +kernel
theorem dX13_addCrate_13 : decode cX13_addCrate 13 = .ok (.iload_n 2, 1) := by decide +kernel
theorem dX13_addCrate_14 : decode cX13_addCrate 14 = .ok (.iconst 1, 1) := by decide +kernel
theorem dX13_addCrate_15 : decode cX13_addCrate 15 = .ok (.iconst 4, 1) := by decide +kernel
theorem dX13_addCrate_16 : decode cX13_addCrate 16 = .ok (.invokestatic 32, 3) := by decide +kernel
theorem dX13_addCrate_19 : decode cX13_addCrate 19 = .ok (.ifCond .ne 7, 3) := by decide +kernel
theorem dX13_addCrate_22 : decode cX13_addCrate 22 = .ok (.iconst 2, 1) := by decide +kernel
theorem dX13_addCrate_23 : decode cX13_addCrate 23 = .ok (.goto 19, 3) := by decide +kernel
theorem dX13_addCrate_26 : decode cX13_addCrate 26 = .ok (.aload_n 0, 1) := by decide +kernel
theorem dX13_addCrate_27 : decode cX13_addCrate 27 = .ok (.getfield 7, 3) := by decide +kernel
theorem dX13_addCrate_30 : decode cX13_addCrate 30 = .ok (.iconst 2, 1) := by decide +kernel
theorem dX13_addCrate_31 : decode cX13_addCrate 31 = .ok (.iaload, 1) := by decide +kernel
theorem dX13_addCrate_32 : decode cX13_addCrate 32 = .ok (.bipush 12, 2) := by decide +kernel
theorem dX13_addCrate_34 : decode cX13_addCrate 34 = .ok (.if_icmp .ne 7, 3) := by decide +kernel
theorem dX13_addCrate_37 : decode cX13_addCrate 37 = .ok (.iconst 3, 1) := by decide +kernel
theorem dX13_addCrate_38 : decode cX13_addCrate 38 = .ok (.goto 4, 3) := by decide +kernel
theorem dX13_addCrate_41 : decode cX13_addCrate 41 = .ok (.iconst 0, 1) := by decide +kernel
theorem dX13_addCrate_42 : decode cX13_addCrate 42 = .ok (.putfield 25, 3) := by decide +kernel
theorem dX13_addCrate_45 : decode cX13_addCrate 45 = .ok (.aload_n 0, 1) := by decide +kernel
theorem dX13_addCrate_46 : decode cX13_addCrate 46 = .ok (.getfield 25, 3) := by decide +kernel
theorem dX13_addCrate_49 : decode cX13_addCrate 49 = .ok (.ifCond .eq 5, 3) := by decide +kernel
theorem dX13_addCrate_52 : decode cX13_addCrate 52 = .ok (.iconst 0, 1) := by decide +kernel
theorem dX13_addCrate_53 : decode cX13_addCrate 53 = .ok (.ireturn, 1) := by decide +kernel
theorem dX13_addCrate_54 : decode cX13_addCrate 54 = .ok (.aload_n 0, 1) := by decide +kernel
theorem dX13_addCrate_55 : decode cX13_addCrate 55 = .ok (.invokevirtual 62, 3) := by decide +kernel
theorem dX13_addCrate_58 : decode cX13_addCrate 58 = .ok (.aload_n 0, 1) := by decide +kernel
theorem dX13_addCrate_59 : decode cX13_addCrate 59 = .ok (.getfield 7, 3) := by decide +kernel
theorem dX13_addCrate_62 : decode cX13_addCrate 62 = .ok (.iconst 2, 1) := by decide +kernel
theorem dX13_addCrate_63 : decode cX13_addCrate 63 = .ok (.iaload, 1) := by decide +kernel
theorem dX13_addCrate_64 : decode cX13_addCrate 64 = .ok (.istore_n 3, 1) := by decide +kernel
theorem dX13_addCrate_65 : decode cX13_addCrate 65 = .ok (.aload_n 0, 1) := by decide +kernel
theorem dX13_addCrate_66 : decode cX13_addCrate 66 = .ok (.getfield 7, 3) := by decide +kernel
theorem dX13_addCrate_69 : decode cX13_addCrate 69 = .ok (.iconst 2, 1) := by decide +kernel
theorem dX13_addCrate_70 : decode cX13_addCrate 70 = .ok (.dup2, 1) := by decide +kernel
theorem dX13_addCrate_71 : decode cX13_addCrate 71 = .ok (.iaload, 1) := by decide +kernel
theorem dX13_addCrate_72 : decode cX13_addCrate 72 = .ok (.iconst 1, 1) := by decide +kernel
theorem dX13_addCrate_73 : decode cX13_addCrate 73 = .ok (.iadd, 1) := by decide +kernel
theorem dX13_addCrate_74 : decode cX13_addCrate 74 = .ok (.iastore, 1) := by decide +kernel
theorem dX13_addCrate_75 : decode cX13_addCrate 75 = .ok (.aload_n 0, 1) := by decide +kernel
theorem dX13_addCrate_76 : decode cX13_addCrate 76 = .ok (.iload_n 3, 1) := by decide +kernel
theorem dX13_addCrate_77 : decode cX13_addCrate 77 = .ok (.iconst 0, 1) := by decide +kernel
theorem dX13_addCrate_78 : decode cX13_addCrate 78 = .ok (.iload_n 2, 1) := by decide +kernel
theorem dX13_addCrate_79 : decode cX13_addCrate 79 = .ok (.invokevirtual 74, 3) := by decide +kernel
theorem dX13_addCrate_82 : decode cX13_addCrate 82 = .ok (.aload_n 0, 1) := by decide +kernel
theorem dX13_addCrate_83 : decode cX13_addCrate 83 = .ok (.iload_n 3, 1) := by decide +kernel
theorem dX13_addCrate_84 : decode cX13_addCrate 84 = .ok (.iconst 1, 1) := by decide +kernel
theorem dX13_addCrate_85 : decode cX13_addCrate 85 = .ok (.iconst 1, 1) := by decide +kernel
theorem dX13_addCrate_86 : decode cX13_addCrate 86 = .ok (.invokevirtual 74, 3) := by decide +kernel
theorem dX13_addCrate_89 : decode cX13_addCrate 89 = .ok (.aload_n 0, 1) := by decide +kernel
theorem dX13_addCrate_90 : decode cX13_addCrate 90 = .ok (.iload_n 3, 1) := by decide +kernel
theorem dX13_addCrate_91 : decode cX13_addCrate 91 = .ok (.iconst 2, 1) := by decide +kernel
theorem dX13_addCrate_92 : decode cX13_addCrate 92 = .ok (.iconst (-1), 1) := by decide +kernel
theorem dX13_addCrate_93 : decode cX13_addCrate 93 = .ok (.invokevirtual 74, 3) := by decide +kernel
theorem dX13_addCrate_96 : decode cX13_addCrate 96 = .ok (.aload_n 0, 1) := by decide +kernel
theorem dX13_addCrate_97 : decode cX13_addCrate 97 = .ok (.iload_n 3, 1) := by decide +kernel
theorem dX13_addCrate_98 : decode cX13_addCrate 98 = .ok (.iconst 3, 1) := by decide +kernel
theorem dX13_addCrate_99 : decode cX13_addCrate 99 = .ok (.iload_n 1, 1) := by decide +kernel
theorem dX13_addCrate_100 : decode cX13_addCrate 100 = .ok (.invokevirtual 74, 3) := by decide +kernel
theorem dX13_addCrate_103 : decode cX13_addCrate 103 = .ok (.aload_n 0, 1) := by decide +kernel
theorem dX13_addCrate_104 : decode cX13_addCrate 104 = .ok (.iload_n 3, 1) := by decide +kernel
theorem dX13_addCrate_105 : decode cX13_addCrate 105 = .ok (.iconst 4, 1) := by decide +kernel
theorem dX13_addCrate_106 : decode cX13_addCrate 106 = .ok (.iconst (-1), 1) := by decide +kernel
theorem dX13_addCrate_107 : decode cX13_addCrate 107 = .ok (.invokevirtual 74, 3) := by decide +kernel
theorem dX13_addCrate_110 : decode cX13_addCrate 110 = .ok (.aload_n 0, 1) := by decide +kernel
theorem dX13_addCrate_111 : decode cX13_addCrate 111 = .ok (.iload_n 3, 1) := by decide +kernel
theorem dX13_addCrate_112 : decode cX13_addCrate 112 = .ok (.iconst 5, 1) := by decide +kernel
theorem dX13_addCrate_113 : decode cX13_addCrate 113 = .ok (.iconst (-1), 1) := by decide +kernel
theorem dX13_addCrate_114 : decode cX13_addCrate 114 = .ok (.invokevirtual 74, 3) := by decide +kernel
theorem dX13_addCrate_117 : decode cX13_addCrate 117 = .ok (.aload_n 0, 1) := by decide +kernel
theorem dX13_addCrate_118 : decode cX13_addCrate 118 = .ok (.iload_n 3, 1) := by decide +kernel
theorem dX13_addCrate_119 : decode cX13_addCrate 119 = .ok (.bipush 8, 2) := by decide +kernel
theorem dX13_addCrate_121 : decode cX13_addCrate 121 = .ok (.iconst (-1), 1) := by decide +kernel
theorem dX13_addCrate_122 : decode cX13_addCrate 122 = .ok (.invokevirtual 74, 3) := by decide +kernel
theorem dX13_addCrate_125 : decode cX13_addCrate 125 = .ok (.iload_n 3, 1) := by decide +kernel
theorem dX13_addCrate_126 : decode cX13_addCrate 126 = .ok (.ireturn, 1) := by decide +kernel
def sX13_addCrate_42 (w : Wl) (l1 : Int32) (l2 : Int32) (s1 : Int32) : Option (Int32 × Wl) := (if ((wst w 371 5 s1) 371 5) = 0 then (sX13_keep (wst w 371 5 s1) ).bind (fun r4 => (sX13_put (wst r4 372 2 ((r4 372 2) + (1 : Int32))) (r4 372 2) (0 : Int32) l2).bind (fun r10 => (sX13_put r10 (r4 372 2) (1 : Int32) (1 : Int32)).bind (fun r14 => (sX13_put r14 (r4 372 2) (2 : Int32) (-1 : Int32)).bind (fun r18 => (sX13_put r18 (r4 372 2) (3 : Int32) l1).bind (fun r22 => (sX13_put r22 (r4 372 2) (4 : Int32) (-1 : Int32)).bind (fun r26 => (sX13_put r26 (r4 372 2) (5 : Int32) (-1 : Int32)).bind (fun r30 => (sX13_put r30 (r4 372 2) (8 : Int32) (-1 : Int32)).bind (fun r34 => some ((r4 372 2), r34))))))))) else some ((0 : Int32), (wst w 371 5 s1)))
theorem tX13_addCrate_42 {X : Cx} {B : Bs} {sz : Nat} {r : (Int32 × Wl)} (hx : Fx X cX13_addCrate 4 RX13 2 0 0) (hr : Rt X (some .int) 0 0 (WΨ (xΓ X) B (some (.int (r.1))) r.2 sz)) : ∀ (w : Wl) (l1 : Int32) (l2 : Int32) (s1 : Int32) {G : Gf} (hW : Wd (xΓ X) B w G) (h : sX13_addCrate_42  w l1 l2 s1 = some r), J X 4 G sz 0 0 42 [some (.ref (B.1 + 371)), some (.int l1), some (.int l2), none] [.int s1, .ref (B.1 + 371)] := by
  intro w l1 l2 s1 G hW h
  unfold sX13_addCrate_42 at h
  refine p13_5 hx hW (rfl : kd 371 = 19) fl_X13_25 dX13_addCrate_42 fun G1 hW2 => ?_
  refine J_al4 hx rfl rfl dX13_addCrate_45 ?_
  refine g13_5 hx hW2 (rfl : kd 371 = 19) fl_X13_25 dX13_addCrate_46 ?_
  refine J_if_eq hx 54 dX13_addCrate_49 rfl (fun h3 => ?_) (fun h3 => ?_)
  · replace h := pos h h3
    refine J_al4 hx rfl rfl dX13_addCrate_54 ?_
    obtain ⟨r4, hr5, h⟩ := bnd h
    refine J_wrV hx (kX13_keep  hW2 hr5) ml_X13_62 lk_X13_keep (ci := 11) rfl (hW2.obj (rfl : kd 371 = 19) (by decide) (by decide)) (rest := []) rfl rfl (by decide) (by decide) (Nat.le_of_ble_eq_true rfl) (Nat.le_refl 0) (Nat.le_refl 0) dX13_addCrate_55 fun G6 hW7 => ?_
    show J X 4 G6 sz 0 0 58 [some (.ref (B.1 + 371)), some (.int l1), some (.int l2), none] []
    refine J_al4 hx rfl rfl dX13_addCrate_58 ?_
    refine g13_0 hx hW7 372 (rfl : kd 371 = 19) fl_X13_7 rfl dX13_addCrate_59 ?_
    refine J_iconst hx (2 : Int32) dX13_addCrate_62 rfl ?_
    refine J_iaW hx hW7 (rfl : kd 372 = 641) (by decide +kernel : idx (2 : Int32) 541 = some 2) dX13_addCrate_63 ?_
    refine J_is4 hx rfl (by decide) (hc_of rfl) rfl dX13_addCrate_64 ?_
    refine J_al4 hx rfl rfl dX13_addCrate_65 ?_
    refine g13_0 hx hW7 372 (rfl : kd 371 = 19) fl_X13_7 rfl dX13_addCrate_66 ?_
    refine J_iconst hx (2 : Int32) dX13_addCrate_69 rfl ?_
    refine J_dup2 hx dX13_addCrate_70 ?_
    refine J_iaW hx hW7 (rfl : kd 372 = 641) (by decide +kernel : idx (2 : Int32) 541 = some 2) dX13_addCrate_71 ?_
    refine J_iconst hx (1 : Int32) dX13_addCrate_72 rfl ?_
    refine J_iadd hx dX13_addCrate_73 ?_
    refine J_iaS hx hW7 (rfl : kd 372 = 641) (by decide +kernel : idx (2 : Int32) 541 = some 2) dX13_addCrate_74 fun G8 hW9 => ?_
    refine J_al4 hx rfl rfl dX13_addCrate_75 ?_
    refine J_il4 hx rfl rfl dX13_addCrate_76 ?_
    refine J_iconst hx (0 : Int32) dX13_addCrate_77 rfl ?_
    refine J_il4 hx rfl rfl dX13_addCrate_78 ?_
    obtain ⟨r10, hr11, h⟩ := bnd h
    refine J_wrV hx (kX13_put  hW9 hr11) ml_X13_74 lk_X13_put (ci := 11) rfl (hW9.obj (rfl : kd 371 = 19) (by decide) (by decide)) (rest := []) rfl rfl (by decide) (by decide) (Nat.le_of_ble_eq_true rfl) (Nat.le_refl 0) (Nat.le_refl 0) dX13_addCrate_79 fun G12 hW13 => ?_
    show J X 4 G12 sz 0 0 82 [some (.ref (B.1 + 371)), some (.int l1), some (.int l2), some (.int (r4 372 2))] []
    refine J_al4 hx rfl rfl dX13_addCrate_82 ?_
    refine J_il4 hx rfl rfl dX13_addCrate_83 ?_
    refine J_iconst hx (1 : Int32) dX13_addCrate_84 rfl ?_
    refine J_iconst hx (1 : Int32) dX13_addCrate_85 rfl ?_
    obtain ⟨r14, hr15, h⟩ := bnd h
    refine J_wrV hx (kX13_put  hW13 hr15) ml_X13_74 lk_X13_put (ci := 11) rfl (hW13.obj (rfl : kd 371 = 19) (by decide) (by decide)) (rest := []) rfl rfl (by decide) (by decide) (Nat.le_of_ble_eq_true rfl) (Nat.le_refl 0) (Nat.le_refl 0) dX13_addCrate_86 fun G16 hW17 => ?_
    show J X 4 G16 sz 0 0 89 [some (.ref (B.1 + 371)), some (.int l1), some (.int l2), some (.int (r4 372 2))] []
    refine J_al4 hx rfl rfl dX13_addCrate_89 ?_
    refine J_il4 hx rfl rfl dX13_addCrate_90 ?_
    refine J_iconst hx (2 : Int32) dX13_addCrate_91 rfl ?_
    refine J_iconst hx (-1 : Int32) dX13_addCrate_92 rfl ?_
    obtain ⟨r18, hr19, h⟩ := bnd h
    refine J_wrV hx (kX13_put  hW17 hr19) ml_X13_74 lk_X13_put (ci := 11) rfl (hW17.obj (rfl : kd 371 = 19) (by decide) (by decide)) (rest := []) rfl rfl (by decide) (by decide) (Nat.le_of_ble_eq_true rfl) (Nat.le_refl 0) (Nat.le_refl 0) dX13_addCrate_93 fun G20 hW21 => ?_
    show J X 4 G20 sz 0 0 96 [some (.ref (B.1 + 371)), some (.int l1), some (.int l2), some (.int (r4 372 2))] []
    refine J_al4 hx rfl rfl dX13_addCrate_96 ?_
    refine J_il4 hx rfl rfl dX13_addCrate_97 ?_
    refine J_iconst hx (3 : Int32) dX13_addCrate_98 rfl ?_
    refine J_il4 hx rfl rfl dX13_addCrate_99 ?_
    obtain ⟨r22, hr23, h⟩ := bnd h
    refine J_wrV hx (kX13_put  hW21 hr23) ml_X13_74 lk_X13_put (ci := 11) rfl (hW21.obj (rfl : kd 371 = 19) (by decide) (by decide)) (rest := []) rfl rfl (by decide) (by decide) (Nat.le_of_ble_eq_true rfl) (Nat.le_refl 0) (Nat.le_refl 0) dX13_addCrate_100 fun G24 hW25 => ?_
    show J X 4 G24 sz 0 0 103 [some (.ref (B.1 + 371)), some (.int l1), some (.int l2), some (.int (r4 372 2))] []
    refine J_al4 hx rfl rfl dX13_addCrate_103 ?_
    refine J_il4 hx rfl rfl dX13_addCrate_104 ?_
    refine J_iconst hx (4 : Int32) dX13_addCrate_105 rfl ?_
    refine J_iconst hx (-1 : Int32) dX13_addCrate_106 rfl ?_
    obtain ⟨r26, hr27, h⟩ := bnd h
    refine J_wrV hx (kX13_put  hW25 hr27) ml_X13_74 lk_X13_put (ci := 11) rfl (hW25.obj (rfl : kd 371 = 19) (by decide) (by decide)) (rest := []) rfl rfl (by decide) (by decide) (Nat.le_of_ble_eq_true rfl) (Nat.le_refl 0) (Nat.le_refl 0) dX13_addCrate_107 fun G28 hW29 => ?_
    show J X 4 G28 sz 0 0 110 [some (.ref (B.1 + 371)), some (.int l1), some (.int l2), some (.int (r4 372 2))] []
    refine J_al4 hx rfl rfl dX13_addCrate_110 ?_
    refine J_il4 hx rfl rfl dX13_addCrate_111 ?_
    refine J_iconst hx (5 : Int32) dX13_addCrate_112 rfl ?_
    refine J_iconst hx (-1 : Int32) dX13_addCrate_113 rfl ?_
    obtain ⟨r30, hr31, h⟩ := bnd h
    refine J_wrV hx (kX13_put  hW29 hr31) ml_X13_74 lk_X13_put (ci := 11) rfl (hW29.obj (rfl : kd 371 = 19) (by decide) (by decide)) (rest := []) rfl rfl (by decide) (by decide) (Nat.le_of_ble_eq_true rfl) (Nat.le_refl 0) (Nat.le_refl 0) dX13_addCrate_114 fun G32 hW33 => ?_
    show J X 4 G32 sz 0 0 117 [some (.ref (B.1 + 371)), some (.int l1), some (.int l2), some (.int (r4 372 2))] []
    refine J_al4 hx rfl rfl dX13_addCrate_117 ?_
    refine J_il4 hx rfl rfl dX13_addCrate_118 ?_
    refine J_bipush hx (8 : Int32) dX13_addCrate_119 rfl ?_
    refine J_iconst hx (-1 : Int32) dX13_addCrate_121 rfl ?_
    obtain ⟨r34, hr35, h⟩ := bnd h
    refine J_wrV hx (kX13_put  hW33 hr35) ml_X13_74 lk_X13_put (ci := 11) rfl (hW33.obj (rfl : kd 371 = 19) (by decide) (by decide)) (rest := []) rfl rfl (by decide) (by decide) (Nat.le_of_ble_eq_true rfl) (Nat.le_refl 0) (Nat.le_refl 0) dX13_addCrate_122 fun G36 hW37 => ?_
    show J X 4 G36 sz 0 0 125 [some (.ref (B.1 + 371)), some (.int l1), some (.int l2), some (.int (r4 372 2))] []
    refine J_il4 hx rfl rfl dX13_addCrate_125 ?_
    obtain rfl := Option.some.inj h
    exact J_iretW hx hr hW37 dX13_addCrate_126 (Nat.le_refl 0) (Nat.le_refl 0)
  · replace h := neg h h3
    refine J_iconst hx (0 : Int32) dX13_addCrate_52 rfl ?_
    obtain rfl := Option.some.inj h
    exact J_iretW hx hr hW2 dX13_addCrate_53 (Nat.le_refl 0) (Nat.le_refl 0)
def sX13_addCrate (w : Wl) (l1 : Int32) (l2 : Int32) : Option (Int32 × Wl) := (sX13_isVenue w l1).bind (fun r1 => (if r1 = true then (sX13_in w l2 (1 : Int32) (4 : Int32)).bind (fun r4 => (if r4 = true then (if (w 372 2) = (12 : Int32) then sX13_addCrate_42 w l1 l2 (3 : Int32) else sX13_addCrate_42 w l1 l2 (0 : Int32)) else sX13_addCrate_42 w l1 l2 (2 : Int32))) else sX13_addCrate_42 w l1 l2 (1 : Int32)))
theorem kX13_addCrate {l : Launch} {Γ : Gl} {B : Bs} {w : Wl} {G : Gf} {sz : Nat} {l1 : Int32} {l2 : Int32} {r : (Int32 × Wl)} (hW : Wd Γ B w G) (h : sX13_addCrate w l1 l2 = some r) : CtW l Γ yX13_addCrate cX13_addCrate 4 (some .int) 2 [.ref (B.1 + 371), .int l1, .int l2] G sz B (some (.int (r.1))) r.2 := by
  refine Ct.of rfl (Nat.le_of_ble_eq_true rfl) fun X hx hr hl hΓ hnm => ?_
  subst hl hΓ
  show J X 4 G sz 0 0 0 [some (.ref (B.1 + 371)), some (.int l1), some (.int l2), none] []
  unfold sX13_addCrate at h
  refine J_al4 hx rfl rfl dX13_addCrate_0 ?_
  refine J_al4 hx rfl rfl dX13_addCrate_1 ?_
  refine J_il4 hx rfl rfl dX13_addCrate_2 ?_
  obtain ⟨r1, hr2, h⟩ := bnd h
  refine J_rdV hx (kX13_isVenue  hW hr2) ml_X13_65 lk_X13_isVenue (ci := 11) rfl (hW.obj (rfl : kd 371 = 19) (by decide) (by decide)) (rest := [.ref (B.1 + 371)]) rfl rfl (by decide) (by decide) (Nat.le_of_ble_eq_true rfl) (Nat.le_refl 0) (Nat.le_refl 0) dX13_addCrate_3 ?_
  refine J_bif_ne hx 13 dX13_addCrate_6 rfl (fun h3 => ?_) (fun h3 => ?_)
  · replace h := pos h h3
    refine J_il4 hx rfl rfl dX13_addCrate_13 ?_
    refine J_iconst hx (1 : Int32) dX13_addCrate_14 rfl ?_
    refine J_iconst hx (4 : Int32) dX13_addCrate_15 rfl ?_
    obtain ⟨r4, hr5, h⟩ := bnd h
    refine J_rdS hx (kX13_in  hW hr5) ml_X13_32 lk_X13_in (rest := [.ref (B.1 + 371)]) rfl rfl (by decide) (by decide) (Nat.le_of_ble_eq_true rfl) (Nat.le_refl 0) (Nat.le_refl 0) dX13_addCrate_16 ?_
    refine J_bif_ne hx 26 dX13_addCrate_19 rfl (fun h6 => ?_) (fun h6 => ?_)
    · replace h := pos h h6
      refine J_al4 hx rfl rfl dX13_addCrate_26 ?_
      refine g13_0 hx hW 372 (rfl : kd 371 = 19) fl_X13_7 rfl dX13_addCrate_27 ?_
      refine J_iconst hx (2 : Int32) dX13_addCrate_30 rfl ?_
      refine J_iaW hx hW (rfl : kd 372 = 641) (by decide +kernel : idx (2 : Int32) 541 = some 2) dX13_addCrate_31 ?_
      refine J_bipush hx (12 : Int32) dX13_addCrate_32 rfl ?_
      refine J_icmp_ne hx 41 dX13_addCrate_34 rfl (fun h7 => ?_) (fun h7 => ?_)
      · replace h := neg h h7
        refine J_iconst hx (0 : Int32) dX13_addCrate_41 rfl ?_
        exact tX13_addCrate_42 hx hr _ _ _ _  hW h
      · replace h := pos h h7
        refine J_iconst hx (3 : Int32) dX13_addCrate_37 rfl ?_
        refine J_goto hx 42 dX13_addCrate_38 rfl ?_
        exact tX13_addCrate_42 hx hr _ _ _ _  hW h
    · replace h := neg h (bft h6)
      refine J_iconst hx (2 : Int32) dX13_addCrate_22 rfl ?_
      refine J_goto hx 42 dX13_addCrate_23 rfl ?_
      exact tX13_addCrate_42 hx hr _ _ _ _  hW h
  · replace h := neg h (bft h3)
    refine J_iconst hx (1 : Int32) dX13_addCrate_9 rfl ?_
    refine J_goto hx 42 dX13_addCrate_10 rfl ?_
    exact tX13_addCrate_42 hx hr _ _ _ _  hW h
theorem dX13_addWork_0 : decode cX13_addWork 0 = .ok (.iload_n 2, 1) := by decide +kernel
theorem dX13_addWork_1 : decode cX13_addWork 1 = .ok (.iconst 0, 1) := by decide +kernel
theorem dX13_addWork_2 : decode cX13_addWork 2 = .ok (.iconst 5, 1) := by decide +kernel
theorem dX13_addWork_3 : decode cX13_addWork 3 = .ok (.invokestatic 32, 3) := by decide +kernel
theorem dX13_addWork_6 : decode cX13_addWork 6 = .ok (.ifCond .eq 28, 3) := by decide +kernel
theorem dX13_addWork_9 : decode cX13_addWork 9 = .ok (.iload_n 3, 1) := by decide +kernel
theorem dX13_addWork_10 : decode cX13_addWork 10 = .ok (.iconst 1, 1) := by decide +kernel
theorem dX13_addWork_11 : decode cX13_addWork 11 = .ok (.ldc 78, 2) := by decide +kernel
theorem dX13_addWork_13 : decode cX13_addWork 13 = .ok (.invokestatic 32, 3) := by decide +kernel
theorem dX13_addWork_16 : decode cX13_addWork 16 = .ok (.ifCond .eq 18, 3) := by decide +kernel
theorem dX13_addWork_19 : decode cX13_addWork 19 = .ok (.iload 4, 2) := by decide +kernel
theorem dX13_addWork_21 : decode cX13_addWork 21 = .ok (.iconst 0, 1) := by decide +kernel
theorem dX13_addWork_22 : decode cX13_addWork 22 = .ok (.bipush 20, 2) := by decide +kernel
theorem dX13_addWork_24 : decode cX13_addWork 24 = .ok (.invokestatic 32, 3) := by decide +kernel
theorem dX13_addWork_27 : decode cX13_addWork 27 = .ok (.ifCond .eq 7, 3) := by decide +kernel
theorem dX13_addWork_30 : decode cX13_addWork 30 = .ok (.iconst 1, 1) := by decide +kernel
theorem dX13_addWork_31 : decode cX13_addWork 31 = .ok (.goto 4, 3) := by decide +kernel
theorem dX13_addWork_34 : decode cX13_addWork 34 = .ok (.iconst 0, 1) := by decide +kernel
theorem dX13_addWork_35 : decode cX13_addWork 35 = .ok (.istore 6, 2) := by decide +kernel
theorem dX13_addWork_37 : decode cX13_addWork 37 = .ok (.aload_n 0, 1) := by decide +kernel
theorem dX13_addWork_38 : decode cX13_addWork 38 = .ok (.aload_n 0, 1) := by decide +kernel
theorem dX13_addWork_39 : decode cX13_addWork 39 = .ok (.iload_n 1, 1) := by decide +kernel
theorem dX13_addWork_40 : decode cX13_addWork 40 = .ok (.invokevirtual 65, 3) := by decide +kernel
theorem dX13_addWork_43 : decode cX13_addWork 43 = .ok (.ifCond .ne 7, 3) := by decide +kernel
theorem dX13_addWork_46 : decode cX13_addWork 46 = .ok (.iconst 1, 1) := by decide +kernel
theorem dX13_addWork_47 : decode cX13_addWork 47 = .ok (.goto 28, 3) := by decide +kernel
theorem dX13_addWork_50 : decode cX13_addWork 50 = .ok (.iload 6, 2) := by decide +kernel
theorem dX13_addWork_52 : decode cX13_addWork 52 = .ok (.ifCond .ne 7, 3) := by decide +kernel
theorem dX13_addWork_55 : decode cX13_addWork 55 = .ok (.iconst 2, 1) := by decide +kernel
theorem dX13_addWork_56 : decode cX13_addWork 56 = .ok (.goto 19, 3) := by decide +kernel
theorem dX13_addWork_59 : decode cX13_addWork 59 = .ok (.aload_n 0, 1) := by decide +kernel
theorem dX13_addWork_60 : decode cX13_addWork 60 = .ok (.getfield 7, 3) := by decide +kernel
theorem dX13_addWork_63 : decode cX13_addWork 63 = .ok (.iconst 3, 1) := by decide +kernel
theorem dX13_addWork_64 : decode cX13_addWork 64 = .ok (.iaload, 1) := by decide +kernel
theorem dX13_addWork_65 : decode cX13_addWork 65 = .ok (.bipush 16, 2) := by decide +kernel
theorem dX13_addWork_67 : decode cX13_addWork 67 = .ok (.if_icmp .ne 7, 3) := by decide +kernel
theorem dX13_addWork_70 : decode cX13_addWork 70 = .ok (.iconst 3, 1) := by decide +kernel
theorem dX13_addWork_71 : decode cX13_addWork 71 = .ok (.goto 4, 3) := by decide +kernel
theorem dX13_addWork_74 : decode cX13_addWork 74 = .ok (.iconst 0, 1) := by decide +kernel
theorem dX13_addWork_75 : decode cX13_addWork 75 = .ok (.putfield 25, 3) := by decide +kernel
theorem dX13_addWork_78 : decode cX13_addWork 78 = .ok (.aload_n 0, 1) := by decide +kernel
theorem dX13_addWork_79 : decode cX13_addWork 79 = .ok (.getfield 25, 3) := by decide +kernel
theorem dX13_addWork_82 : decode cX13_addWork 82 = .ok (.ifCond .eq 5, 3) := by decide +kernel
theorem dX13_addWork_85 : decode cX13_addWork 85 = .ok (.iconst 0, 1) := by decide +kernel
theorem dX13_addWork_86 : decode cX13_addWork 86 = .ok (.ireturn, 1) := by decide +kernel
theorem dX13_addWork_87 : decode cX13_addWork 87 = .ok (.aload_n 0, 1) := by decide +kernel
theorem dX13_addWork_88 : decode cX13_addWork 88 = .ok (.invokevirtual 62, 3) := by decide +kernel
theorem dX13_addWork_91 : decode cX13_addWork 91 = .ok (.aload_n 0, 1) := by decide +kernel
theorem dX13_addWork_92 : decode cX13_addWork 92 = .ok (.getfield 7, 3) := by decide +kernel
theorem dX13_addWork_95 : decode cX13_addWork 95 = .ok (.iconst 3, 1) := by decide +kernel
theorem dX13_addWork_96 : decode cX13_addWork 96 = .ok (.iaload, 1) := by decide +kernel
theorem dX13_addWork_97 : decode cX13_addWork 97 = .ok (.istore 7, 2) := by decide +kernel
theorem dX13_addWork_99 : decode cX13_addWork 99 = .ok (.aload_n 0, 1) := by decide +kernel
theorem dX13_addWork_100 : decode cX13_addWork 100 = .ok (.getfield 7, 3) := by decide +kernel
theorem dX13_addWork_103 : decode cX13_addWork 103 = .ok (.iconst 3, 1) := by decide +kernel
theorem dX13_addWork_104 : decode cX13_addWork 104 = .ok (.dup2, 1) := by decide +kernel
theorem dX13_addWork_105 : decode cX13_addWork 105 = .ok (.iaload, 1) := by decide +kernel
theorem dX13_addWork_106 : decode cX13_addWork 106 = .ok (.iconst 1, 1) := by decide +kernel
theorem dX13_addWork_107 : decode cX13_addWork 107 = .ok (.iadd, 1) := by decide +kernel
theorem dX13_addWork_108 : decode cX13_addWork 108 = .ok (.iastore, 1) := by decide +kernel
theorem dX13_addWork_109 : decode cX13_addWork 109 = .ok (.aload_n 0, 1) := by decide +kernel
theorem dX13_addWork_110 : decode cX13_addWork 110 = .ok (.iload 7, 2) := by decide +kernel
theorem dX13_addWork_112 : decode cX13_addWork 112 = .ok (.iconst 0, 1) := by decide +kernel
theorem dX13_addWork_113 : decode cX13_addWork 113 = .ok (.iload_n 2, 1) := by decide +kernel
theorem dX13_addWork_114 : decode cX13_addWork 114 = .ok (.invokevirtual 79, 3) := by decide +kernel
theorem dX13_addWork_117 : decode cX13_addWork 117 = .ok (.aload_n 0, 1) := by decide +kernel
theorem dX13_addWork_118 : decode cX13_addWork 118 = .ok (.iload 7, 2) := by decide +kernel
theorem dX13_addWork_120 : decode cX13_addWork 120 = .ok (.iconst 1, 1) := by decide +kernel
theorem dX13_addWork_121 : decode cX13_addWork 121 = .ok (.iload_n 3, 1) := by decide +kernel
theorem dX13_addWork_122 : decode cX13_addWork 122 = .ok (.invokevirtual 79, 3) := by decide +kernel
theorem dX13_addWork_125 : decode cX13_addWork 125 = .ok (.aload_n 0, 1) := by decide +kernel
theorem dX13_addWork_126 : decode cX13_addWork 126 = .ok (.iload 7, 2) := by decide +kernel
theorem dX13_addWork_128 : decode cX13_addWork 128 = .ok (.iconst 2, 1) := by decide +kernel
theorem dX13_addWork_129 : decode cX13_addWork 129 = .ok (.iload 4, 2) := by decide +kernel
theorem dX13_addWork_131 : decode cX13_addWork 131 = .ok (.invokevirtual 79, 3) := by decide +kernel
theorem dX13_addWork_134 : decode cX13_addWork 134 = .ok (.aload_n 0, 1) := by decide +kernel
theorem dX13_addWork_135 : decode cX13_addWork 135 = .ok (.iload 7, 2) := by decide +kernel
theorem dX13_addWork_137 : decode cX13_addWork 137 = .ok (.iconst 3, 1) := by decide +kernel
theorem dX13_addWork_138 : decode cX13_addWork 138 = .ok (.iload 5, 2) := by decide +kernel
theorem dX13_addWork_140 : decode cX13_addWork 140 = .ok (.ifCond .eq 7, 3) := by decide +kernel
theorem dX13_addWork_143 : decode cX13_addWork 143 = .ok (.iconst 1, 1) := by decide +kernel
theorem dX13_addWork_144 : decode cX13_addWork 144 = .ok (.goto 4, 3) := by decide +kernel
theorem dX13_addWork_147 : decode cX13_addWork 147 = .ok (.iconst 0, 1) := by decide +kernel
theorem dX13_addWork_148 : decode cX13_addWork 148 = .ok (.invokevirtual 79, 3) := by decide +kernel
theorem dX13_addWork_151 : decode cX13_addWork 151 = .ok (.aload_n 0, 1) := by decide +kernel
theorem dX13_addWork_152 : decode cX13_addWork 152 = .ok (.iload 7, 2) := by decide +kernel
theorem dX13_addWork_154 : decode cX13_addWork 154 = .ok (.iconst 4, 1) := by decide +kernel
theorem dX13_addWork_155 : decode cX13_addWork 155 = .ok (.iconst (-1), 1) := by decide +kernel
theorem dX13_addWork_156 : decode cX13_addWork 156 = .ok (.invokevirtual 79, 3) := by decide +kernel
theorem dX13_addWork_159 : decode cX13_addWork 159 = .ok (.aload_n 0, 1) := by decide +kernel
theorem dX13_addWork_160 : decode cX13_addWork 160 = .ok (.iload 7, 2) := by decide +kernel
theorem dX13_addWork_162 : decode cX13_addWork 162 = .ok (.iconst 5, 1) := by decide +kernel
theorem dX13_addWork_163 : decode cX13_addWork 163 = .ok (.iload_n 1, 1) := by decide +kernel
theorem dX13_addWork_164 : decode cX13_addWork 164 = .ok (.invokevirtual 79, 3) := by decide +kernel
theorem dX13_addWork_167 : decode cX13_addWork 167 = .ok (.aload_n 0, 1) := by decide +kernel
theorem dX13_addWork_168 : decode cX13_addWork 168 = .ok (.iload 7, 2) := by decide +kernel
theorem dX13_addWork_170 : decode cX13_addWork 170 = .ok (.bipush 6, 2) := by decide +kernel
theorem dX13_addWork_172 : decode cX13_addWork 172 = .ok (.iconst 0, 1) := by decide +kernel
theorem dX13_addWork_173 : decode cX13_addWork 173 = .ok (.invokevirtual 79, 3) := by decide +kernel
theorem dX13_addWork_176 : decode cX13_addWork 176 = .ok (.aload_n 0, 1) := by decide +kernel
theorem dX13_addWork_177 : decode cX13_addWork 177 = .ok (.iload 7, 2) := by decide +kernel
theorem dX13_addWork_179 : decode cX13_addWork 179 = .ok (.bipush 7, 2) := by decide +kernel
theorem dX13_addWork_181 : decode cX13_addWork 181 = .ok (.iconst 0, 1) := by decide +kernel
theorem dX13_addWork_182 : decode cX13_addWork 182 = .ok (.invokevirtual 79, 3) := by decide +kernel
theorem dX13_addWork_185 : decode cX13_addWork 185 = .ok (.iload 7, 2) := by decide +kernel
theorem dX13_addWork_187 : decode cX13_addWork 187 = .ok (.ireturn, 1) := by decide +kernel
def sX13_addWork_148 (w : Wl) (l1 : Int32) (l7 : Int32) (s1 : Int32) (s2 : Int32) (s3 : Int32) : Option (Int32 × Wl) := (sX13_putWork w s1 s2 s3).bind (fun r1 => (sX13_putWork r1 l7 (4 : Int32) (-1 : Int32)).bind (fun r5 => (sX13_putWork r5 l7 (5 : Int32) l1).bind (fun r9 => (sX13_putWork r9 l7 (6 : Int32) (0 : Int32)).bind (fun r13 => (sX13_putWork r13 l7 (7 : Int32) (0 : Int32)).bind (fun r17 => some (l7, r17))))))
theorem tX13_addWork_148 {X : Cx} {B : Bs} {sz : Nat} {r : (Int32 × Wl)} (hx : Fx X cX13_addWork 8 RX13 2 0 0) (hr : Rt X (some .int) 0 0 (WΨ (xΓ X) B (some (.int (r.1))) r.2 sz)) : ∀ (w : Wl) (l1 : Int32) (l7 : Int32) (s1 : Int32) (s2 : Int32) (s3 : Int32) {G : Gf} (hW : Wd (xΓ X) B w G) (h : sX13_addWork_148  w l1 l7 s1 s2 s3 = some r), J X 8 G sz 0 0 148 [some (.ref (B.1 + 371)), some (.int l1), none, none, none, none, none, some (.int l7)] [.int s3, .int s2, .int s1, .ref (B.1 + 371)] := by
  intro w l1 l7 s1 s2 s3 G hW h
  unfold sX13_addWork_148 at h
  obtain ⟨r1, hr2, h⟩ := bnd h
  refine J_wrV hx (kX13_putWork  hW hr2) ml_X13_79 lk_X13_putWork (ci := 11) rfl (hW.obj (rfl : kd 371 = 19) (by decide) (by decide)) (rest := []) rfl rfl (by decide) (by decide) (Nat.le_of_ble_eq_true rfl) (Nat.le_refl 0) (Nat.le_refl 0) dX13_addWork_148 fun G3 hW4 => ?_
  show J X 8 G3 sz 0 0 151 [some (.ref (B.1 + 371)), some (.int l1), none, none, none, none, none, some (.int l7)] []
  refine J_al4 hx rfl rfl dX13_addWork_151 ?_
  refine J_il hx rfl dX13_addWork_152 ?_
  refine J_iconst hx (4 : Int32) dX13_addWork_154 rfl ?_
  refine J_iconst hx (-1 : Int32) dX13_addWork_155 rfl ?_
  obtain ⟨r5, hr6, h⟩ := bnd h
  refine J_wrV hx (kX13_putWork  hW4 hr6) ml_X13_79 lk_X13_putWork (ci := 11) rfl (hW4.obj (rfl : kd 371 = 19) (by decide) (by decide)) (rest := []) rfl rfl (by decide) (by decide) (Nat.le_of_ble_eq_true rfl) (Nat.le_refl 0) (Nat.le_refl 0) dX13_addWork_156 fun G7 hW8 => ?_
  show J X 8 G7 sz 0 0 159 [some (.ref (B.1 + 371)), some (.int l1), none, none, none, none, none, some (.int l7)] []
  refine J_al4 hx rfl rfl dX13_addWork_159 ?_
  refine J_il hx rfl dX13_addWork_160 ?_
  refine J_iconst hx (5 : Int32) dX13_addWork_162 rfl ?_
  refine J_il4 hx rfl rfl dX13_addWork_163 ?_
  obtain ⟨r9, hr10, h⟩ := bnd h
  refine J_wrV hx (kX13_putWork  hW8 hr10) ml_X13_79 lk_X13_putWork (ci := 11) rfl (hW8.obj (rfl : kd 371 = 19) (by decide) (by decide)) (rest := []) rfl rfl (by decide) (by decide) (Nat.le_of_ble_eq_true rfl) (Nat.le_refl 0) (Nat.le_refl 0) dX13_addWork_164 fun G11 hW12 => ?_
  show J X 8 G11 sz 0 0 167 [some (.ref (B.1 + 371)), some (.int l1), none, none, none, none, none, some (.int l7)] []
  refine J_al4 hx rfl rfl dX13_addWork_167 ?_
  refine J_il hx rfl dX13_addWork_168 ?_
  refine J_bipush hx (6 : Int32) dX13_addWork_170 rfl ?_
  refine J_iconst hx (0 : Int32) dX13_addWork_172 rfl ?_
  obtain ⟨r13, hr14, h⟩ := bnd h
  refine J_wrV hx (kX13_putWork  hW12 hr14) ml_X13_79 lk_X13_putWork (ci := 11) rfl (hW12.obj (rfl : kd 371 = 19) (by decide) (by decide)) (rest := []) rfl rfl (by decide) (by decide) (Nat.le_of_ble_eq_true rfl) (Nat.le_refl 0) (Nat.le_refl 0) dX13_addWork_173 fun G15 hW16 => ?_
  show J X 8 G15 sz 0 0 176 [some (.ref (B.1 + 371)), some (.int l1), none, none, none, none, none, some (.int l7)] []
  refine J_al4 hx rfl rfl dX13_addWork_176 ?_
  refine J_il hx rfl dX13_addWork_177 ?_
  refine J_bipush hx (7 : Int32) dX13_addWork_179 rfl ?_
  refine J_iconst hx (0 : Int32) dX13_addWork_181 rfl ?_
  obtain ⟨r17, hr18, h⟩ := bnd h
  refine J_wrV hx (kX13_putWork  hW16 hr18) ml_X13_79 lk_X13_putWork (ci := 11) rfl (hW16.obj (rfl : kd 371 = 19) (by decide) (by decide)) (rest := []) rfl rfl (by decide) (by decide) (Nat.le_of_ble_eq_true rfl) (Nat.le_refl 0) (Nat.le_refl 0) dX13_addWork_182 fun G19 hW20 => ?_
  show J X 8 G19 sz 0 0 185 [some (.ref (B.1 + 371)), some (.int l1), none, none, none, none, none, some (.int l7)] []
  refine J_il hx rfl dX13_addWork_185 ?_
  obtain rfl := Option.some.inj h
  exact J_iretW hx hr hW20 dX13_addWork_187 (Nat.le_refl 0) (Nat.le_refl 0)
def sX13_addWork_75 (w : Wl) (l1 : Int32) (l2 : Int32) (l3 : Int32) (l4 : Int32) (l5 : Int32) (s1 : Int32) : Option (Int32 × Wl) := (if ((wst w 371 5 s1) 371 5) = 0 then (sX13_keep (wst w 371 5 s1) ).bind (fun r4 => (sX13_putWork (wst r4 372 3 ((r4 372 3) + (1 : Int32))) (r4 372 3) (0 : Int32) l2).bind (fun r10 => (sX13_putWork r10 (r4 372 3) (1 : Int32) l3).bind (fun r14 => (sX13_putWork r14 (r4 372 3) (2 : Int32) l4).bind (fun r18 => (if l5 = 0 then sX13_addWork_148 r18 l1 (r4 372 3) (r4 372 3) (3 : Int32) (0 : Int32) else sX13_addWork_148 r18 l1 (r4 372 3) (r4 372 3) (3 : Int32) (1 : Int32)))))) else some ((0 : Int32), (wst w 371 5 s1)))
theorem tX13_addWork_75 {X : Cx} {B : Bs} {sz : Nat} {r : (Int32 × Wl)} (hx : Fx X cX13_addWork 8 RX13 2 0 0) (hr : Rt X (some .int) 0 0 (WΨ (xΓ X) B (some (.int (r.1))) r.2 sz)) : ∀ (w : Wl) (l1 : Int32) (l2 : Int32) (l3 : Int32) (l4 : Int32) (l5 : Int32) (s1 : Int32) {G : Gf} (hW : Wd (xΓ X) B w G) (h : sX13_addWork_75  w l1 l2 l3 l4 l5 s1 = some r), J X 8 G sz 0 0 75 [some (.ref (B.1 + 371)), some (.int l1), some (.int l2), some (.int l3), some (.int l4), some (.int l5), none, none] [.int s1, .ref (B.1 + 371)] := by
  intro w l1 l2 l3 l4 l5 s1 G hW h
  unfold sX13_addWork_75 at h
  refine p13_5 hx hW (rfl : kd 371 = 19) fl_X13_25 dX13_addWork_75 fun G1 hW2 => ?_
  refine J_al4 hx rfl rfl dX13_addWork_78 ?_
  refine g13_5 hx hW2 (rfl : kd 371 = 19) fl_X13_25 dX13_addWork_79 ?_
  refine J_if_eq hx 87 dX13_addWork_82 rfl (fun h3 => ?_) (fun h3 => ?_)
  · replace h := pos h h3
    refine J_al4 hx rfl rfl dX13_addWork_87 ?_
    obtain ⟨r4, hr5, h⟩ := bnd h
    refine J_wrV hx (kX13_keep  hW2 hr5) ml_X13_62 lk_X13_keep (ci := 11) rfl (hW2.obj (rfl : kd 371 = 19) (by decide) (by decide)) (rest := []) rfl rfl (by decide) (by decide) (Nat.le_of_ble_eq_true rfl) (Nat.le_refl 0) (Nat.le_refl 0) dX13_addWork_88 fun G6 hW7 => ?_
    show J X 8 G6 sz 0 0 91 [some (.ref (B.1 + 371)), some (.int l1), some (.int l2), some (.int l3), some (.int l4), some (.int l5), none, none] []
    refine J_al4 hx rfl rfl dX13_addWork_91 ?_
    refine g13_0 hx hW7 372 (rfl : kd 371 = 19) fl_X13_7 rfl dX13_addWork_92 ?_
    refine J_iconst hx (3 : Int32) dX13_addWork_95 rfl ?_
    refine J_iaW hx hW7 (rfl : kd 372 = 641) (by decide +kernel : idx (3 : Int32) 541 = some 3) dX13_addWork_96 ?_
    refine J_is hx (by decide) (hc_of rfl) rfl dX13_addWork_97 ?_
    refine J_al4 hx rfl rfl dX13_addWork_99 ?_
    refine g13_0 hx hW7 372 (rfl : kd 371 = 19) fl_X13_7 rfl dX13_addWork_100 ?_
    refine J_iconst hx (3 : Int32) dX13_addWork_103 rfl ?_
    refine J_dup2 hx dX13_addWork_104 ?_
    refine J_iaW hx hW7 (rfl : kd 372 = 641) (by decide +kernel : idx (3 : Int32) 541 = some 3) dX13_addWork_105 ?_
    refine J_iconst hx (1 : Int32) dX13_addWork_106 rfl ?_
    refine J_iadd hx dX13_addWork_107 ?_
    refine J_iaS hx hW7 (rfl : kd 372 = 641) (by decide +kernel : idx (3 : Int32) 541 = some 3) dX13_addWork_108 fun G8 hW9 => ?_
    refine J_al4 hx rfl rfl dX13_addWork_109 ?_
    refine J_il hx rfl dX13_addWork_110 ?_
    refine J_iconst hx (0 : Int32) dX13_addWork_112 rfl ?_
    refine J_il4 hx rfl rfl dX13_addWork_113 ?_
    obtain ⟨r10, hr11, h⟩ := bnd h
    refine J_wrV hx (kX13_putWork  hW9 hr11) ml_X13_79 lk_X13_putWork (ci := 11) rfl (hW9.obj (rfl : kd 371 = 19) (by decide) (by decide)) (rest := []) rfl rfl (by decide) (by decide) (Nat.le_of_ble_eq_true rfl) (Nat.le_refl 0) (Nat.le_refl 0) dX13_addWork_114 fun G12 hW13 => ?_
    show J X 8 G12 sz 0 0 117 [some (.ref (B.1 + 371)), some (.int l1), some (.int l2), some (.int l3), some (.int l4), some (.int l5), none, some (.int (r4 372 3))] []
    refine J_al4 hx rfl rfl dX13_addWork_117 ?_
    refine J_il hx rfl dX13_addWork_118 ?_
    refine J_iconst hx (1 : Int32) dX13_addWork_120 rfl ?_
    refine J_il4 hx rfl rfl dX13_addWork_121 ?_
    obtain ⟨r14, hr15, h⟩ := bnd h
    refine J_wrV hx (kX13_putWork  hW13 hr15) ml_X13_79 lk_X13_putWork (ci := 11) rfl (hW13.obj (rfl : kd 371 = 19) (by decide) (by decide)) (rest := []) rfl rfl (by decide) (by decide) (Nat.le_of_ble_eq_true rfl) (Nat.le_refl 0) (Nat.le_refl 0) dX13_addWork_122 fun G16 hW17 => ?_
    show J X 8 G16 sz 0 0 125 [some (.ref (B.1 + 371)), some (.int l1), some (.int l2), some (.int l3), some (.int l4), some (.int l5), none, some (.int (r4 372 3))] []
    refine J_al4 hx rfl rfl dX13_addWork_125 ?_
    refine J_il hx rfl dX13_addWork_126 ?_
    refine J_iconst hx (2 : Int32) dX13_addWork_128 rfl ?_
    refine J_il hx rfl dX13_addWork_129 ?_
    obtain ⟨r18, hr19, h⟩ := bnd h
    refine J_wrV hx (kX13_putWork  hW17 hr19) ml_X13_79 lk_X13_putWork (ci := 11) rfl (hW17.obj (rfl : kd 371 = 19) (by decide) (by decide)) (rest := []) rfl rfl (by decide) (by decide) (Nat.le_of_ble_eq_true rfl) (Nat.le_refl 0) (Nat.le_refl 0) dX13_addWork_131 fun G20 hW21 => ?_
    show J X 8 G20 sz 0 0 134 [some (.ref (B.1 + 371)), some (.int l1), some (.int l2), some (.int l3), some (.int l4), some (.int l5), none, some (.int (r4 372 3))] []
    refine J_al4 hx rfl rfl dX13_addWork_134 ?_
    refine J_il hx rfl dX13_addWork_135 ?_
    refine J_iconst hx (3 : Int32) dX13_addWork_137 rfl ?_
    refine J_il hx rfl dX13_addWork_138 ?_
    refine J_if_eq hx 147 dX13_addWork_140 rfl (fun h22 => ?_) (fun h22 => ?_)
    · replace h := pos h h22
      refine J_iconst hx (0 : Int32) dX13_addWork_147 rfl ?_
      refine J_lw (ls' := [some (.ref (B.1 + 371)), some (.int l1), none, none, none, none, none, some (.int (r4 372 3))]) (lwS (lwS (lwN (lwN (lwN (lwN (lwN (lwS lwZ)))))))) ?_
      exact tX13_addWork_148 hx hr _ _ _ _ _ _  hW21 h
    · replace h := neg h h22
      refine J_iconst hx (1 : Int32) dX13_addWork_143 rfl ?_
      refine J_goto hx 148 dX13_addWork_144 rfl ?_
      refine J_lw (ls' := [some (.ref (B.1 + 371)), some (.int l1), none, none, none, none, none, some (.int (r4 372 3))]) (lwS (lwS (lwN (lwN (lwN (lwN (lwN (lwS lwZ)))))))) ?_
      exact tX13_addWork_148 hx hr _ _ _ _ _ _  hW21 h
  · replace h := neg h h3
    refine J_iconst hx (0 : Int32) dX13_addWork_85 rfl ?_
    obtain rfl := Option.some.inj h
    exact J_iretW hx hr hW2 dX13_addWork_86 (Nat.le_refl 0) (Nat.le_refl 0)
def sX13_addWork_35 (w : Wl) (l1 : Int32) (l2 : Int32) (l3 : Int32) (l4 : Int32) (l5 : Int32) (s0 : Int32) : Option (Int32 × Wl) := (sX13_isVenue w l1).bind (fun r1 => (if r1 = true then (if s0 = 0 then sX13_addWork_75 w l1 l2 l3 l4 l5 (2 : Int32) else (if (w 372 3) = (16 : Int32) then sX13_addWork_75 w l1 l2 l3 l4 l5 (3 : Int32) else sX13_addWork_75 w l1 l2 l3 l4 l5 (0 : Int32))) else sX13_addWork_75 w l1 l2 l3 l4 l5 (1 : Int32)))
theorem tX13_addWork_35 {X : Cx} {B : Bs} {sz : Nat} {r : (Int32 × Wl)} (hx : Fx X cX13_addWork 8 RX13 2 0 0) (hr : Rt X (some .int) 0 0 (WΨ (xΓ X) B (some (.int (r.1))) r.2 sz)) : ∀ (w : Wl) (l1 : Int32) (l2 : Int32) (l3 : Int32) (l4 : Int32) (l5 : Int32) (s0 : Int32) {G : Gf} (hW : Wd (xΓ X) B w G) (h : sX13_addWork_35  w l1 l2 l3 l4 l5 s0 = some r), J X 8 G sz 0 0 35 [some (.ref (B.1 + 371)), some (.int l1), some (.int l2), some (.int l3), some (.int l4), some (.int l5), none, none] [.int s0] := by
  intro w l1 l2 l3 l4 l5 s0 G hW h
  unfold sX13_addWork_35 at h
  refine J_is hx (by decide) (hc_of rfl) rfl dX13_addWork_35 ?_
  refine J_al4 hx rfl rfl dX13_addWork_37 ?_
  refine J_al4 hx rfl rfl dX13_addWork_38 ?_
  refine J_il4 hx rfl rfl dX13_addWork_39 ?_
  obtain ⟨r1, hr2, h⟩ := bnd h
  refine J_rdV hx (kX13_isVenue  hW hr2) ml_X13_65 lk_X13_isVenue (ci := 11) rfl (hW.obj (rfl : kd 371 = 19) (by decide) (by decide)) (rest := [.ref (B.1 + 371)]) rfl rfl (by decide) (by decide) (Nat.le_of_ble_eq_true rfl) (Nat.le_refl 0) (Nat.le_refl 0) dX13_addWork_40 ?_
  refine J_bif_ne hx 50 dX13_addWork_43 rfl (fun h3 => ?_) (fun h3 => ?_)
  · replace h := pos h h3
    refine J_il hx rfl dX13_addWork_50 ?_
    refine J_if_ne hx 59 dX13_addWork_52 rfl (fun h4 => ?_) (fun h4 => ?_)
    · replace h := neg h h4
      refine J_al4 hx rfl rfl dX13_addWork_59 ?_
      refine g13_0 hx hW 372 (rfl : kd 371 = 19) fl_X13_7 rfl dX13_addWork_60 ?_
      refine J_iconst hx (3 : Int32) dX13_addWork_63 rfl ?_
      refine J_iaW hx hW (rfl : kd 372 = 641) (by decide +kernel : idx (3 : Int32) 541 = some 3) dX13_addWork_64 ?_
      refine J_bipush hx (16 : Int32) dX13_addWork_65 rfl ?_
      refine J_icmp_ne hx 74 dX13_addWork_67 rfl (fun h5 => ?_) (fun h5 => ?_)
      · replace h := neg h h5
        refine J_iconst hx (0 : Int32) dX13_addWork_74 rfl ?_
        refine J_lw (ls' := [some (.ref (B.1 + 371)), some (.int l1), some (.int l2), some (.int l3), some (.int l4), some (.int l5), none, none]) (lwS (lwS (lwS (lwS (lwS (lwS (lwN (lwN lwZ)))))))) ?_
        exact tX13_addWork_75 hx hr _ _ _ _ _ _ _  hW h
      · replace h := pos h h5
        refine J_iconst hx (3 : Int32) dX13_addWork_70 rfl ?_
        refine J_goto hx 75 dX13_addWork_71 rfl ?_
        refine J_lw (ls' := [some (.ref (B.1 + 371)), some (.int l1), some (.int l2), some (.int l3), some (.int l4), some (.int l5), none, none]) (lwS (lwS (lwS (lwS (lwS (lwS (lwN (lwN lwZ)))))))) ?_
        exact tX13_addWork_75 hx hr _ _ _ _ _ _ _  hW h
    · replace h := pos h h4
      refine J_iconst hx (2 : Int32) dX13_addWork_55 rfl ?_
      refine J_goto hx 75 dX13_addWork_56 rfl ?_
      refine J_lw (ls' := [some (.ref (B.1 + 371)), some (.int l1), some (.int l2), some (.int l3), some (.int l4), some (.int l5), none, none]) (lwS (lwS (lwS (lwS (lwS (lwS (lwN (lwN lwZ)))))))) ?_
      exact tX13_addWork_75 hx hr _ _ _ _ _ _ _  hW h
  · replace h := neg h (bft h3)
    refine J_iconst hx (1 : Int32) dX13_addWork_46 rfl ?_
    refine J_goto hx 75 dX13_addWork_47 rfl ?_
    refine J_lw (ls' := [some (.ref (B.1 + 371)), some (.int l1), some (.int l2), some (.int l3), some (.int l4), some (.int l5), none, none]) (lwS (lwS (lwS (lwS (lwS (lwS (lwN (lwN lwZ)))))))) ?_
    exact tX13_addWork_75 hx hr _ _ _ _ _ _ _  hW h
def sX13_addWork (w : Wl) (l1 : Int32) (l2 : Int32) (l3 : Int32) (l4 : Int32) (l5 : Int32) : Option (Int32 × Wl) := (sX13_in w l2 (0 : Int32) (5 : Int32)).bind (fun r1 => (if r1 = true then (sX13_in w l3 (1 : Int32) (1000000 : Int32)).bind (fun r4 => (if r4 = true then (sX13_in w l4 (0 : Int32) (20 : Int32)).bind (fun r7 => (if r7 = true then sX13_addWork_35 w l1 l2 l3 l4 l5 (1 : Int32) else sX13_addWork_35 w l1 l2 l3 l4 l5 (0 : Int32))) else sX13_addWork_35 w l1 l2 l3 l4 l5 (0 : Int32))) else sX13_addWork_35 w l1 l2 l3 l4 l5 (0 : Int32)))
theorem kX13_addWork {l : Launch} {Γ : Gl} {B : Bs} {w : Wl} {G : Gf} {sz : Nat} {l1 : Int32} {l2 : Int32} {l3 : Int32} {l4 : Int32} {l5 : Int32} {r : (Int32 × Wl)} (hW : Wd Γ B w G) (h : sX13_addWork w l1 l2 l3 l4 l5 = some r) : CtW l Γ yX13_addWork cX13_addWork 8 (some .int) 2 [.ref (B.1 + 371), .int l1, .int l2, .int l3, .int l4, .int l5] G sz B (some (.int (r.1))) r.2 := by
  refine Ct.of rfl (Nat.le_of_ble_eq_true rfl) fun X hx hr hl hΓ hnm => ?_
  subst hl hΓ
  show J X 8 G sz 0 0 0 [some (.ref (B.1 + 371)), some (.int l1), some (.int l2), some (.int l3), some (.int l4), some (.int l5), none, none] []
  unfold sX13_addWork at h
  refine J_il4 hx rfl rfl dX13_addWork_0 ?_
  refine J_iconst hx (0 : Int32) dX13_addWork_1 rfl ?_
  refine J_iconst hx (5 : Int32) dX13_addWork_2 rfl ?_
  obtain ⟨r1, hr2, h⟩ := bnd h
  refine J_rdS hx (kX13_in  hW hr2) ml_X13_32 lk_X13_in (rest := []) rfl rfl (by decide) (by decide) (Nat.le_of_ble_eq_true rfl) (Nat.le_refl 0) (Nat.le_refl 0) dX13_addWork_3 ?_
  refine J_bif_eq hx 34 dX13_addWork_6 rfl (fun h3 => ?_) (fun h3 => ?_)
  · replace h := neg h (bft h3)
    refine J_iconst hx (0 : Int32) dX13_addWork_34 rfl ?_
    exact tX13_addWork_35 hx hr _ _ _ _ _ _ _  hW h
  · replace h := pos h h3
    refine J_il4 hx rfl rfl dX13_addWork_9 ?_
    refine J_iconst hx (1 : Int32) dX13_addWork_10 rfl ?_
    refine J_ldc hx cn_X13_78 dX13_addWork_11 ?_
    obtain ⟨r4, hr5, h⟩ := bnd h
    refine J_rdS hx (kX13_in  hW hr5) ml_X13_32 lk_X13_in (rest := []) rfl rfl (by decide) (by decide) (Nat.le_of_ble_eq_true rfl) (Nat.le_refl 0) (Nat.le_refl 0) dX13_addWork_13 ?_
    refine J_bif_eq hx 34 dX13_addWork_16 rfl (fun h6 => ?_) (fun h6 => ?_)
    · replace h := neg h (bft h6)
      refine J_iconst hx (0 : Int32) dX13_addWork_34 rfl ?_
      exact tX13_addWork_35 hx hr _ _ _ _ _ _ _  hW h
    · replace h := pos h h6
      refine J_il hx rfl dX13_addWork_19 ?_
      refine J_iconst hx (0 : Int32) dX13_addWork_21 rfl ?_
      refine J_bipush hx (20 : Int32) dX13_addWork_22 rfl ?_
      obtain ⟨r7, hr8, h⟩ := bnd h
      refine J_rdS hx (kX13_in  hW hr8) ml_X13_32 lk_X13_in (rest := []) rfl rfl (by decide) (by decide) (Nat.le_of_ble_eq_true rfl) (Nat.le_refl 0) (Nat.le_refl 0) dX13_addWork_24 ?_
      refine J_bif_eq hx 34 dX13_addWork_27 rfl (fun h9 => ?_) (fun h9 => ?_)
      · replace h := neg h (bft h9)
        refine J_iconst hx (0 : Int32) dX13_addWork_34 rfl ?_
        exact tX13_addWork_35 hx hr _ _ _ _ _ _ _  hW h
      · replace h := pos h h9
        refine J_iconst hx (1 : Int32) dX13_addWork_30 rfl ?_
        refine J_goto hx 35 dX13_addWork_31 rfl ?_
        exact tX13_addWork_35 hx hr _ _ _ _ _ _ _  hW h
theorem dX13_needs_0 : decode cX13_needs 0 = .ok (.iconst 4, 1) := by decide +kernel
theorem dX13_needs_1 : decode cX13_needs 1 = .ok (.aload_n 0, 1) := by decide +kernel
theorem dX13_needs_2 : decode cX13_needs 2 = .ok (.iload_n 1, 1) := by decide +kernel
theorem dX13_needs_3 : decode cX13_needs 3 = .ok (.bipush 6, 2) := by decide +kernel
theorem dX13_needs_5 : decode cX13_needs 5 = .ok (.invokevirtual 36, 3) := by decide +kernel
theorem dX13_needs_8 : decode cX13_needs 8 = .ok (.aload_n 0, 1) := by decide +kernel
theorem dX13_needs_9 : decode cX13_needs 9 = .ok (.iload_n 2, 1) := by decide +kernel
theorem dX13_needs_10 : decode cX13_needs 10 = .ok (.iconst 0, 1) := by decide +kernel
theorem dX13_needs_11 : decode cX13_needs 11 = .ok (.invokevirtual 68, 3) := by decide +kernel
theorem dX13_needs_14 : decode cX13_needs 14 = .ok (.isub, 1) := by decide +kernel
theorem dX13_needs_15 : decode cX13_needs 15 = .ok (.invokestatic 82, 3) := by decide +kernel
theorem dX13_needs_18 : decode cX13_needs 18 = .ok (.imul, 1) := by decide +kernel
theorem dX13_needs_19 : decode cX13_needs 19 = .ok (.aload_n 0, 1) := by decide +kernel
theorem dX13_needs_20 : decode cX13_needs 20 = .ok (.iload_n 1, 1) := by decide +kernel
theorem dX13_needs_21 : decode cX13_needs 21 = .ok (.bipush 7, 2) := by decide +kernel
theorem dX13_needs_23 : decode cX13_needs 23 = .ok (.invokevirtual 36, 3) := by decide +kernel
theorem dX13_needs_26 : decode cX13_needs 26 = .ok (.aload_n 0, 1) := by decide +kernel
theorem dX13_needs_27 : decode cX13_needs 27 = .ok (.iload_n 2, 1) := by decide +kernel
theorem dX13_needs_28 : decode cX13_needs 28 = .ok (.iconst 1, 1) := by decide +kernel
theorem dX13_needs_29 : decode cX13_needs 29 = .ok (.invokevirtual 68, 3) := by decide +kernel
theorem dX13_needs_32 : decode cX13_needs 32 = .ok (.isub, 1) := by decide +kernel
theorem dX13_needs_33 : decode cX13_needs 33 = .ok (.invokestatic 82, 3) := by decide +kernel
theorem dX13_needs_36 : decode cX13_needs 36 = .ok (.iadd, 1) := by decide +kernel
theorem dX13_needs_37 : decode cX13_needs 37 = .ok (.istore_n 3, 1) := by decide +kernel
theorem dX13_needs_38 : decode cX13_needs 38 = .ok (.aload_n 0, 1) := by decide +kernel
theorem dX13_needs_39 : decode cX13_needs 39 = .ok (.iload_n 1, 1) := by decide +kernel
theorem dX13_needs_40 : decode cX13_needs 40 = .ok (.iconst 0, 1) := by decide +kernel
theorem dX13_needs_41 : decode cX13_needs 41 = .ok (.invokevirtual 36, 3) := by decide +kernel
theorem dX13_needs_44 : decode cX13_needs 44 = .ok (.iload_n 3, 1) := by decide +kernel
theorem dX13_needs_45 : decode cX13_needs 45 = .ok (.imul, 1) := by decide +kernel
theorem dX13_needs_46 : decode cX13_needs 46 = .ok (.bipush 10, 2) := by decide +kernel
theorem dX13_needs_48 : decode cX13_needs 48 = .ok (.idiv, 1) := by decide +kernel
theorem dX13_needs_49 : decode cX13_needs 49 = .ok (.ireturn, 1) := by decide +kernel
def sX13_needs (w : Wl) (l1 : Int32) (l2 : Int32) : Option Int32 := (sX13_of w l1 (6 : Int32)).bind (fun r1 => (sX13_ofVenue w l2 (0 : Int32)).bind (fun r3 => (sX13_size w (r1 - r3)).bind (fun r5 => (sX13_of w l1 (7 : Int32)).bind (fun r7 => (sX13_ofVenue w l2 (1 : Int32)).bind (fun r9 => (sX13_size w (r7 - r9)).bind (fun r11 => (sX13_of w l1 (0 : Int32)).bind (fun r13 => some ((r13 * (((4 : Int32) * r5) + r11)) / (10 : Int32)))))))))
theorem kX13_needs {l : Launch} {Γ : Gl} {B : Bs} {w : Wl} {G : Gf} {sz : Nat} {l1 : Int32} {l2 : Int32} {r : Int32} (hW : Wd Γ B w G) (h : sX13_needs w l1 l2 = some r) : CtR l Γ yX13_needs cX13_needs 4 (some .int) 1 [.ref (B.1 + 371), .int l1, .int l2] G sz (.int (r)) := by
  refine Ct.of rfl (Nat.le_of_ble_eq_true rfl) fun X hx hr hl hΓ hnm => ?_
  subst hl hΓ
  show J X 4 G sz 0 0 0 [some (.ref (B.1 + 371)), some (.int l1), some (.int l2), none] []
  unfold sX13_needs at h
  refine J_iconst hx (4 : Int32) dX13_needs_0 rfl ?_
  refine J_al4 hx rfl rfl dX13_needs_1 ?_
  refine J_il4 hx rfl rfl dX13_needs_2 ?_
  refine J_bipush hx (6 : Int32) dX13_needs_3 rfl ?_
  obtain ⟨r1, hr2, h⟩ := bnd h
  refine J_rdV hx (kX13_of  hW hr2) ml_X13_36 lk_X13_of (ci := 11) rfl (hW.obj (rfl : kd 371 = 19) (by decide) (by decide)) (rest := [.int (4 : Int32)]) rfl rfl (by decide) (by decide) (Nat.le_of_ble_eq_true rfl) (Nat.le_refl 0) (Nat.le_refl 0) dX13_needs_5 ?_
  refine J_al4 hx rfl rfl dX13_needs_8 ?_
  refine J_il4 hx rfl rfl dX13_needs_9 ?_
  refine J_iconst hx (0 : Int32) dX13_needs_10 rfl ?_
  obtain ⟨r3, hr4, h⟩ := bnd h
  refine J_rdV hx (kX13_ofVenue  hW hr4) ml_X13_68 lk_X13_ofVenue (ci := 11) rfl (hW.obj (rfl : kd 371 = 19) (by decide) (by decide)) (rest := [.int r1, .int (4 : Int32)]) rfl rfl (by decide) (by decide) (Nat.le_of_ble_eq_true rfl) (Nat.le_refl 0) (Nat.le_refl 0) dX13_needs_11 ?_
  refine J_isub hx dX13_needs_14 ?_
  obtain ⟨r5, hr6, h⟩ := bnd h
  refine J_rdS hx (kX13_size  hW hr6) ml_X13_82 lk_X13_size (rest := [.int (4 : Int32)]) rfl rfl (by decide) (by decide) (Nat.le_of_ble_eq_true rfl) (Nat.le_refl 0) (Nat.le_refl 0) dX13_needs_15 ?_
  refine J_imul hx dX13_needs_18 ?_
  refine J_al4 hx rfl rfl dX13_needs_19 ?_
  refine J_il4 hx rfl rfl dX13_needs_20 ?_
  refine J_bipush hx (7 : Int32) dX13_needs_21 rfl ?_
  obtain ⟨r7, hr8, h⟩ := bnd h
  refine J_rdV hx (kX13_of  hW hr8) ml_X13_36 lk_X13_of (ci := 11) rfl (hW.obj (rfl : kd 371 = 19) (by decide) (by decide)) (rest := [.int ((4 : Int32) * r5)]) rfl rfl (by decide) (by decide) (Nat.le_of_ble_eq_true rfl) (Nat.le_refl 0) (Nat.le_refl 0) dX13_needs_23 ?_
  refine J_al4 hx rfl rfl dX13_needs_26 ?_
  refine J_il4 hx rfl rfl dX13_needs_27 ?_
  refine J_iconst hx (1 : Int32) dX13_needs_28 rfl ?_
  obtain ⟨r9, hr10, h⟩ := bnd h
  refine J_rdV hx (kX13_ofVenue  hW hr10) ml_X13_68 lk_X13_ofVenue (ci := 11) rfl (hW.obj (rfl : kd 371 = 19) (by decide) (by decide)) (rest := [.int r7, .int ((4 : Int32) * r5)]) rfl rfl (by decide) (by decide) (Nat.le_of_ble_eq_true rfl) (Nat.le_refl 0) (Nat.le_refl 0) dX13_needs_29 ?_
  refine J_isub hx dX13_needs_32 ?_
  obtain ⟨r11, hr12, h⟩ := bnd h
  refine J_rdS hx (kX13_size  hW hr12) ml_X13_82 lk_X13_size (rest := [.int ((4 : Int32) * r5)]) rfl rfl (by decide) (by decide) (Nat.le_of_ble_eq_true rfl) (Nat.le_refl 0) (Nat.le_refl 0) dX13_needs_33 ?_
  refine J_iadd hx dX13_needs_36 ?_
  refine J_is4 hx rfl (by decide) (hc_of rfl) rfl dX13_needs_37 ?_
  refine J_al4 hx rfl rfl dX13_needs_38 ?_
  refine J_il4 hx rfl rfl dX13_needs_39 ?_
  refine J_iconst hx (0 : Int32) dX13_needs_40 rfl ?_
  obtain ⟨r13, hr14, h⟩ := bnd h
  refine J_rdV hx (kX13_of  hW hr14) ml_X13_36 lk_X13_of (ci := 11) rfl (hW.obj (rfl : kd 371 = 19) (by decide) (by decide)) (rest := []) rfl rfl (by decide) (by decide) (Nat.le_of_ble_eq_true rfl) (Nat.le_refl 0) (Nat.le_refl 0) dX13_needs_41 ?_
  refine J_il4 hx rfl rfl dX13_needs_44 ?_
  refine J_imul hx dX13_needs_45 ?_
  refine J_bipush hx (10 : Int32) dX13_needs_46 rfl ?_
  refine J_idiv hx (by decide) dX13_needs_48 ?_
  exact J_iretR hx hr dX13_needs_49 (Nat.le_refl 0) (Nat.le_refl 0) (Option.some.inj h)
theorem dX13_notOpen_0 : decode cX13_notOpen 0 = .ok (.aload_n 0, 1) := by decide +kernel
theorem dX13_notOpen_1 : decode cX13_notOpen 1 = .ok (.iload_n 1, 1) := by decide +kernel
theorem dX13_notOpen_2 : decode cX13_notOpen 2 = .ok (.invokevirtual 85, 3) := by decide +kernel
theorem dX13_notOpen_5 : decode cX13_notOpen 5 = .ok (.ifCond .ne 5, 3) := by decide +kernel
theorem dX13_notOpen_8 : decode cX13_notOpen 8 = .ok (.iconst 1, 1) := by decide +kernel
theorem dX13_notOpen_9 : decode cX13_notOpen 9 = .ok (.ireturn, 1) := by decide +kernel
theorem dX13_notOpen_10 : decode cX13_notOpen 10 = .ok (.aload_n 0, 1) := by decide +kernel
theorem dX13_notOpen_11 : decode cX13_notOpen 11 = .ok (.iload_n 1, 1) := by decide +kernel
theorem dX13_notOpen_12 : decode cX13_notOpen 12 = .ok (.invokevirtual 47, 3) := by decide +kernel
theorem dX13_notOpen_15 : decode cX13_notOpen 15 = .ok (.ifCond .ne 42, 3) := by decide +kernel
theorem dX13_notOpen_18 : decode cX13_notOpen 18 = .ok (.aload_n 0, 1) := by decide +kernel
theorem dX13_notOpen_19 : decode cX13_notOpen 19 = .ok (.iload_n 1, 1) := by decide +kernel
theorem dX13_notOpen_20 : decode cX13_notOpen 20 = .ok (.invokevirtual 88, 3) := by decide +kernel
theorem dX13_notOpen_23 : decode cX13_notOpen 23 = .ok (.ifCond .eq 34, 3) := by decide +kernel
theorem dX13_notOpen_26 : decode cX13_notOpen 26 = .ok (.aload_n 0, 1) := by decide +kernel
theorem dX13_notOpen_27 : decode cX13_notOpen 27 = .ok (.getfield 7, 3) := by decide +kernel
theorem dX13_notOpen_30 : decode cX13_notOpen 30 = .ok (.iconst 0, 1) := by decide +kernel
theorem dX13_notOpen_31 : decode cX13_notOpen 31 = .ok (.iaload, 1) := by decide +kernel
theorem dX13_notOpen_32 : decode cX13_notOpen 32 = .ok (.aload_n 0, 1) := by decide +kernel
theorem dX13_notOpen_33 : decode cX13_notOpen 33 = .ok (.iload_n 1, 1) := by decide +kernel
theorem dX13_notOpen_34 : decode cX13_notOpen 34 = .ok (.bipush 8, 2) := by decide +kernel
theorem dX13_notOpen_36 : decode cX13_notOpen 36 = .ok (.invokevirtual 36, 3) := by decide +kernel
theorem dX13_notOpen_39 : decode cX13_notOpen 39 = .ok (.aload_n 0, 1) := by decide +kernel
theorem dX13_notOpen_40 : decode cX13_notOpen 40 = .ok (.iload_n 1, 1) := by decide +kernel
theorem dX13_notOpen_41 : decode cX13_notOpen 41 = .ok (.aload_n 0, 1) := by decide +kernel
theorem dX13_notOpen_42 : decode cX13_notOpen 42 = .ok (.iload_n 1, 1) := by decide +kernel
theorem dX13_notOpen_43 : decode cX13_notOpen 43 = .ok (.invokevirtual 44, 3) := by decide +kernel
theorem dX13_notOpen_46 : decode cX13_notOpen 46 = .ok (.invokevirtual 91, 3) := by decide +kernel
theorem dX13_notOpen_49 : decode cX13_notOpen 49 = .ok (.iadd, 1) := by decide +kernel
theorem dX13_notOpen_50 : decode cX13_notOpen 50 = .ok (.if_icmp .lt 7, 3) := by decide +kernel
theorem dX13_notOpen_53 : decode cX13_notOpen 53 = .ok (.iconst 1, 1) := by decide +kernel
theorem dX13_notOpen_54 : decode cX13_notOpen 54 = .ok (.goto 4, 3) := by decide +kernel
theorem dX13_notOpen_57 : decode cX13_notOpen 57 = .ok (.iconst 0, 1) := by decide +kernel
theorem dX13_notOpen_58 : decode cX13_notOpen 58 = .ok (.istore_n 2, 1) := by decide +kernel
theorem dX13_notOpen_59 : decode cX13_notOpen 59 = .ok (.iload_n 2, 1) := by decide +kernel
theorem dX13_notOpen_60 : decode cX13_notOpen 60 = .ok (.ifCond .eq 7, 3) := by decide +kernel
theorem dX13_notOpen_63 : decode cX13_notOpen 63 = .ok (.iconst 0, 1) := by decide +kernel
theorem dX13_notOpen_64 : decode cX13_notOpen 64 = .ok (.goto 4, 3) := by decide +kernel
theorem dX13_notOpen_67 : decode cX13_notOpen 67 = .ok (.iconst 2, 1) := by decide +kernel
theorem dX13_notOpen_68 : decode cX13_notOpen 68 = .ok (.ireturn, 1) := by decide +kernel
def sX13_notOpen_58 (w : Wl) (s0 : Int32) : Option Int32 := (if s0 = 0 then some (2 : Int32) else some (0 : Int32))
theorem tX13_notOpen_58 {X : Cx} {B : Bs} {sz : Nat} {G : Gf} {r : Int32} (hx : Fx X cX13_notOpen 3 RX13 4 0 0) (hr : Rt X (some .int) 0 0 (RdΨ (.int (r)) G sz)) : ∀ (w : Wl) (s0 : Int32) (hW : Wd (xΓ X) B w G) (h : sX13_notOpen_58  w s0 = some r), J X 3 G sz 0 0 58 [none, none, none] [.int s0] := by
  intro w s0 hW h
  unfold sX13_notOpen_58 at h
  refine J_is4 hx rfl (by decide) (hc_of rfl) rfl dX13_notOpen_58 ?_
  refine J_il4 hx rfl rfl dX13_notOpen_59 ?_
  refine J_if_eq hx 67 dX13_notOpen_60 rfl (fun h1 => ?_) (fun h1 => ?_)
  · replace h := pos h h1
    refine J_iconst hx (2 : Int32) dX13_notOpen_67 rfl ?_
    exact J_iretR hx hr dX13_notOpen_68 (Nat.le_refl 0) (Nat.le_refl 0) (Option.some.inj h)
  · replace h := neg h h1
    refine J_iconst hx (0 : Int32) dX13_notOpen_63 rfl ?_
    refine J_goto hx 68 dX13_notOpen_64 rfl ?_
    exact J_iretR hx hr dX13_notOpen_68 (Nat.le_refl 0) (Nat.le_refl 0) (Option.some.inj h)
def sX13_notOpen (w : Wl) (l1 : Int32) : Option Int32 := (sX13_isCrate w l1).bind (fun r1 => (if r1 = true then (sX13_isOpen w l1).bind (fun r4 => (if r4 = true then sX13_notOpen_58 w (0 : Int32) else (sX13_isReached w l1).bind (fun r7 => (if r7 = true then (sX13_of w l1 (8 : Int32)).bind (fun r10 => (sX13_venueOf w l1).bind (fun r12 => (sX13_needs w l1 r12).bind (fun r14 => (if (w 372 0) < (r10 + r14) then sX13_notOpen_58 w (0 : Int32) else sX13_notOpen_58 w (1 : Int32))))) else sX13_notOpen_58 w (0 : Int32))))) else some (1 : Int32)))
theorem kX13_notOpen {l : Launch} {Γ : Gl} {B : Bs} {w : Wl} {G : Gf} {sz : Nat} {l1 : Int32} {r : Int32} (hW : Wd Γ B w G) (h : sX13_notOpen w l1 = some r) : CtR l Γ yX13_notOpen cX13_notOpen 3 (some .int) 4 [.ref (B.1 + 371), .int l1] G sz (.int (r)) := by
  refine Ct.of rfl (Nat.le_of_ble_eq_true rfl) fun X hx hr hl hΓ hnm => ?_
  subst hl hΓ
  show J X 3 G sz 0 0 0 [some (.ref (B.1 + 371)), some (.int l1), none] []
  unfold sX13_notOpen at h
  refine J_al4 hx rfl rfl dX13_notOpen_0 ?_
  refine J_il4 hx rfl rfl dX13_notOpen_1 ?_
  obtain ⟨r1, hr2, h⟩ := bnd h
  refine J_rdV hx (kX13_isCrate  hW hr2) ml_X13_85 lk_X13_isCrate (ci := 11) rfl (hW.obj (rfl : kd 371 = 19) (by decide) (by decide)) (rest := []) rfl rfl (by decide) (by decide) (Nat.le_of_ble_eq_true rfl) (Nat.le_refl 0) (Nat.le_refl 0) dX13_notOpen_2 ?_
  refine J_bif_ne hx 10 dX13_notOpen_5 rfl (fun h3 => ?_) (fun h3 => ?_)
  · replace h := pos h h3
    refine J_al4 hx rfl rfl dX13_notOpen_10 ?_
    refine J_il4 hx rfl rfl dX13_notOpen_11 ?_
    obtain ⟨r4, hr5, h⟩ := bnd h
    refine J_rdV hx (kX13_isOpen  hW hr5) ml_X13_47 lk_X13_isOpen (ci := 11) rfl (hW.obj (rfl : kd 371 = 19) (by decide) (by decide)) (rest := []) rfl rfl (by decide) (by decide) (Nat.le_of_ble_eq_true rfl) (Nat.le_refl 0) (Nat.le_refl 0) dX13_notOpen_12 ?_
    refine J_bif_ne hx 57 dX13_notOpen_15 rfl (fun h6 => ?_) (fun h6 => ?_)
    · replace h := pos h h6
      refine J_iconst hx (0 : Int32) dX13_notOpen_57 rfl ?_
      refine J_lw (ls' := [none, none, none]) (lwN (lwN (lwN lwZ))) ?_
      exact tX13_notOpen_58 hx hr _ _  hW h
    · replace h := neg h (bft h6)
      refine J_al4 hx rfl rfl dX13_notOpen_18 ?_
      refine J_il4 hx rfl rfl dX13_notOpen_19 ?_
      obtain ⟨r7, hr8, h⟩ := bnd h
      refine J_rdV hx (kX13_isReached  hW hr8) ml_X13_88 lk_X13_isReached (ci := 11) rfl (hW.obj (rfl : kd 371 = 19) (by decide) (by decide)) (rest := []) rfl rfl (by decide) (by decide) (Nat.le_of_ble_eq_true rfl) (Nat.le_refl 0) (Nat.le_refl 0) dX13_notOpen_20 ?_
      refine J_bif_eq hx 57 dX13_notOpen_23 rfl (fun h9 => ?_) (fun h9 => ?_)
      · replace h := neg h (bft h9)
        refine J_iconst hx (0 : Int32) dX13_notOpen_57 rfl ?_
        refine J_lw (ls' := [none, none, none]) (lwN (lwN (lwN lwZ))) ?_
        exact tX13_notOpen_58 hx hr _ _  hW h
      · replace h := pos h h9
        refine J_al4 hx rfl rfl dX13_notOpen_26 ?_
        refine g13_0 hx hW 372 (rfl : kd 371 = 19) fl_X13_7 rfl dX13_notOpen_27 ?_
        refine J_iconst hx (0 : Int32) dX13_notOpen_30 rfl ?_
        refine J_iaW hx hW (rfl : kd 372 = 641) (by decide +kernel : idx (0 : Int32) 541 = some 0) dX13_notOpen_31 ?_
        refine J_al4 hx rfl rfl dX13_notOpen_32 ?_
        refine J_il4 hx rfl rfl dX13_notOpen_33 ?_
        refine J_bipush hx (8 : Int32) dX13_notOpen_34 rfl ?_
        obtain ⟨r10, hr11, h⟩ := bnd h
        refine J_rdV hx (kX13_of  hW hr11) ml_X13_36 lk_X13_of (ci := 11) rfl (hW.obj (rfl : kd 371 = 19) (by decide) (by decide)) (rest := [.int (w 372 0)]) rfl rfl (by decide) (by decide) (Nat.le_of_ble_eq_true rfl) (Nat.le_refl 0) (Nat.le_refl 0) dX13_notOpen_36 ?_
        refine J_al4 hx rfl rfl dX13_notOpen_39 ?_
        refine J_il4 hx rfl rfl dX13_notOpen_40 ?_
        refine J_al4 hx rfl rfl dX13_notOpen_41 ?_
        refine J_il4 hx rfl rfl dX13_notOpen_42 ?_
        obtain ⟨r12, hr13, h⟩ := bnd h
        refine J_rdV hx (kX13_venueOf  hW hr13) ml_X13_44 lk_X13_venueOf (ci := 11) rfl (hW.obj (rfl : kd 371 = 19) (by decide) (by decide)) (rest := [.int l1, .ref (B.1 + 371), .int r10, .int (w 372 0)]) rfl rfl (by decide) (by decide) (Nat.le_of_ble_eq_true rfl) (Nat.le_refl 0) (Nat.le_refl 0) dX13_notOpen_43 ?_
        obtain ⟨r14, hr15, h⟩ := bnd h
        refine J_rdV hx (kX13_needs  hW hr15) ml_X13_91 lk_X13_needs (ci := 11) rfl (hW.obj (rfl : kd 371 = 19) (by decide) (by decide)) (rest := [.int r10, .int (w 372 0)]) rfl rfl (by decide) (by decide) (Nat.le_of_ble_eq_true rfl) (Nat.le_refl 0) (Nat.le_refl 0) dX13_notOpen_46 ?_
        refine J_iadd hx dX13_notOpen_49 ?_
        refine J_icmp_lt hx 57 dX13_notOpen_50 rfl (fun h16 => ?_) (fun h16 => ?_)
        · replace h := pos h h16
          refine J_iconst hx (0 : Int32) dX13_notOpen_57 rfl ?_
          refine J_lw (ls' := [none, none, none]) (lwN (lwN (lwN lwZ))) ?_
          exact tX13_notOpen_58 hx hr _ _  hW h
        · replace h := neg h h16
          refine J_iconst hx (1 : Int32) dX13_notOpen_53 rfl ?_
          refine J_goto hx 58 dX13_notOpen_54 rfl ?_
          refine J_lw (ls' := [none, none, none]) (lwN (lwN (lwN lwZ))) ?_
          exact tX13_notOpen_58 hx hr _ _  hW h
  · replace h := neg h (bft h3)
    refine J_iconst hx (1 : Int32) dX13_notOpen_8 rfl ?_
    exact J_iretR hx hr dX13_notOpen_9 (Nat.le_refl 0) (Nat.le_refl 0) (Option.some.inj h)
theorem dX13_opens_0 : decode cX13_opens 0 = .ok (.aload_n 0, 1) := by decide +kernel
theorem dX13_opens_1 : decode cX13_opens 1 = .ok (.iload_n 1, 1) := by decide +kernel
theorem dX13_opens_2 : decode cX13_opens 2 = .ok (.iconst 1, 1) := by decide +kernel
theorem dX13_opens_3 : decode cX13_opens 3 = .ok (.iconst 1, 1) := by decide +kernel
theorem dX13_opens_4 : decode cX13_opens 4 = .ok (.invokevirtual 74, 3) := by decide +kernel
theorem dX13_opens_7 : decode cX13_opens 7 = .ok (.iconst 0, 1) := by decide +kernel
theorem dX13_opens_8 : decode cX13_opens 8 = .ok (.istore_n 2, 1) := by decide +kernel
theorem dX13_opens_9 : decode cX13_opens 9 = .ok (.iload_n 2, 1) := by decide +kernel
theorem dX13_opens_10 : decode cX13_opens 10 = .ok (.aload_n 0, 1) := by decide +kernel
theorem dX13_opens_11 : decode cX13_opens 11 = .ok (.getfield 7, 3) := by decide +kernel
theorem dX13_opens_14 : decode cX13_opens 14 = .ok (.iconst 2, 1) := by decide +kernel
theorem dX13_opens_15 : decode cX13_opens 15 = .ok (.iaload, 1) := by decide +kernel
theorem dX13_opens_16 : decode cX13_opens 16 = .ok (.if_icmp .ge 40, 3) := by decide +kernel
theorem dX13_opens_19 : decode cX13_opens 19 = .ok (.aload_n 0, 1) := by decide +kernel
theorem dX13_opens_20 : decode cX13_opens 20 = .ok (.iload_n 2, 1) := by decide +kernel
theorem dX13_opens_21 : decode cX13_opens 21 = .ok (.iconst 2, 1) := by decide +kernel
theorem dX13_opens_22 : decode cX13_opens 22 = .ok (.invokevirtual 36, 3) := by decide +kernel
theorem dX13_opens_25 : decode cX13_opens 25 = .ok (.iload_n 1, 1) := by decide +kernel
theorem dX13_opens_26 : decode cX13_opens 26 = .ok (.if_icmp .ne 24, 3) := by decide +kernel
theorem dX13_opens_29 : decode cX13_opens 29 = .ok (.aload_n 0, 1) := by decide +kernel
theorem dX13_opens_30 : decode cX13_opens 30 = .ok (.iload_n 2, 1) := by decide +kernel
theorem dX13_opens_31 : decode cX13_opens 31 = .ok (.invokevirtual 47, 3) := by decide +kernel
theorem dX13_opens_34 : decode cX13_opens 34 = .ok (.ifCond .ne 16, 3) := by decide +kernel
theorem dX13_opens_37 : decode cX13_opens 37 = .ok (.aload_n 0, 1) := by decide +kernel
theorem dX13_opens_38 : decode cX13_opens 38 = .ok (.iload_n 2, 1) := by decide +kernel
theorem dX13_opens_39 : decode cX13_opens 39 = .ok (.bipush 8, 2) := by decide +kernel
theorem dX13_opens_41 : decode cX13_opens 41 = .ok (.aload_n 0, 1) := by decide +kernel
theorem dX13_opens_42 : decode cX13_opens 42 = .ok (.getfield 7, 3) := by decide +kernel
theorem dX13_opens_45 : decode cX13_opens 45 = .ok (.iconst 0, 1) := by decide +kernel
theorem dX13_opens_46 : decode cX13_opens 46 = .ok (.iaload, 1) := by decide +kernel
theorem dX13_opens_47 : decode cX13_opens 47 = .ok (.invokevirtual 74, 3) := by decide +kernel
theorem dX13_opens_50 : decode cX13_opens 50 = .ok (.iinc 2 1, 3) := by decide +kernel
theorem dX13_opens_53 : decode cX13_opens 53 = .ok (.goto (-44), 3) := by decide +kernel
theorem dX13_opens_56 : decode cX13_opens 56 = .ok (.aload_n 0, 1) := by decide +kernel
theorem dX13_opens_57 : decode cX13_opens 57 = .ok (.iload_n 1, 1) := by decide +kernel
theorem dX13_opens_58 : decode cX13_opens 58 = .ok (.invokevirtual 94, 3) := by decide +kernel
theorem dX13_opens_61 : decode cX13_opens 61 = .ok (.ireturn, 1) := by decide +kernel
def sX13_opens_9 : Nat → Wl → Int32 → Int32 → Option (Int32 × Wl)
  | 0, _, _, _ => none
  | n + 1, w, l1, l2 => (if (w 372 2) ≤ l2 then (sX13_directWorks w l1).bind (fun r2 => some (r2, w)) else (sX13_of w l2 (2 : Int32)).bind (fun r4 => (if r4 = l1 then (sX13_isOpen w l2).bind (fun r7 => (if r7 = true then sX13_opens_9 n w l1 (l2 + 1) else (sX13_put w l2 (8 : Int32) (w 372 0)).bind (fun r10 => sX13_opens_9 n r10 l1 (l2 + 1)))) else sX13_opens_9 n w l1 (l2 + 1))))
theorem tX13_opens_9 {X : Cx} {B : Bs} {sz : Nat} {r : (Int32 × Wl)} (hx : Fx X cX13_opens 3 RX13 2 0 0) (hr : Rt X (some .int) 0 0 (WΨ (xΓ X) B (some (.int (r.1))) r.2 sz)) : ∀ (n : Nat), ∀ (w : Wl) (l1 : Int32) (l2 : Int32) {G : Gf} (hW : Wd (xΓ X) B w G) (h : sX13_opens_9 n w l1 l2 = some r), J X 3 G sz 0 0 9 [some (.ref (B.1 + 371)), some (.int l1), some (.int l2)] [] := by
  intro n
  induction n with
  | zero => intro w l1 l2 G hW h; rw [sX13_opens_9.eq_1] at h; cases h
  | succ n ih =>
    intro w l1 l2 G hW h
    rw [sX13_opens_9.eq_2] at h
    refine J_il4 hx rfl rfl dX13_opens_9 ?_
    refine J_al4 hx rfl rfl dX13_opens_10 ?_
    refine g13_0 hx hW 372 (rfl : kd 371 = 19) fl_X13_7 rfl dX13_opens_11 ?_
    refine J_iconst hx (2 : Int32) dX13_opens_14 rfl ?_
    refine J_iaW hx hW (rfl : kd 372 = 641) (by decide +kernel : idx (2 : Int32) 541 = some 2) dX13_opens_15 ?_
    refine J_icmp_ge hx 56 dX13_opens_16 rfl (fun h1 => ?_) (fun h1 => ?_)
    · replace h := pos h h1
      refine J_al4 hx rfl rfl dX13_opens_56 ?_
      refine J_il4 hx rfl rfl dX13_opens_57 ?_
      obtain ⟨r2, hr3, h⟩ := bnd h
      refine J_rdV hx (kX13_directWorks  hW hr3) ml_X13_94 lk_X13_directWorks (ci := 11) rfl (hW.obj (rfl : kd 371 = 19) (by decide) (by decide)) (rest := []) rfl rfl (by decide) (by decide) (Nat.le_of_ble_eq_true rfl) (Nat.le_refl 0) (Nat.le_refl 0) dX13_opens_58 ?_
      obtain rfl := Option.some.inj h
      exact J_iretW hx hr hW dX13_opens_61 (Nat.le_refl 0) (Nat.le_refl 0)
    · replace h := neg h h1
      refine J_al4 hx rfl rfl dX13_opens_19 ?_
      refine J_il4 hx rfl rfl dX13_opens_20 ?_
      refine J_iconst hx (2 : Int32) dX13_opens_21 rfl ?_
      obtain ⟨r4, hr5, h⟩ := bnd h
      refine J_rdV hx (kX13_of  hW hr5) ml_X13_36 lk_X13_of (ci := 11) rfl (hW.obj (rfl : kd 371 = 19) (by decide) (by decide)) (rest := []) rfl rfl (by decide) (by decide) (Nat.le_of_ble_eq_true rfl) (Nat.le_refl 0) (Nat.le_refl 0) dX13_opens_22 ?_
      refine J_il4 hx rfl rfl dX13_opens_25 ?_
      refine J_icmp_ne hx 50 dX13_opens_26 rfl (fun h6 => ?_) (fun h6 => ?_)
      · replace h := neg h h6
        refine J_iinc hx (v' := (l2 + 1)) rfl rfl (by decide) (hc_of rfl) rfl dX13_opens_50 ?_
        refine J_goto hx 9 dX13_opens_53 rfl ?_
        exact ih _ _ _  hW h
      · replace h := pos h h6
        refine J_al4 hx rfl rfl dX13_opens_29 ?_
        refine J_il4 hx rfl rfl dX13_opens_30 ?_
        obtain ⟨r7, hr8, h⟩ := bnd h
        refine J_rdV hx (kX13_isOpen  hW hr8) ml_X13_47 lk_X13_isOpen (ci := 11) rfl (hW.obj (rfl : kd 371 = 19) (by decide) (by decide)) (rest := []) rfl rfl (by decide) (by decide) (Nat.le_of_ble_eq_true rfl) (Nat.le_refl 0) (Nat.le_refl 0) dX13_opens_31 ?_
        refine J_bif_ne hx 50 dX13_opens_34 rfl (fun h9 => ?_) (fun h9 => ?_)
        · replace h := pos h h9
          refine J_iinc hx (v' := (l2 + 1)) rfl rfl (by decide) (hc_of rfl) rfl dX13_opens_50 ?_
          refine J_goto hx 9 dX13_opens_53 rfl ?_
          exact ih _ _ _  hW h
        · replace h := neg h (bft h9)
          refine J_al4 hx rfl rfl dX13_opens_37 ?_
          refine J_il4 hx rfl rfl dX13_opens_38 ?_
          refine J_bipush hx (8 : Int32) dX13_opens_39 rfl ?_
          refine J_al4 hx rfl rfl dX13_opens_41 ?_
          refine g13_0 hx hW 372 (rfl : kd 371 = 19) fl_X13_7 rfl dX13_opens_42 ?_
          refine J_iconst hx (0 : Int32) dX13_opens_45 rfl ?_
          refine J_iaW hx hW (rfl : kd 372 = 641) (by decide +kernel : idx (0 : Int32) 541 = some 0) dX13_opens_46 ?_
          obtain ⟨r10, hr11, h⟩ := bnd h
          refine J_wrV hx (kX13_put  hW hr11) ml_X13_74 lk_X13_put (ci := 11) rfl (hW.obj (rfl : kd 371 = 19) (by decide) (by decide)) (rest := []) rfl rfl (by decide) (by decide) (Nat.le_of_ble_eq_true rfl) (Nat.le_refl 0) (Nat.le_refl 0) dX13_opens_47 fun G12 hW13 => ?_
          show J X 3 G12 sz 0 0 50 [some (.ref (B.1 + 371)), some (.int l1), some (.int l2)] []
          refine J_iinc hx (v' := (l2 + 1)) rfl rfl (by decide) (hc_of rfl) rfl dX13_opens_50 ?_
          refine J_goto hx 9 dX13_opens_53 rfl ?_
          exact ih _ _ _  hW13 h
def sX13_opens (w : Wl) (l1 : Int32) : Option (Int32 × Wl) := (sX13_put w l1 (1 : Int32) (1 : Int32)).bind (fun r1 => sX13_opens_9 FU r1 l1 (0 : Int32))
theorem kX13_opens {l : Launch} {Γ : Gl} {B : Bs} {w : Wl} {G : Gf} {sz : Nat} {l1 : Int32} {r : (Int32 × Wl)} (hW : Wd Γ B w G) (h : sX13_opens w l1 = some r) : CtW l Γ yX13_opens cX13_opens 3 (some .int) 2 [.ref (B.1 + 371), .int l1] G sz B (some (.int (r.1))) r.2 := by
  refine Ct.of rfl (Nat.le_of_ble_eq_true rfl) fun X hx hr hl hΓ hnm => ?_
  subst hl hΓ
  show J X 3 G sz 0 0 0 [some (.ref (B.1 + 371)), some (.int l1), none] []
  unfold sX13_opens at h
  refine J_al4 hx rfl rfl dX13_opens_0 ?_
  refine J_il4 hx rfl rfl dX13_opens_1 ?_
  refine J_iconst hx (1 : Int32) dX13_opens_2 rfl ?_
  refine J_iconst hx (1 : Int32) dX13_opens_3 rfl ?_
  obtain ⟨r1, hr2, h⟩ := bnd h
  refine J_wrV hx (kX13_put  hW hr2) ml_X13_74 lk_X13_put (ci := 11) rfl (hW.obj (rfl : kd 371 = 19) (by decide) (by decide)) (rest := []) rfl rfl (by decide) (by decide) (Nat.le_of_ble_eq_true rfl) (Nat.le_refl 0) (Nat.le_refl 0) dX13_opens_4 fun G3 hW4 => ?_
  show J X 3 G3 sz 0 0 7 [some (.ref (B.1 + 371)), some (.int l1), none] []
  refine J_iconst hx (0 : Int32) dX13_opens_7 rfl ?_
  refine J_is4 hx rfl (by decide) (hc_of rfl) rfl dX13_opens_8 ?_
  exact tX13_opens_9 hx hr _ _ _ _  hW4 h
theorem dX13_open_0 : decode cX13_open 0 = .ok (.aload_n 0, 1) := by decide +kernel
theorem dX13_open_1 : decode cX13_open 1 = .ok (.aload_n 0, 1) := by decide +kernel
theorem dX13_open_2 : decode cX13_open 2 = .ok (.iload_n 1, 1) := by decide +kernel
theorem dX13_open_3 : decode cX13_open 3 = .ok (.invokevirtual 97, 3) := by decide +kernel
theorem dX13_open_6 : decode cX13_open 6 = .ok (.putfield 25, 3) := by decide +kernel
theorem dX13_open_9 : decode cX13_open 9 = .ok (.aload_n 0, 1) := by decide +kernel
theorem dX13_open_10 : decode cX13_open 10 = .ok (.getfield 25, 3) := by decide +kernel
theorem dX13_open_13 : decode cX13_open 13 = .ok (.ifCond .eq 5, 3) := by decide +kernel
theorem dX13_open_16 : decode cX13_open 16 = .ok (.iconst 0, 1) := by decide +kernel
theorem dX13_open_17 : decode cX13_open 17 = .ok (.ireturn, 1) := by decide +kernel
theorem dX13_open_18 : decode cX13_open 18 = .ok (.aload_n 0, 1) := by decide +kernel
theorem dX13_open_19 : decode cX13_open 19 = .ok (.invokevirtual 62, 3) := by decide +kernel
theorem dX13_open_22 : decode cX13_open 22 = .ok (.aload_n 0, 1) := by decide +kernel
theorem dX13_open_23 : decode cX13_open 23 = .ok (.iload_n 1, 1) := by decide +kernel
theorem dX13_open_24 : decode cX13_open 24 = .ok (.invokevirtual 100, 3) := by decide +kernel
theorem dX13_open_27 : decode cX13_open 27 = .ok (.ireturn, 1) := by decide +kernel
def sX13_open (w : Wl) (l1 : Int32) : Option (Int32 × Wl) := (sX13_notOpen w l1).bind (fun r1 => (if ((wst w 371 5 r1) 371 5) = 0 then (sX13_keep (wst w 371 5 r1) ).bind (fun r6 => (sX13_opens r6 l1).bind (fun r10 => some (r10.1, r10.2))) else some ((0 : Int32), (wst w 371 5 r1))))
theorem kX13_open {l : Launch} {Γ : Gl} {B : Bs} {w : Wl} {G : Gf} {sz : Nat} {l1 : Int32} {r : (Int32 × Wl)} (hW : Wd Γ B w G) (h : sX13_open w l1 = some r) : CtW l Γ yX13_open cX13_open 2 (some .int) 5 [.ref (B.1 + 371), .int l1] G sz B (some (.int (r.1))) r.2 := by
  refine Ct.of rfl (Nat.le_of_ble_eq_true rfl) fun X hx hr hl hΓ hnm => ?_
  subst hl hΓ
  show J X 2 G sz 0 0 0 [some (.ref (B.1 + 371)), some (.int l1)] []
  unfold sX13_open at h
  refine J_al4 hx rfl rfl dX13_open_0 ?_
  refine J_al4 hx rfl rfl dX13_open_1 ?_
  refine J_il4 hx rfl rfl dX13_open_2 ?_
  obtain ⟨r1, hr2, h⟩ := bnd h
  refine J_rdV hx (kX13_notOpen  hW hr2) ml_X13_97 lk_X13_notOpen (ci := 11) rfl (hW.obj (rfl : kd 371 = 19) (by decide) (by decide)) (rest := [.ref (B.1 + 371)]) rfl rfl (by decide) (by decide) (Nat.le_of_ble_eq_true rfl) (Nat.le_refl 0) (Nat.le_refl 0) dX13_open_3 ?_
  refine p13_5 hx hW (rfl : kd 371 = 19) fl_X13_25 dX13_open_6 fun G3 hW4 => ?_
  refine J_al4 hx rfl rfl dX13_open_9 ?_
  refine g13_5 hx hW4 (rfl : kd 371 = 19) fl_X13_25 dX13_open_10 ?_
  refine J_if_eq hx 18 dX13_open_13 rfl (fun h5 => ?_) (fun h5 => ?_)
  · replace h := pos h h5
    refine J_al4 hx rfl rfl dX13_open_18 ?_
    obtain ⟨r6, hr7, h⟩ := bnd h
    refine J_wrV hx (kX13_keep  hW4 hr7) ml_X13_62 lk_X13_keep (ci := 11) rfl (hW4.obj (rfl : kd 371 = 19) (by decide) (by decide)) (rest := []) rfl rfl (by decide) (by decide) (Nat.le_of_ble_eq_true rfl) (Nat.le_refl 0) (Nat.le_refl 0) dX13_open_19 fun G8 hW9 => ?_
    show J X 2 G8 sz 0 0 22 [some (.ref (B.1 + 371)), some (.int l1)] []
    refine J_al4 hx rfl rfl dX13_open_22 ?_
    refine J_il4 hx rfl rfl dX13_open_23 ?_
    obtain ⟨r10, hr11, h⟩ := bnd h
    refine J_wrV hx (kX13_opens  hW9 hr11) ml_X13_100 lk_X13_opens (ci := 11) rfl (hW9.obj (rfl : kd 371 = 19) (by decide) (by decide)) (rest := []) rfl rfl (by decide) (by decide) (Nat.le_of_ble_eq_true rfl) (Nat.le_refl 0) (Nat.le_refl 0) dX13_open_24 fun G12 hW13 => ?_
    show J X 2 G12 sz 0 0 27 [some (.ref (B.1 + 371)), some (.int l1)] [.int r10.1]
    obtain rfl := Option.some.inj h
    exact J_iretW hx hr hW13 dX13_open_27 (Nat.le_refl 0) (Nat.le_refl 0)
  · replace h := neg h h5
    refine J_iconst hx (0 : Int32) dX13_open_16 rfl ?_
    obtain rfl := Option.some.inj h
    exact J_iretW hx hr hW4 dX13_open_17 (Nat.le_refl 0) (Nat.le_refl 0)
theorem dX13_notClose_0 : decode cX13_notClose 0 = .ok (.aload_n 0, 1) := by decide +kernel
theorem dX13_notClose_1 : decode cX13_notClose 1 = .ok (.iload_n 1, 1) := by decide +kernel
theorem dX13_notClose_2 : decode cX13_notClose 2 = .ok (.invokevirtual 85, 3) := by decide +kernel
theorem dX13_notClose_5 : decode cX13_notClose 5 = .ok (.ifCond .ne 5, 3) := by decide +kernel
theorem dX13_notClose_8 : decode cX13_notClose 8 = .ok (.iconst 1, 1) := by decide +kernel
theorem dX13_notClose_9 : decode cX13_notClose 9 = .ok (.ireturn, 1) := by decide +kernel
theorem dX13_notClose_10 : decode cX13_notClose 10 = .ok (.aload_n 0, 1) := by decide +kernel
theorem dX13_notClose_11 : decode cX13_notClose 11 = .ok (.iload_n 1, 1) := by decide +kernel
theorem dX13_notClose_12 : decode cX13_notClose 12 = .ok (.invokevirtual 47, 3) := by decide +kernel
theorem dX13_notClose_15 : decode cX13_notClose 15 = .ok (.ifCond .eq 15, 3) := by decide +kernel
theorem dX13_notClose_18 : decode cX13_notClose 18 = .ok (.aload_n 0, 1) := by decide +kernel
theorem dX13_notClose_19 : decode cX13_notClose 19 = .ok (.iload_n 1, 1) := by decide +kernel
theorem dX13_notClose_20 : decode cX13_notClose 20 = .ok (.invokevirtual 88, 3) := by decide +kernel
theorem dX13_notClose_23 : decode cX13_notClose 23 = .ok (.ifCond .eq 7, 3) := by decide +kernel
theorem dX13_notClose_26 : decode cX13_notClose 26 = .ok (.iconst 1, 1) := by decide +kernel
theorem dX13_notClose_27 : decode cX13_notClose 27 = .ok (.goto 4, 3) := by decide +kernel
theorem dX13_notClose_30 : decode cX13_notClose 30 = .ok (.iconst 0, 1) := by decide +kernel
theorem dX13_notClose_31 : decode cX13_notClose 31 = .ok (.istore_n 2, 1) := by decide +kernel
theorem dX13_notClose_32 : decode cX13_notClose 32 = .ok (.iconst 0, 1) := by decide +kernel
theorem dX13_notClose_33 : decode cX13_notClose 33 = .ok (.istore_n 3, 1) := by decide +kernel
theorem dX13_notClose_34 : decode cX13_notClose 34 = .ok (.iload_n 3, 1) := by decide +kernel
theorem dX13_notClose_35 : decode cX13_notClose 35 = .ok (.aload_n 0, 1) := by decide +kernel
theorem dX13_notClose_36 : decode cX13_notClose 36 = .ok (.getfield 7, 3) := by decide +kernel
theorem dX13_notClose_39 : decode cX13_notClose 39 = .ok (.iconst 2, 1) := by decide +kernel
theorem dX13_notClose_40 : decode cX13_notClose 40 = .ok (.iaload, 1) := by decide +kernel
theorem dX13_notClose_41 : decode cX13_notClose 41 = .ok (.if_icmp .ge 37, 3) := by decide +kernel
theorem dX13_notClose_44 : decode cX13_notClose 44 = .ok (.iload_n 2, 1) := by decide +kernel
theorem dX13_notClose_45 : decode cX13_notClose 45 = .ok (.ifCond .eq 25, 3) := by decide +kernel
theorem dX13_notClose_48 : decode cX13_notClose 48 = .ok (.aload_n 0, 1) := by decide +kernel
theorem dX13_notClose_49 : decode cX13_notClose 49 = .ok (.iload_n 3, 1) := by decide +kernel
theorem dX13_notClose_50 : decode cX13_notClose 50 = .ok (.iconst 2, 1) := by decide +kernel
theorem dX13_notClose_51 : decode cX13_notClose 51 = .ok (.invokevirtual 36, 3) := by decide +kernel
theorem dX13_notClose_54 : decode cX13_notClose 54 = .ok (.iload_n 1, 1) := by decide +kernel
theorem dX13_notClose_55 : decode cX13_notClose 55 = .ok (.if_icmp .ne 11, 3) := by decide +kernel
theorem dX13_notClose_58 : decode cX13_notClose 58 = .ok (.aload_n 0, 1) := by decide +kernel
theorem dX13_notClose_59 : decode cX13_notClose 59 = .ok (.iload_n 3, 1) := by decide +kernel
theorem dX13_notClose_60 : decode cX13_notClose 60 = .ok (.invokevirtual 47, 3) := by decide +kernel
theorem dX13_notClose_63 : decode cX13_notClose 63 = .ok (.ifCond .ne 7, 3) := by decide +kernel
theorem dX13_notClose_66 : decode cX13_notClose 66 = .ok (.iconst 1, 1) := by decide +kernel
theorem dX13_notClose_67 : decode cX13_notClose 67 = .ok (.goto 4, 3) := by decide +kernel
theorem dX13_notClose_70 : decode cX13_notClose 70 = .ok (.iconst 0, 1) := by decide +kernel
theorem dX13_notClose_71 : decode cX13_notClose 71 = .ok (.istore_n 2, 1) := by decide +kernel
theorem dX13_notClose_72 : decode cX13_notClose 72 = .ok (.iinc 3 1, 3) := by decide +kernel
theorem dX13_notClose_75 : decode cX13_notClose 75 = .ok (.goto (-41), 3) := by decide +kernel
theorem dX13_notClose_78 : decode cX13_notClose 78 = .ok (.iload_n 2, 1) := by decide +kernel
theorem dX13_notClose_79 : decode cX13_notClose 79 = .ok (.ifCond .eq 7, 3) := by decide +kernel
theorem dX13_notClose_82 : decode cX13_notClose 82 = .ok (.iconst 0, 1) := by decide +kernel
theorem dX13_notClose_83 : decode cX13_notClose 83 = .ok (.goto 4, 3) := by decide +kernel
theorem dX13_notClose_86 : decode cX13_notClose 86 = .ok (.iconst 2, 1) := by decide +kernel
theorem dX13_notClose_87 : decode cX13_notClose 87 = .ok (.ireturn, 1) := by decide +kernel
def sX13_notClose_34 : Nat → Wl → Int32 → Int32 → Int32 → Option Int32
  | 0, _, _, _, _ => none
  | n + 1, w, l1, l2, l3 => (if (w 372 2) ≤ l3 then (if l2 = 0 then some (2 : Int32) else some (0 : Int32)) else (if l2 = 0 then sX13_notClose_34 n w l1 (0 : Int32) (l3 + 1) else (sX13_of w l3 (2 : Int32)).bind (fun r4 => (if r4 = l1 then (sX13_isOpen w l3).bind (fun r7 => (if r7 = true then sX13_notClose_34 n w l1 (0 : Int32) (l3 + 1) else sX13_notClose_34 n w l1 (1 : Int32) (l3 + 1))) else sX13_notClose_34 n w l1 (1 : Int32) (l3 + 1)))))
theorem tX13_notClose_34 {X : Cx} {B : Bs} {sz : Nat} {G : Gf} {r : Int32} (hx : Fx X cX13_notClose 4 RX13 4 0 0) (hr : Rt X (some .int) 0 0 (RdΨ (.int (r)) G sz)) : ∀ (n : Nat), ∀ (w : Wl) (l1 : Int32) (l2 : Int32) (l3 : Int32) (hW : Wd (xΓ X) B w G) (h : sX13_notClose_34 n w l1 l2 l3 = some r), J X 4 G sz 0 0 34 [some (.ref (B.1 + 371)), some (.int l1), some (.int l2), some (.int l3)] [] := by
  intro n
  induction n with
  | zero => intro w l1 l2 l3 hW h; rw [sX13_notClose_34.eq_1] at h; cases h
  | succ n ih =>
    intro w l1 l2 l3 hW h
    rw [sX13_notClose_34.eq_2] at h
    refine J_il4 hx rfl rfl dX13_notClose_34 ?_
    refine J_al4 hx rfl rfl dX13_notClose_35 ?_
    refine g13_0 hx hW 372 (rfl : kd 371 = 19) fl_X13_7 rfl dX13_notClose_36 ?_
    refine J_iconst hx (2 : Int32) dX13_notClose_39 rfl ?_
    refine J_iaW hx hW (rfl : kd 372 = 641) (by decide +kernel : idx (2 : Int32) 541 = some 2) dX13_notClose_40 ?_
    refine J_icmp_ge hx 78 dX13_notClose_41 rfl (fun h1 => ?_) (fun h1 => ?_)
    · replace h := pos h h1
      refine J_il4 hx rfl rfl dX13_notClose_78 ?_
      refine J_if_eq hx 86 dX13_notClose_79 rfl (fun h2 => ?_) (fun h2 => ?_)
      · replace h := pos h h2
        refine J_iconst hx (2 : Int32) dX13_notClose_86 rfl ?_
        exact J_iretR hx hr dX13_notClose_87 (Nat.le_refl 0) (Nat.le_refl 0) (Option.some.inj h)
      · replace h := neg h h2
        refine J_iconst hx (0 : Int32) dX13_notClose_82 rfl ?_
        refine J_goto hx 87 dX13_notClose_83 rfl ?_
        exact J_iretR hx hr dX13_notClose_87 (Nat.le_refl 0) (Nat.le_refl 0) (Option.some.inj h)
    · replace h := neg h h1
      refine J_il4 hx rfl rfl dX13_notClose_44 ?_
      refine J_if_eq hx 70 dX13_notClose_45 rfl (fun h3 => ?_) (fun h3 => ?_)
      · replace h := pos h h3
        refine J_iconst hx (0 : Int32) dX13_notClose_70 rfl ?_
        refine J_is4 hx rfl (by decide) (hc_of rfl) rfl dX13_notClose_71 ?_
        refine J_iinc hx (v' := (l3 + 1)) rfl rfl (by decide) (hc_of rfl) rfl dX13_notClose_72 ?_
        refine J_goto hx 34 dX13_notClose_75 rfl ?_
        exact ih _ _ _ _  hW h
      · replace h := neg h h3
        refine J_al4 hx rfl rfl dX13_notClose_48 ?_
        refine J_il4 hx rfl rfl dX13_notClose_49 ?_
        refine J_iconst hx (2 : Int32) dX13_notClose_50 rfl ?_
        obtain ⟨r4, hr5, h⟩ := bnd h
        refine J_rdV hx (kX13_of  hW hr5) ml_X13_36 lk_X13_of (ci := 11) rfl (hW.obj (rfl : kd 371 = 19) (by decide) (by decide)) (rest := []) rfl rfl (by decide) (by decide) (Nat.le_of_ble_eq_true rfl) (Nat.le_refl 0) (Nat.le_refl 0) dX13_notClose_51 ?_
        refine J_il4 hx rfl rfl dX13_notClose_54 ?_
        refine J_icmp_ne hx 66 dX13_notClose_55 rfl (fun h6 => ?_) (fun h6 => ?_)
        · replace h := neg h h6
          refine J_iconst hx (1 : Int32) dX13_notClose_66 rfl ?_
          refine J_goto hx 71 dX13_notClose_67 rfl ?_
          refine J_is4 hx rfl (by decide) (hc_of rfl) rfl dX13_notClose_71 ?_
          refine J_iinc hx (v' := (l3 + 1)) rfl rfl (by decide) (hc_of rfl) rfl dX13_notClose_72 ?_
          refine J_goto hx 34 dX13_notClose_75 rfl ?_
          exact ih _ _ _ _  hW h
        · replace h := pos h h6
          refine J_al4 hx rfl rfl dX13_notClose_58 ?_
          refine J_il4 hx rfl rfl dX13_notClose_59 ?_
          obtain ⟨r7, hr8, h⟩ := bnd h
          refine J_rdV hx (kX13_isOpen  hW hr8) ml_X13_47 lk_X13_isOpen (ci := 11) rfl (hW.obj (rfl : kd 371 = 19) (by decide) (by decide)) (rest := []) rfl rfl (by decide) (by decide) (Nat.le_of_ble_eq_true rfl) (Nat.le_refl 0) (Nat.le_refl 0) dX13_notClose_60 ?_
          refine J_bif_ne hx 70 dX13_notClose_63 rfl (fun h9 => ?_) (fun h9 => ?_)
          · replace h := pos h h9
            refine J_iconst hx (0 : Int32) dX13_notClose_70 rfl ?_
            refine J_is4 hx rfl (by decide) (hc_of rfl) rfl dX13_notClose_71 ?_
            refine J_iinc hx (v' := (l3 + 1)) rfl rfl (by decide) (hc_of rfl) rfl dX13_notClose_72 ?_
            refine J_goto hx 34 dX13_notClose_75 rfl ?_
            exact ih _ _ _ _  hW h
          · replace h := neg h (bft h9)
            refine J_iconst hx (1 : Int32) dX13_notClose_66 rfl ?_
            refine J_goto hx 71 dX13_notClose_67 rfl ?_
            refine J_is4 hx rfl (by decide) (hc_of rfl) rfl dX13_notClose_71 ?_
            refine J_iinc hx (v' := (l3 + 1)) rfl rfl (by decide) (hc_of rfl) rfl dX13_notClose_72 ?_
            refine J_goto hx 34 dX13_notClose_75 rfl ?_
            exact ih _ _ _ _  hW h
def sX13_notClose (w : Wl) (l1 : Int32) : Option Int32 := (sX13_isCrate w l1).bind (fun r1 => (if r1 = true then (sX13_isOpen w l1).bind (fun r4 => (if r4 = true then (sX13_isReached w l1).bind (fun r7 => (if r7 = true then sX13_notClose_34 FU w l1 (1 : Int32) (0 : Int32) else sX13_notClose_34 FU w l1 (0 : Int32) (0 : Int32))) else sX13_notClose_34 FU w l1 (0 : Int32) (0 : Int32))) else some (1 : Int32)))
theorem kX13_notClose {l : Launch} {Γ : Gl} {B : Bs} {w : Wl} {G : Gf} {sz : Nat} {l1 : Int32} {r : Int32} (hW : Wd Γ B w G) (h : sX13_notClose w l1 = some r) : CtR l Γ yX13_notClose cX13_notClose 4 (some .int) 4 [.ref (B.1 + 371), .int l1] G sz (.int (r)) := by
  refine Ct.of rfl (Nat.le_of_ble_eq_true rfl) fun X hx hr hl hΓ hnm => ?_
  subst hl hΓ
  show J X 4 G sz 0 0 0 [some (.ref (B.1 + 371)), some (.int l1), none, none] []
  unfold sX13_notClose at h
  refine J_al4 hx rfl rfl dX13_notClose_0 ?_
  refine J_il4 hx rfl rfl dX13_notClose_1 ?_
  obtain ⟨r1, hr2, h⟩ := bnd h
  refine J_rdV hx (kX13_isCrate  hW hr2) ml_X13_85 lk_X13_isCrate (ci := 11) rfl (hW.obj (rfl : kd 371 = 19) (by decide) (by decide)) (rest := []) rfl rfl (by decide) (by decide) (Nat.le_of_ble_eq_true rfl) (Nat.le_refl 0) (Nat.le_refl 0) dX13_notClose_2 ?_
  refine J_bif_ne hx 10 dX13_notClose_5 rfl (fun h3 => ?_) (fun h3 => ?_)
  · replace h := pos h h3
    refine J_al4 hx rfl rfl dX13_notClose_10 ?_
    refine J_il4 hx rfl rfl dX13_notClose_11 ?_
    obtain ⟨r4, hr5, h⟩ := bnd h
    refine J_rdV hx (kX13_isOpen  hW hr5) ml_X13_47 lk_X13_isOpen (ci := 11) rfl (hW.obj (rfl : kd 371 = 19) (by decide) (by decide)) (rest := []) rfl rfl (by decide) (by decide) (Nat.le_of_ble_eq_true rfl) (Nat.le_refl 0) (Nat.le_refl 0) dX13_notClose_12 ?_
    refine J_bif_eq hx 30 dX13_notClose_15 rfl (fun h6 => ?_) (fun h6 => ?_)
    · replace h := neg h (bft h6)
      refine J_iconst hx (0 : Int32) dX13_notClose_30 rfl ?_
      refine J_is4 hx rfl (by decide) (hc_of rfl) rfl dX13_notClose_31 ?_
      refine J_iconst hx (0 : Int32) dX13_notClose_32 rfl ?_
      refine J_is4 hx rfl (by decide) (hc_of rfl) rfl dX13_notClose_33 ?_
      exact tX13_notClose_34 hx hr _ _ _ _ _  hW h
    · replace h := pos h h6
      refine J_al4 hx rfl rfl dX13_notClose_18 ?_
      refine J_il4 hx rfl rfl dX13_notClose_19 ?_
      obtain ⟨r7, hr8, h⟩ := bnd h
      refine J_rdV hx (kX13_isReached  hW hr8) ml_X13_88 lk_X13_isReached (ci := 11) rfl (hW.obj (rfl : kd 371 = 19) (by decide) (by decide)) (rest := []) rfl rfl (by decide) (by decide) (Nat.le_of_ble_eq_true rfl) (Nat.le_refl 0) (Nat.le_refl 0) dX13_notClose_20 ?_
      refine J_bif_eq hx 30 dX13_notClose_23 rfl (fun h9 => ?_) (fun h9 => ?_)
      · replace h := neg h (bft h9)
        refine J_iconst hx (0 : Int32) dX13_notClose_30 rfl ?_
        refine J_is4 hx rfl (by decide) (hc_of rfl) rfl dX13_notClose_31 ?_
        refine J_iconst hx (0 : Int32) dX13_notClose_32 rfl ?_
        refine J_is4 hx rfl (by decide) (hc_of rfl) rfl dX13_notClose_33 ?_
        exact tX13_notClose_34 hx hr _ _ _ _ _  hW h
      · replace h := pos h h9
        refine J_iconst hx (1 : Int32) dX13_notClose_26 rfl ?_
        refine J_goto hx 31 dX13_notClose_27 rfl ?_
        refine J_is4 hx rfl (by decide) (hc_of rfl) rfl dX13_notClose_31 ?_
        refine J_iconst hx (0 : Int32) dX13_notClose_32 rfl ?_
        refine J_is4 hx rfl (by decide) (hc_of rfl) rfl dX13_notClose_33 ?_
        exact tX13_notClose_34 hx hr _ _ _ _ _  hW h
  · replace h := neg h (bft h3)
    refine J_iconst hx (1 : Int32) dX13_notClose_8 rfl ?_
    exact J_iretR hx hr dX13_notClose_9 (Nat.le_refl 0) (Nat.le_refl 0) (Option.some.inj h)
theorem dX13_closes_0 : decode cX13_closes 0 = .ok (.aload_n 0, 1) := by decide +kernel
theorem dX13_closes_1 : decode cX13_closes 1 = .ok (.iload_n 1, 1) := by decide +kernel
theorem dX13_closes_2 : decode cX13_closes 2 = .ok (.iconst 1, 1) := by decide +kernel
theorem dX13_closes_3 : decode cX13_closes 3 = .ok (.iconst 0, 1) := by decide +kernel
theorem dX13_closes_4 : decode cX13_closes 4 = .ok (.invokevirtual 74, 3) := by decide +kernel
theorem dX13_closes_7 : decode cX13_closes 7 = .ok (.aload_n 0, 1) := by decide +kernel
theorem dX13_closes_8 : decode cX13_closes 8 = .ok (.iload_n 1, 1) := by decide +kernel
theorem dX13_closes_9 : decode cX13_closes 9 = .ok (.bipush 6, 2) := by decide +kernel
theorem dX13_closes_11 : decode cX13_closes 11 = .ok (.aload_n 0, 1) := by decide +kernel
theorem dX13_closes_12 : decode cX13_closes 12 = .ok (.aload_n 0, 1) := by decide +kernel
theorem dX13_closes_13 : decode cX13_closes 13 = .ok (.iload_n 1, 1) := by decide +kernel
theorem dX13_closes_14 : decode cX13_closes 14 = .ok (.invokevirtual 44, 3) := by decide +kernel
theorem dX13_closes_17 : decode cX13_closes 17 = .ok (.iconst 0, 1) := by decide +kernel
theorem dX13_closes_18 : decode cX13_closes 18 = .ok (.invokevirtual 68, 3) := by decide +kernel
theorem dX13_closes_21 : decode cX13_closes 21 = .ok (.invokevirtual 74, 3) := by decide +kernel
theorem dX13_closes_24 : decode cX13_closes 24 = .ok (.aload_n 0, 1) := by decide +kernel
theorem dX13_closes_25 : decode cX13_closes 25 = .ok (.iload_n 1, 1) := by decide +kernel
theorem dX13_closes_26 : decode cX13_closes 26 = .ok (.bipush 7, 2) := by decide +kernel
theorem dX13_closes_28 : decode cX13_closes 28 = .ok (.aload_n 0, 1) := by decide +kernel
theorem dX13_closes_29 : decode cX13_closes 29 = .ok (.aload_n 0, 1) := by decide +kernel
theorem dX13_closes_30 : decode cX13_closes 30 = .ok (.iload_n 1, 1) := by decide +kernel
theorem dX13_closes_31 : decode cX13_closes 31 = .ok (.invokevirtual 44, 3) := by decide +kernel
theorem dX13_closes_34 : decode cX13_closes 34 = .ok (.iconst 1, 1) := by decide +kernel
theorem dX13_closes_35 : decode cX13_closes 35 = .ok (.invokevirtual 68, 3) := by decide +kernel
theorem dX13_closes_38 : decode cX13_closes 38 = .ok (.invokevirtual 74, 3) := by decide +kernel
theorem dX13_closes_41 : decode cX13_closes 41 = .ok (.aload_n 0, 1) := by decide +kernel
theorem dX13_closes_42 : decode cX13_closes 42 = .ok (.iload_n 1, 1) := by decide +kernel
theorem dX13_closes_43 : decode cX13_closes 43 = .ok (.bipush 8, 2) := by decide +kernel
theorem dX13_closes_45 : decode cX13_closes 45 = .ok (.aload_n 0, 1) := by decide +kernel
theorem dX13_closes_46 : decode cX13_closes 46 = .ok (.getfield 7, 3) := by decide +kernel
theorem dX13_closes_49 : decode cX13_closes 49 = .ok (.iconst 0, 1) := by decide +kernel
theorem dX13_closes_50 : decode cX13_closes 50 = .ok (.iaload, 1) := by decide +kernel
theorem dX13_closes_51 : decode cX13_closes 51 = .ok (.invokevirtual 74, 3) := by decide +kernel
theorem dX13_closes_54 : decode cX13_closes 54 = .ok (.aload_n 0, 1) := by decide +kernel
theorem dX13_closes_55 : decode cX13_closes 55 = .ok (.iload_n 1, 1) := by decide +kernel
theorem dX13_closes_56 : decode cX13_closes 56 = .ok (.iconst 0, 1) := by decide +kernel
theorem dX13_closes_57 : decode cX13_closes 57 = .ok (.invokevirtual 103, 3) := by decide +kernel
theorem dX13_closes_60 : decode cX13_closes 60 = .ok (.ireturn, 1) := by decide +kernel
def sX13_closes (w : Wl) (l1 : Int32) : Option (Int32 × Wl) := (sX13_put w l1 (1 : Int32) (0 : Int32)).bind (fun r1 => (sX13_venueOf r1 l1).bind (fun r5 => (sX13_ofVenue r1 r5 (0 : Int32)).bind (fun r7 => (sX13_put r1 l1 (6 : Int32) r7).bind (fun r9 => (sX13_venueOf r9 l1).bind (fun r13 => (sX13_ofVenue r9 r13 (1 : Int32)).bind (fun r15 => (sX13_put r9 l1 (7 : Int32) r15).bind (fun r17 => (sX13_put r17 l1 (8 : Int32) (r17 372 0)).bind (fun r21 => (sX13_worksIn r21 l1 (0 : Int32)).bind (fun r25 => some (r25, r21))))))))))
theorem kX13_closes {l : Launch} {Γ : Gl} {B : Bs} {w : Wl} {G : Gf} {sz : Nat} {l1 : Int32} {r : (Int32 × Wl)} (hW : Wd Γ B w G) (h : sX13_closes w l1 = some r) : CtW l Γ yX13_closes cX13_closes 2 (some .int) 3 [.ref (B.1 + 371), .int l1] G sz B (some (.int (r.1))) r.2 := by
  refine Ct.of rfl (Nat.le_of_ble_eq_true rfl) fun X hx hr hl hΓ hnm => ?_
  subst hl hΓ
  show J X 2 G sz 0 0 0 [some (.ref (B.1 + 371)), some (.int l1)] []
  unfold sX13_closes at h
  refine J_al4 hx rfl rfl dX13_closes_0 ?_
  refine J_il4 hx rfl rfl dX13_closes_1 ?_
  refine J_iconst hx (1 : Int32) dX13_closes_2 rfl ?_
  refine J_iconst hx (0 : Int32) dX13_closes_3 rfl ?_
  obtain ⟨r1, hr2, h⟩ := bnd h
  refine J_wrV hx (kX13_put  hW hr2) ml_X13_74 lk_X13_put (ci := 11) rfl (hW.obj (rfl : kd 371 = 19) (by decide) (by decide)) (rest := []) rfl rfl (by decide) (by decide) (Nat.le_of_ble_eq_true rfl) (Nat.le_refl 0) (Nat.le_refl 0) dX13_closes_4 fun G3 hW4 => ?_
  show J X 2 G3 sz 0 0 7 [some (.ref (B.1 + 371)), some (.int l1)] []
  refine J_al4 hx rfl rfl dX13_closes_7 ?_
  refine J_il4 hx rfl rfl dX13_closes_8 ?_
  refine J_bipush hx (6 : Int32) dX13_closes_9 rfl ?_
  refine J_al4 hx rfl rfl dX13_closes_11 ?_
  refine J_al4 hx rfl rfl dX13_closes_12 ?_
  refine J_il4 hx rfl rfl dX13_closes_13 ?_
  obtain ⟨r5, hr6, h⟩ := bnd h
  refine J_rdV hx (kX13_venueOf  hW4 hr6) ml_X13_44 lk_X13_venueOf (ci := 11) rfl (hW4.obj (rfl : kd 371 = 19) (by decide) (by decide)) (rest := [.ref (B.1 + 371), .int (6 : Int32), .int l1, .ref (B.1 + 371)]) rfl rfl (by decide) (by decide) (Nat.le_of_ble_eq_true rfl) (Nat.le_refl 0) (Nat.le_refl 0) dX13_closes_14 ?_
  refine J_iconst hx (0 : Int32) dX13_closes_17 rfl ?_
  obtain ⟨r7, hr8, h⟩ := bnd h
  refine J_rdV hx (kX13_ofVenue  hW4 hr8) ml_X13_68 lk_X13_ofVenue (ci := 11) rfl (hW4.obj (rfl : kd 371 = 19) (by decide) (by decide)) (rest := [.int (6 : Int32), .int l1, .ref (B.1 + 371)]) rfl rfl (by decide) (by decide) (Nat.le_of_ble_eq_true rfl) (Nat.le_refl 0) (Nat.le_refl 0) dX13_closes_18 ?_
  obtain ⟨r9, hr10, h⟩ := bnd h
  refine J_wrV hx (kX13_put  hW4 hr10) ml_X13_74 lk_X13_put (ci := 11) rfl (hW4.obj (rfl : kd 371 = 19) (by decide) (by decide)) (rest := []) rfl rfl (by decide) (by decide) (Nat.le_of_ble_eq_true rfl) (Nat.le_refl 0) (Nat.le_refl 0) dX13_closes_21 fun G11 hW12 => ?_
  show J X 2 G11 sz 0 0 24 [some (.ref (B.1 + 371)), some (.int l1)] []
  refine J_al4 hx rfl rfl dX13_closes_24 ?_
  refine J_il4 hx rfl rfl dX13_closes_25 ?_
  refine J_bipush hx (7 : Int32) dX13_closes_26 rfl ?_
  refine J_al4 hx rfl rfl dX13_closes_28 ?_
  refine J_al4 hx rfl rfl dX13_closes_29 ?_
  refine J_il4 hx rfl rfl dX13_closes_30 ?_
  obtain ⟨r13, hr14, h⟩ := bnd h
  refine J_rdV hx (kX13_venueOf  hW12 hr14) ml_X13_44 lk_X13_venueOf (ci := 11) rfl (hW12.obj (rfl : kd 371 = 19) (by decide) (by decide)) (rest := [.ref (B.1 + 371), .int (7 : Int32), .int l1, .ref (B.1 + 371)]) rfl rfl (by decide) (by decide) (Nat.le_of_ble_eq_true rfl) (Nat.le_refl 0) (Nat.le_refl 0) dX13_closes_31 ?_
  refine J_iconst hx (1 : Int32) dX13_closes_34 rfl ?_
  obtain ⟨r15, hr16, h⟩ := bnd h
  refine J_rdV hx (kX13_ofVenue  hW12 hr16) ml_X13_68 lk_X13_ofVenue (ci := 11) rfl (hW12.obj (rfl : kd 371 = 19) (by decide) (by decide)) (rest := [.int (7 : Int32), .int l1, .ref (B.1 + 371)]) rfl rfl (by decide) (by decide) (Nat.le_of_ble_eq_true rfl) (Nat.le_refl 0) (Nat.le_refl 0) dX13_closes_35 ?_
  obtain ⟨r17, hr18, h⟩ := bnd h
  refine J_wrV hx (kX13_put  hW12 hr18) ml_X13_74 lk_X13_put (ci := 11) rfl (hW12.obj (rfl : kd 371 = 19) (by decide) (by decide)) (rest := []) rfl rfl (by decide) (by decide) (Nat.le_of_ble_eq_true rfl) (Nat.le_refl 0) (Nat.le_refl 0) dX13_closes_38 fun G19 hW20 => ?_
  show J X 2 G19 sz 0 0 41 [some (.ref (B.1 + 371)), some (.int l1)] []
  refine J_al4 hx rfl rfl dX13_closes_41 ?_
  refine J_il4 hx rfl rfl dX13_closes_42 ?_
  refine J_bipush hx (8 : Int32) dX13_closes_43 rfl ?_
  refine J_al4 hx rfl rfl dX13_closes_45 ?_
  refine g13_0 hx hW20 372 (rfl : kd 371 = 19) fl_X13_7 rfl dX13_closes_46 ?_
  refine J_iconst hx (0 : Int32) dX13_closes_49 rfl ?_
  refine J_iaW hx hW20 (rfl : kd 372 = 641) (by decide +kernel : idx (0 : Int32) 541 = some 0) dX13_closes_50 ?_
  obtain ⟨r21, hr22, h⟩ := bnd h
  refine J_wrV hx (kX13_put  hW20 hr22) ml_X13_74 lk_X13_put (ci := 11) rfl (hW20.obj (rfl : kd 371 = 19) (by decide) (by decide)) (rest := []) rfl rfl (by decide) (by decide) (Nat.le_of_ble_eq_true rfl) (Nat.le_refl 0) (Nat.le_refl 0) dX13_closes_51 fun G23 hW24 => ?_
  show J X 2 G23 sz 0 0 54 [some (.ref (B.1 + 371)), some (.int l1)] []
  refine J_al4 hx rfl rfl dX13_closes_54 ?_
  refine J_il4 hx rfl rfl dX13_closes_55 ?_
  refine J_iconst hx (0 : Int32) dX13_closes_56 rfl ?_
  obtain ⟨r25, hr26, h⟩ := bnd h
  refine J_rdV hx (kX13_worksIn  hW24 hr26) ml_X13_103 lk_X13_worksIn (ci := 11) rfl (hW24.obj (rfl : kd 371 = 19) (by decide) (by decide)) (rest := []) rfl rfl (by decide) (by decide) (Nat.le_of_ble_eq_true rfl) (Nat.le_refl 0) (Nat.le_refl 0) dX13_closes_57 ?_
  obtain rfl := Option.some.inj h
  exact J_iretW hx hr hW24 dX13_closes_60 (Nat.le_refl 0) (Nat.le_refl 0)
