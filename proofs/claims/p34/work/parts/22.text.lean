/-! Mirrors and walks, written by wip/whole/gen_walks.py -/
theorem dX2_append_0 : decode cX2_append 0 = .ok (.aload_n 0, 1) := by decide +kernel
theorem dX2_append_1 : decode cX2_append 1 = .ok (.getfield 9, 3) := by decide +kernel
theorem dX2_append_4 : decode cX2_append 4 = .ok (.aload_n 0, 1) := by decide +kernel
theorem dX2_append_5 : decode cX2_append 5 = .ok (.getfield 32, 3) := by decide +kernel
theorem dX2_append_8 : decode cX2_append 8 = .ok (.iload_n 1, 1) := by decide +kernel
theorem dX2_append_9 : decode cX2_append 9 = .ok (.i2b, 1) := by decide +kernel
theorem dX2_append_10 : decode cX2_append 10 = .ok (.bastore, 1) := by decide +kernel
theorem dX2_append_11 : decode cX2_append 11 = .ok (.aload_n 0, 1) := by decide +kernel
theorem dX2_append_12 : decode cX2_append 12 = .ok (.dup, 1) := by decide +kernel
theorem dX2_append_13 : decode cX2_append 13 = .ok (.getfield 32, 3) := by decide +kernel
theorem dX2_append_16 : decode cX2_append 16 = .ok (.iconst 1, 1) := by decide +kernel
theorem dX2_append_17 : decode cX2_append 17 = .ok (.iadd, 1) := by decide +kernel
theorem dX2_append_18 : decode cX2_append 18 = .ok (.putfield 32, 3) := by decide +kernel
theorem dX2_append_21 : decode cX2_append 21 = .ok (.aload_n 0, 1) := by decide +kernel
theorem dX2_append_22 : decode cX2_append 22 = .ok (.getfield 32, 3) := by decide +kernel
theorem dX2_append_25 : decode cX2_append 25 = .ok (.ireturn, 1) := by decide +kernel
def sX2_append (w : Wl) (l1 : Int32) : Option (Int32 × Wl) := (idx (w 368 1) 150).bind (fun c1 => some (((wst (wst w 369 c1 (vp_nar .byte l1.toInt8.toInt32)) 368 1 (((wst w 369 c1 (vp_nar .byte l1.toInt8.toInt32)) 368 1) + (1 : Int32))) 368 1), (wst (wst w 369 c1 (vp_nar .byte l1.toInt8.toInt32)) 368 1 (((wst w 369 c1 (vp_nar .byte l1.toInt8.toInt32)) 368 1) + (1 : Int32)))))
theorem kX2_append {l : Launch} {Γ : Gl} {B : Bs} {w : Wl} {G : Gf} {sz : Nat} {l1 : Int32} {r : (Int32 × Wl)} (hW : Wd Γ B w G) (h : sX2_append w l1 = some r) : CtW l Γ yX2_append cX2_append 2 (some .int) 0 [.ref (B.1 + 368), .int l1] G sz B (some (.int (r.1))) r.2 := by
  refine Ct.of rfl (Nat.le_of_ble_eq_true rfl) fun X hx hr hl hΓ hnm => ?_
  subst hl hΓ
  show J X 2 G sz 0 0 0 [some (.ref (B.1 + 368)), some (.int l1)] []
  unfold sX2_append at h
  refine J_al4 hx rfl rfl dX2_append_0 ?_
  refine g2_0 hx hW 369 (rfl : kd 368 = 17) fl_X2_9 rfl dX2_append_1 ?_
  refine J_al4 hx rfl rfl dX2_append_4 ?_
  refine g2_1 hx hW (rfl : kd 368 = 17) fl_X2_32 dX2_append_5 ?_
  refine J_il4 hx rfl rfl dX2_append_8 ?_
  refine J_i2b hx dX2_append_9 ?_
  obtain ⟨c1, hc2, h⟩ := bnd h
  refine J_baS hx hW (rfl : kd 369 = 18) hc2 dX2_append_10 fun G3 hW4 => ?_
  refine J_al4 hx rfl rfl dX2_append_11 ?_
  refine J_dup hx dX2_append_12 ?_
  refine g2_1 hx hW4 (rfl : kd 368 = 17) fl_X2_32 dX2_append_13 ?_
  refine J_iconst hx (1 : Int32) dX2_append_16 rfl ?_
  refine J_iadd hx dX2_append_17 ?_
  refine p2_1 hx hW4 (rfl : kd 368 = 17) fl_X2_32 dX2_append_18 fun G5 hW6 => ?_
  refine J_al4 hx rfl rfl dX2_append_21 ?_
  refine g2_1 hx hW6 (rfl : kd 368 = 17) fl_X2_32 dX2_append_22 ?_
  obtain rfl := Option.some.inj h
  exact J_iretW hx hr hW6 dX2_append_25 (Nat.le_refl 0) (Nat.le_refl 0)
theorem dX2_rewind_0 : decode cX2_rewind 0 = .ok (.aload_n 0, 1) := by decide +kernel
theorem dX2_rewind_1 : decode cX2_rewind 1 = .ok (.iconst 0, 1) := by decide +kernel
theorem dX2_rewind_2 : decode cX2_rewind 2 = .ok (.putfield 42, 3) := by decide +kernel
theorem dX2_rewind_5 : decode cX2_rewind 5 = .ok (.aload_n 0, 1) := by decide +kernel
theorem dX2_rewind_6 : decode cX2_rewind 6 = .ok (.iconst (-1), 1) := by decide +kernel
theorem dX2_rewind_7 : decode cX2_rewind 7 = .ok (.putfield 15, 3) := by decide +kernel
theorem dX2_rewind_10 : decode cX2_rewind 10 = .ok (.return_, 1) := by decide +kernel
def sX2_rewind (w : Wl) : Option Wl := some (wst (wst w 368 2 (0 : Int32)) 368 3 (-1 : Int32))
theorem kX2_rewind {l : Launch} {Γ : Gl} {B : Bs} {w : Wl} {G : Gf} {sz : Nat} {r : Wl} (hW : Wd Γ B w G) (h : sX2_rewind w  = some r) : CtW l Γ yX2_rewind cX2_rewind 1 none 0 [.ref (B.1 + 368)] G sz B none r := by
  refine Ct.of rfl (Nat.le_of_ble_eq_true rfl) fun X hx hr hl hΓ hnm => ?_
  subst hl hΓ
  show J X 1 G sz 0 0 0 [some (.ref (B.1 + 368))] []
  unfold sX2_rewind at h
  refine J_al4 hx rfl rfl dX2_rewind_0 ?_
  refine J_iconst hx (0 : Int32) dX2_rewind_1 rfl ?_
  refine p2_2 hx hW (rfl : kd 368 = 17) fl_X2_42 dX2_rewind_2 fun G1 hW2 => ?_
  refine J_al4 hx rfl rfl dX2_rewind_5 ?_
  refine J_iconst hx (-1 : Int32) dX2_rewind_6 rfl ?_
  refine p2_3 hx hW2 (rfl : kd 368 = 17) fl_X2_15 dX2_rewind_7 fun G3 hW4 => ?_
  obtain rfl := Option.some.inj h
  exact J_vretW hx hr hW4 dX2_rewind_10 (Nat.le_refl 0) (Nat.le_refl 0)
theorem dX2_skipSpaces_0 : decode cX2_skipSpaces 0 = .ok (.aload_n 0, 1) := by decide +kernel
theorem dX2_skipSpaces_1 : decode cX2_skipSpaces 1 = .ok (.getfield 42, 3) := by decide +kernel
theorem dX2_skipSpaces_4 : decode cX2_skipSpaces 4 = .ok (.aload_n 0, 1) := by decide +kernel
theorem dX2_skipSpaces_5 : decode cX2_skipSpaces 5 = .ok (.getfield 32, 3) := by decide +kernel
theorem dX2_skipSpaces_8 : decode cX2_skipSpaces 8 = .ok (.if_icmp .ge 30, 3) := by decide +kernel
theorem dX2_skipSpaces_11 : decode cX2_skipSpaces 11 = .ok (.aload_n 0, 1) := by decide +kernel
theorem dX2_skipSpaces_12 : decode cX2_skipSpaces 12 = .ok (.getfield 9, 3) := by decide +kernel
theorem dX2_skipSpaces_15 : decode cX2_skipSpaces 15 = .ok (.aload_n 0, 1) := by decide +kernel
theorem dX2_skipSpaces_16 : decode cX2_skipSpaces 16 = .ok (.getfield 42, 3) := by decide +kernel
theorem dX2_skipSpaces_19 : decode cX2_skipSpaces 19 = .ok (.baload, 1) := by decide +kernel
theorem dX2_skipSpaces_20 : decode cX2_skipSpaces 20 = .ok (.bipush 32, 2) := by decide +kernel
theorem dX2_skipSpaces_22 : decode cX2_skipSpaces 22 = .ok (.if_icmp .ne 16, 3) := by decide +kernel
theorem dX2_skipSpaces_25 : decode cX2_skipSpaces 25 = .ok (.aload_n 0, 1) := by decide +kernel
theorem dX2_skipSpaces_26 : decode cX2_skipSpaces 26 = .ok (.dup, 1) := by decide +kernel
theorem dX2_skipSpaces_27 : decode cX2_skipSpaces 27 = .ok (.getfield 42, 3) := by decide +kernel
theorem dX2_skipSpaces_30 : decode cX2_skipSpaces 30 = .ok (.iconst 1, 1) := by decide +kernel
theorem dX2_skipSpaces_31 : decode cX2_skipSpaces 31 = .ok (.iadd, 1) := by decide +kernel
theorem dX2_skipSpaces_32 : decode cX2_skipSpaces 32 = .ok (.putfield 42, 3) := by decide +kernel
theorem dX2_skipSpaces_35 : decode cX2_skipSpaces 35 = .ok (.goto (-35), 3) := by decide +kernel
theorem dX2_skipSpaces_38 : decode cX2_skipSpaces 38 = .ok (.return_, 1) := by decide +kernel
def sX2_skipSpaces_0 : Nat → Wl → Option Wl
  | 0, _ => none
  | n + 1, w => (if (w 368 1) ≤ (w 368 2) then some w else (idx (w 368 2) 150).bind (fun c2 => (if (w 369 c2) = (32 : Int32) then sX2_skipSpaces_0 n (wst w 368 2 ((w 368 2) + (1 : Int32))) else some w)))
theorem tX2_skipSpaces_0 {X : Cx} {B : Bs} {sz : Nat} {r : Wl} (hx : Fx X cX2_skipSpaces 1 RX2 0 0 0) (hr : Rt X none 0 0 (WΨ (xΓ X) B none r sz)) : ∀ (n : Nat), ∀ (w : Wl) {G : Gf} (hW : Wd (xΓ X) B w G) (h : sX2_skipSpaces_0 n w  = some r), J X 1 G sz 0 0 0 [some (.ref (B.1 + 368))] [] := by
  intro n
  induction n with
  | zero => intro w G hW h; rw [sX2_skipSpaces_0.eq_1] at h; cases h
  | succ n ih =>
    intro w G hW h
    rw [sX2_skipSpaces_0.eq_2] at h
    refine J_al4 hx rfl rfl dX2_skipSpaces_0 ?_
    refine g2_2 hx hW (rfl : kd 368 = 17) fl_X2_42 dX2_skipSpaces_1 ?_
    refine J_al4 hx rfl rfl dX2_skipSpaces_4 ?_
    refine g2_1 hx hW (rfl : kd 368 = 17) fl_X2_32 dX2_skipSpaces_5 ?_
    refine J_icmp_ge hx 38 dX2_skipSpaces_8 rfl (fun h1 => ?_) (fun h1 => ?_)
    · replace h := pos h h1
      obtain rfl := Option.some.inj h
      exact J_vretW hx hr hW dX2_skipSpaces_38 (Nat.le_refl 0) (Nat.le_refl 0)
    · replace h := neg h h1
      refine J_al4 hx rfl rfl dX2_skipSpaces_11 ?_
      refine g2_0 hx hW 369 (rfl : kd 368 = 17) fl_X2_9 rfl dX2_skipSpaces_12 ?_
      refine J_al4 hx rfl rfl dX2_skipSpaces_15 ?_
      refine g2_2 hx hW (rfl : kd 368 = 17) fl_X2_42 dX2_skipSpaces_16 ?_
      obtain ⟨c2, hc3, h⟩ := bnd h
      refine J_baW hx hW (rfl : kd 369 = 18) hc3 dX2_skipSpaces_19 ?_
      refine J_bipush hx (32 : Int32) dX2_skipSpaces_20 rfl ?_
      refine J_icmp_ne hx 38 dX2_skipSpaces_22 rfl (fun h4 => ?_) (fun h4 => ?_)
      · replace h := neg h h4
        obtain rfl := Option.some.inj h
        exact J_vretW hx hr hW dX2_skipSpaces_38 (Nat.le_refl 0) (Nat.le_refl 0)
      · replace h := pos h h4
        refine J_al4 hx rfl rfl dX2_skipSpaces_25 ?_
        refine J_dup hx dX2_skipSpaces_26 ?_
        refine g2_2 hx hW (rfl : kd 368 = 17) fl_X2_42 dX2_skipSpaces_27 ?_
        refine J_iconst hx (1 : Int32) dX2_skipSpaces_30 rfl ?_
        refine J_iadd hx dX2_skipSpaces_31 ?_
        refine p2_2 hx hW (rfl : kd 368 = 17) fl_X2_42 dX2_skipSpaces_32 fun G5 hW6 => ?_
        refine J_goto hx 0 dX2_skipSpaces_35 rfl ?_
        exact ih _   hW6 h
def sX2_skipSpaces (w : Wl) : Option Wl := sX2_skipSpaces_0 FU w
theorem kX2_skipSpaces {l : Launch} {Γ : Gl} {B : Bs} {w : Wl} {G : Gf} {sz : Nat} {r : Wl} (hW : Wd Γ B w G) (h : sX2_skipSpaces w  = some r) : CtW l Γ yX2_skipSpaces cX2_skipSpaces 1 none 0 [.ref (B.1 + 368)] G sz B none r := by
  refine Ct.of rfl (Nat.le_of_ble_eq_true rfl) fun X hx hr hl hΓ hnm => ?_
  subst hl hΓ
  show J X 1 G sz 0 0 0 [some (.ref (B.1 + 368))] []
  unfold sX2_skipSpaces at h
  exact tX2_skipSpaces_0 hx hr _ _   hW h
theorem dX2_isWordAt_0 : decode cX2_isWordAt 0 = .ok (.aload_n 1, 1) := by decide +kernel
theorem dX2_isWordAt_1 : decode cX2_isWordAt 1 = .ok (.invokevirtual 73, 3) := by decide +kernel
theorem dX2_isWordAt_4 : decode cX2_isWordAt 4 = .ok (.aload_n 0, 1) := by decide +kernel
theorem dX2_isWordAt_5 : decode cX2_isWordAt 5 = .ok (.getfield 42, 3) := by decide +kernel
theorem dX2_isWordAt_8 : decode cX2_isWordAt 8 = .ok (.iload_n 2, 1) := by decide +kernel
theorem dX2_isWordAt_9 : decode cX2_isWordAt 9 = .ok (.isub, 1) := by decide +kernel
theorem dX2_isWordAt_10 : decode cX2_isWordAt 10 = .ok (.if_icmp .eq 5, 3) := by decide +kernel
theorem dX2_isWordAt_13 : decode cX2_isWordAt 13 = .ok (.iconst 0, 1) := by decide +kernel
theorem dX2_isWordAt_14 : decode cX2_isWordAt 14 = .ok (.ireturn, 1) := by decide +kernel
theorem dX2_isWordAt_15 : decode cX2_isWordAt 15 = .ok (.iconst 0, 1) := by decide +kernel
theorem dX2_isWordAt_16 : decode cX2_isWordAt 16 = .ok (.istore_n 3, 1) := by decide +kernel
theorem dX2_isWordAt_17 : decode cX2_isWordAt 17 = .ok (.iload_n 3, 1) := by decide +kernel
theorem dX2_isWordAt_18 : decode cX2_isWordAt 18 = .ok (.aload_n 1, 1) := by decide +kernel
theorem dX2_isWordAt_19 : decode cX2_isWordAt 19 = .ok (.invokevirtual 73, 3) := by decide +kernel
theorem dX2_isWordAt_22 : decode cX2_isWordAt 22 = .ok (.if_icmp .ge 27, 3) := by decide +kernel
theorem dX2_isWordAt_25 : decode cX2_isWordAt 25 = .ok (.aload_n 0, 1) := by decide +kernel
theorem dX2_isWordAt_26 : decode cX2_isWordAt 26 = .ok (.getfield 9, 3) := by decide +kernel
theorem dX2_isWordAt_29 : decode cX2_isWordAt 29 = .ok (.iload_n 2, 1) := by decide +kernel
theorem dX2_isWordAt_30 : decode cX2_isWordAt 30 = .ok (.iload_n 3, 1) := by decide +kernel
theorem dX2_isWordAt_31 : decode cX2_isWordAt 31 = .ok (.iadd, 1) := by decide +kernel
theorem dX2_isWordAt_32 : decode cX2_isWordAt 32 = .ok (.baload, 1) := by decide +kernel
theorem dX2_isWordAt_33 : decode cX2_isWordAt 33 = .ok (.aload_n 1, 1) := by decide +kernel
theorem dX2_isWordAt_34 : decode cX2_isWordAt 34 = .ok (.iload_n 3, 1) := by decide +kernel
theorem dX2_isWordAt_35 : decode cX2_isWordAt 35 = .ok (.invokevirtual 78, 3) := by decide +kernel
theorem dX2_isWordAt_38 : decode cX2_isWordAt 38 = .ok (.if_icmp .eq 5, 3) := by decide +kernel
theorem dX2_isWordAt_41 : decode cX2_isWordAt 41 = .ok (.iconst 0, 1) := by decide +kernel
theorem dX2_isWordAt_42 : decode cX2_isWordAt 42 = .ok (.ireturn, 1) := by decide +kernel
theorem dX2_isWordAt_43 : decode cX2_isWordAt 43 = .ok (.iinc 3 1, 3) := by decide +kernel
theorem dX2_isWordAt_46 : decode cX2_isWordAt 46 = .ok (.goto (-29), 3) := by decide +kernel
theorem dX2_isWordAt_49 : decode cX2_isWordAt 49 = .ok (.iconst 1, 1) := by decide +kernel
theorem dX2_isWordAt_50 : decode cX2_isWordAt 50 = .ok (.ireturn, 1) := by decide +kernel
def sX2_isWordAt_17 : Nat → Wl → Nat → Int32 → Int32 → Option Bool
  | 0, _, _, _, _ => none
  | n + 1, w, d1, l2, l3 => (if (Int32.ofNat (slen d1)) ≤ l3 then some true else (idx (l2 + l3) 150).bind (fun c2 => (idx l3 (slen d1)).bind (fun c4 => (if (w 369 c2) = (sby d1 c4) then sX2_isWordAt_17 n w d1 l2 (l3 + 1) else some false))))
theorem tX2_isWordAt_17 {X : Cx} {B : Bs} {sz : Nat} {G : Gf} {r : Bool} (hx : Fx X cX2_isWordAt 4 RX2 4 0 0) (hC : GC (xΓ X) B) (hr : Rt X (some .boolean) 0 0 (RdΨ (.int (bI r)) G sz)) : ∀ (n : Nat), ∀ (w : Wl) (d1 : Nat) (l2 : Int32) (l3 : Int32) (hd1 : d1 < 9) (hW : Wd (xΓ X) B w G) (h : sX2_isWordAt_17 n w d1 l2 l3 = some r), J X 4 G sz 0 0 17 [some (.ref (B.1 + 368)), some (.ref (B.2 (20 + d1))), some (.int l2), some (.int l3)] [] := by
  intro n
  induction n with
  | zero => intro w d1 l2 l3 hd1 hW h; rw [sX2_isWordAt_17.eq_1] at h; cases h
  | succ n ih =>
    intro w d1 l2 l3 hd1 hW h
    rw [sX2_isWordAt_17.eq_2] at h
    refine J_il4 hx rfl rfl dX2_isWordAt_17 ?_
    refine J_al4 hx rfl rfl dX2_isWordAt_18 ?_
    refine J_callO hx (kJ0_length_8abf5 hd1 hC) mj_73 lk_J0_length_8abf5 ((hx.kc hC).str _ hd1) (rest := [.int l3]) rfl rfl (by decide) (by decide) (Nat.le_of_ble_eq_true rfl) (Nat.le_refl 0) (Nat.le_refl 0) dX2_isWordAt_19 ?_
    refine J_icmp_ge hx 49 dX2_isWordAt_22 rfl (fun h1 => ?_) (fun h1 => ?_)
    · replace h := pos h h1
      refine J_iconst hx (1 : Int32) dX2_isWordAt_49 rfl ?_
      exact J_zretR hx hr dX2_isWordAt_50 (Nat.le_refl 0) (Nat.le_refl 0) (show (1 : Int32) = bI _ from congrArg bI (Option.some.inj h))
    · replace h := neg h h1
      refine J_al4 hx rfl rfl dX2_isWordAt_25 ?_
      refine g2_0 hx hW 369 (rfl : kd 368 = 17) fl_X2_9 rfl dX2_isWordAt_26 ?_
      refine J_il4 hx rfl rfl dX2_isWordAt_29 ?_
      refine J_il4 hx rfl rfl dX2_isWordAt_30 ?_
      refine J_iadd hx dX2_isWordAt_31 ?_
      obtain ⟨c2, hc3, h⟩ := bnd h
      refine J_baW hx hW (rfl : kd 369 = 18) hc3 dX2_isWordAt_32 ?_
      refine J_al4 hx rfl rfl dX2_isWordAt_33 ?_
      refine J_il4 hx rfl rfl dX2_isWordAt_34 ?_
      obtain ⟨c4, hc5, h⟩ := bnd h
      refine J_callO hx (kJ0_charAt_5068e hd1 hc5 hC) mj_78 lk_J0_charAt_5068e ((hx.kc hC).str _ hd1) (rest := [.int (w 369 c2)]) rfl rfl (by decide) (by decide) (Nat.le_of_ble_eq_true rfl) (Nat.le_refl 0) (Nat.le_refl 0) dX2_isWordAt_35 ?_
      refine J_icmp_eq hx 43 dX2_isWordAt_38 rfl (fun h6 => ?_) (fun h6 => ?_)
      · replace h := pos h h6
        refine J_iinc hx (v' := (l3 + 1)) rfl rfl (by decide) (hc_of rfl) rfl dX2_isWordAt_43 ?_
        refine J_goto hx 17 dX2_isWordAt_46 rfl ?_
        exact ih _ _ _ _ hd1 hW h
      · replace h := neg h h6
        refine J_iconst hx (0 : Int32) dX2_isWordAt_41 rfl ?_
        exact J_zretR hx hr dX2_isWordAt_42 (Nat.le_refl 0) (Nat.le_refl 0) (show (0 : Int32) = bI _ from congrArg bI (Option.some.inj h))
def sX2_isWordAt (w : Wl) (d1 : Nat) (l2 : Int32) : Option Bool := (if (Int32.ofNat (slen d1)) = ((w 368 2) - l2) then sX2_isWordAt_17 FU w d1 l2 (0 : Int32) else some false)
theorem kX2_isWordAt {l : Launch} {Γ : Gl} {B : Bs} {w : Wl} {G : Gf} {sz : Nat} {d1 : Nat} {l2 : Int32} {r : Bool} (hd1 : d1 < 9) (hC : GC Γ B) (hW : Wd Γ B w G) (h : sX2_isWordAt w d1 l2 = some r) : CtR l Γ yX2_isWordAt cX2_isWordAt 4 (some .boolean) 4 [.ref (B.1 + 368), .ref (B.2 (20 + d1)), .int l2] G sz (.int (bI r)) := by
  refine Ct.of rfl (Nat.le_of_ble_eq_true rfl) fun X hx hr hl hΓ hnm => ?_
  subst hl hΓ
  show J X 4 G sz 0 0 0 [some (.ref (B.1 + 368)), some (.ref (B.2 (20 + d1))), some (.int l2), none] []
  unfold sX2_isWordAt at h
  refine J_al4 hx rfl rfl dX2_isWordAt_0 ?_
  refine J_callO hx (kJ0_length_8abf5 hd1 hC) mj_73 lk_J0_length_8abf5 ((hx.kc hC).str _ hd1) (rest := []) rfl rfl (by decide) (by decide) (Nat.le_of_ble_eq_true rfl) (Nat.le_refl 0) (Nat.le_refl 0) dX2_isWordAt_1 ?_
  refine J_al4 hx rfl rfl dX2_isWordAt_4 ?_
  refine g2_2 hx hW (rfl : kd 368 = 17) fl_X2_42 dX2_isWordAt_5 ?_
  refine J_il4 hx rfl rfl dX2_isWordAt_8 ?_
  refine J_isub hx dX2_isWordAt_9 ?_
  refine J_icmp_eq hx 15 dX2_isWordAt_10 rfl (fun h1 => ?_) (fun h1 => ?_)
  · replace h := pos h h1
    refine J_iconst hx (0 : Int32) dX2_isWordAt_15 rfl ?_
    refine J_is4 hx rfl (by decide) (hc_of rfl) rfl dX2_isWordAt_16 ?_
    exact tX2_isWordAt_17 hx hC hr _ _ _ _ _ hd1 hW h
  · replace h := neg h h1
    refine J_iconst hx (0 : Int32) dX2_isWordAt_13 rfl ?_
    exact J_zretR hx hr dX2_isWordAt_14 (Nat.le_refl 0) (Nat.le_refl 0) (show (0 : Int32) = bI _ from congrArg bI (Option.some.inj h))
theorem dX2_failAt_0 : decode cX2_failAt 0 = .ok (.aload_n 0, 1) := by decide +kernel
theorem dX2_failAt_1 : decode cX2_failAt 1 = .ok (.iload_n 1, 1) := by decide +kernel
theorem dX2_failAt_2 : decode cX2_failAt 2 = .ok (.putfield 15, 3) := by decide +kernel
theorem dX2_failAt_5 : decode cX2_failAt 5 = .ok (.iconst 0, 1) := by decide +kernel
theorem dX2_failAt_6 : decode cX2_failAt 6 = .ok (.ireturn, 1) := by decide +kernel
def sX2_failAt (w : Wl) (l1 : Int32) : Option (Bool × Wl) := some (false, (wst w 368 3 l1))
theorem kX2_failAt {l : Launch} {Γ : Gl} {B : Bs} {w : Wl} {G : Gf} {sz : Nat} {l1 : Int32} {r : (Bool × Wl)} (hW : Wd Γ B w G) (h : sX2_failAt w l1 = some r) : CtW l Γ yX2_failAt cX2_failAt 2 (some .boolean) 0 [.ref (B.1 + 368), .int l1] G sz B (some (.int (bI r.1))) r.2 := by
  refine Ct.of rfl (Nat.le_of_ble_eq_true rfl) fun X hx hr hl hΓ hnm => ?_
  subst hl hΓ
  show J X 2 G sz 0 0 0 [some (.ref (B.1 + 368)), some (.int l1)] []
  unfold sX2_failAt at h
  refine J_al4 hx rfl rfl dX2_failAt_0 ?_
  refine J_il4 hx rfl rfl dX2_failAt_1 ?_
  refine p2_3 hx hW (rfl : kd 368 = 17) fl_X2_15 dX2_failAt_2 fun G1 hW2 => ?_
  refine J_iconst hx (0 : Int32) dX2_failAt_5 rfl ?_
  obtain rfl := Option.some.inj h
  exact J_zretW (b := false) hx hr hW2 dX2_failAt_6 (Nat.le_refl 0) (Nat.le_refl 0)
theorem dX2_readWord_0 : decode cX2_readWord 0 = .ok (.aload_n 0, 1) := by decide +kernel
theorem dX2_readWord_1 : decode cX2_readWord 1 = .ok (.getfield 42, 3) := by decide +kernel
theorem dX2_readWord_4 : decode cX2_readWord 4 = .ok (.istore_n 1, 1) := by decide +kernel
theorem dX2_readWord_5 : decode cX2_readWord 5 = .ok (.aload_n 0, 1) := by decide +kernel
theorem dX2_readWord_6 : decode cX2_readWord 6 = .ok (.getfield 42, 3) := by decide +kernel
theorem dX2_readWord_9 : decode cX2_readWord 9 = .ok (.aload_n 0, 1) := by decide +kernel
theorem dX2_readWord_10 : decode cX2_readWord 10 = .ok (.getfield 32, 3) := by decide +kernel
theorem dX2_readWord_13 : decode cX2_readWord 13 = .ok (.if_icmp .ge 44, 3) := by decide +kernel
theorem dX2_readWord_16 : decode cX2_readWord 16 = .ok (.aload_n 0, 1) := by decide +kernel
theorem dX2_readWord_17 : decode cX2_readWord 17 = .ok (.getfield 9, 3) := by decide +kernel
theorem dX2_readWord_20 : decode cX2_readWord 20 = .ok (.aload_n 0, 1) := by decide +kernel
theorem dX2_readWord_21 : decode cX2_readWord 21 = .ok (.getfield 42, 3) := by decide +kernel
theorem dX2_readWord_24 : decode cX2_readWord 24 = .ok (.baload, 1) := by decide +kernel
theorem dX2_readWord_25 : decode cX2_readWord 25 = .ok (.bipush 97, 2) := by decide +kernel
theorem dX2_readWord_27 : decode cX2_readWord 27 = .ok (.if_icmp .lt 30, 3) := by decide +kernel
theorem dX2_readWord_30 : decode cX2_readWord 30 = .ok (.aload_n 0, 1) := by decide +kernel
theorem dX2_readWord_31 : decode cX2_readWord 31 = .ok (.getfield 9, 3) := by decide +kernel
theorem dX2_readWord_34 : decode cX2_readWord 34 = .ok (.aload_n 0, 1) := by decide +kernel
theorem dX2_readWord_35 : decode cX2_readWord 35 = .ok (.getfield 42, 3) := by decide +kernel
theorem dX2_readWord_38 : decode cX2_readWord 38 = .ok (.baload, 1) := by decide +kernel
theorem dX2_readWord_39 : decode cX2_readWord 39 = .ok (.bipush 122, 2) := by decide +kernel
theorem dX2_readWord_41 : decode cX2_readWord 41 = .ok (.if_icmp .gt 16, 3) := by decide +kernel
theorem dX2_readWord_44 : decode cX2_readWord 44 = .ok (.aload_n 0, 1) := by decide +kernel
theorem dX2_readWord_45 : decode cX2_readWord 45 = .ok (.dup, 1) := by decide +kernel
theorem dX2_readWord_46 : decode cX2_readWord 46 = .ok (.getfield 42, 3) := by decide +kernel
theorem dX2_readWord_49 : decode cX2_readWord 49 = .ok (.iconst 1, 1) := by decide +kernel
theorem dX2_readWord_50 : decode cX2_readWord 50 = .ok (.iadd, 1) := by decide +kernel
theorem dX2_readWord_51 : decode cX2_readWord 51 = .ok (.putfield 42, 3) := by decide +kernel
theorem dX2_readWord_54 : decode cX2_readWord 54 = .ok (.goto (-49), 3) := by decide +kernel
theorem dX2_readWord_57 : decode cX2_readWord 57 = .ok (.iconst 0, 1) := by decide +kernel
theorem dX2_readWord_58 : decode cX2_readWord 58 = .ok (.istore_n 2, 1) := by decide +kernel
theorem dX2_readWord_59 : decode cX2_readWord 59 = .ok (.iload_n 2, 1) := by decide +kernel
theorem dX2_readWord_60 : decode cX2_readWord 60 = .ok (.getstatic 57, 3) := by decide +kernel
theorem dX2_readWord_63 : decode cX2_readWord 63 = .ok (.arraylength, 1) := by decide +kernel
theorem dX2_readWord_64 : decode cX2_readWord 64 = .ok (.if_icmp .ge 36, 3) := by decide +kernel
theorem dX2_readWord_67 : decode cX2_readWord 67 = .ok (.aload_n 0, 1) := by decide +kernel
theorem dX2_readWord_68 : decode cX2_readWord 68 = .ok (.getstatic 57, 3) := by decide +kernel
theorem dX2_readWord_71 : decode cX2_readWord 71 = .ok (.iload_n 2, 1) := by decide +kernel
theorem dX2_readWord_72 : decode cX2_readWord 72 = .ok (.aaload, 1) := by decide +kernel
theorem dX2_readWord_73 : decode cX2_readWord 73 = .ok (.getfield 61, 3) := by decide +kernel
theorem dX2_readWord_76 : decode cX2_readWord 76 = .ok (.iload_n 1, 1) := by decide +kernel
theorem dX2_readWord_77 : decode cX2_readWord 77 = .ok (.invokevirtual 65, 3) := by decide +kernel
theorem dX2_readWord_80 : decode cX2_readWord 80 = .ok (.ifCond .eq 14, 3) := by decide +kernel
theorem dX2_readWord_83 : decode cX2_readWord 83 = .ok (.aload_n 0, 1) := by decide +kernel
theorem dX2_readWord_84 : decode cX2_readWord 84 = .ok (.getstatic 57, 3) := by decide +kernel
theorem dX2_readWord_87 : decode cX2_readWord 87 = .ok (.iload_n 2, 1) := by decide +kernel
theorem dX2_readWord_88 : decode cX2_readWord 88 = .ok (.aaload, 1) := by decide +kernel
theorem dX2_readWord_89 : decode cX2_readWord 89 = .ok (.putfield 25, 3) := by decide +kernel
theorem dX2_readWord_92 : decode cX2_readWord 92 = .ok (.iconst 1, 1) := by decide +kernel
theorem dX2_readWord_93 : decode cX2_readWord 93 = .ok (.ireturn, 1) := by decide +kernel
theorem dX2_readWord_94 : decode cX2_readWord 94 = .ok (.iinc 2 1, 3) := by decide +kernel
theorem dX2_readWord_97 : decode cX2_readWord 97 = .ok (.goto (-38), 3) := by decide +kernel
theorem dX2_readWord_100 : decode cX2_readWord 100 = .ok (.aload_n 0, 1) := by decide +kernel
theorem dX2_readWord_101 : decode cX2_readWord 101 = .ok (.iload_n 1, 1) := by decide +kernel
theorem dX2_readWord_102 : decode cX2_readWord 102 = .ok (.invokevirtual 69, 3) := by decide +kernel
theorem dX2_readWord_105 : decode cX2_readWord 105 = .ok (.ireturn, 1) := by decide +kernel
def sX2_readWord_59 : Nat → Wl → Int32 → Int32 → Option (Bool × Wl)
  | 0, _, _, _ => none
  | n + 1, w, l1, l2 => (if (9 : Int32) ≤ l2 then (sX2_failAt w l1).bind (fun r2 => some (r2.1, r2.2)) else (idx l2 9).bind (fun c6 => (sX2_isWordAt w c6 l1).bind (fun r8 => (if r8 = true then some (true, (wst w 368 4 l2)) else sX2_readWord_59 n w l1 (l2 + 1)))))
theorem tX2_readWord_59 {X : Cx} {B : Bs} {sz : Nat} {r : (Bool × Wl)} (hx : Fx X cX2_readWord 3 RX2 5 0 0) (hC : GC (xΓ X) B) (hr : Rt X (some .boolean) 0 0 (WΨ (xΓ X) B (some (.int (bI r.1))) r.2 sz)) : ∀ (n : Nat), ∀ (w : Wl) (l1 : Int32) (l2 : Int32) {G : Gf} (hW : Wd (xΓ X) B w G) (h : sX2_readWord_59 n w l1 l2 = some r), J X 3 G sz 0 0 59 [some (.ref (B.1 + 368)), some (.int l1), some (.int l2)] [] := by
  intro n
  induction n with
  | zero => intro w l1 l2 G hW h; rw [sX2_readWord_59.eq_1] at h; cases h
  | succ n ih =>
    intro w l1 l2 G hW h
    rw [sX2_readWord_59.eq_2] at h
    refine J_il4 hx rfl rfl dX2_readWord_59 ?_
    refine J_getsN hx (hx.kc hC).z1 (hx.kc hC).nw dX2_readWord_60 ?_
    refine J_tlen hx (hx.kc hC).t1 (v := (9 : Int32)) rfl dX2_readWord_63 ?_
    refine J_icmp_ge hx 100 dX2_readWord_64 rfl (fun h1 => ?_) (fun h1 => ?_)
    · replace h := pos h h1
      refine J_al4 hx rfl rfl dX2_readWord_100 ?_
      refine J_il4 hx rfl rfl dX2_readWord_101 ?_
      obtain ⟨r2, hr3, h⟩ := bnd h
      refine J_wrV hx (kX2_failAt  hW hr3) ml_X2_69 lk_X2_failAt (ci := 1) rfl (hW.obj (rfl : kd 368 = 17) (by decide) (by decide)) (rest := []) rfl rfl (by decide) (by decide) (Nat.le_of_ble_eq_true rfl) (Nat.le_refl 0) (Nat.le_refl 0) dX2_readWord_102 fun G4 hW5 => ?_
      show J X 3 G4 sz 0 0 105 [some (.ref (B.1 + 368)), some (.int l1), some (.int l2)] [.int (bI r2.1)]
      obtain rfl := Option.some.inj h
      exact J_zretW (b := r2.1) hx hr hW5 dX2_readWord_105 (Nat.le_refl 0) (Nat.le_refl 0)
    · replace h := neg h h1
      refine J_al4 hx rfl rfl dX2_readWord_67 ?_
      refine J_getsN hx (hx.kc hC).z1 (hx.kc hC).nw dX2_readWord_68 ?_
      refine J_il4 hx rfl rfl dX2_readWord_71 ?_
      obtain ⟨c6, hc7, h⟩ := bnd h
      refine J_taald hx rfl (hx.kc hC).t1 hc7 dX2_readWord_72 ?_
      refine J_of hx ((hx.kc hC).wd _ (idx_lt hc7)).2.2.2 fl_X2_61 dX2_readWord_73 ?_
      refine J_il4 hx rfl rfl dX2_readWord_76 ?_
      obtain ⟨r8, hr9, h⟩ := bnd h
      refine J_rdV hx (kX2_isWordAt (idx_lt hc7) hC hW hr9) ml_X2_65 lk_X2_isWordAt (ci := 1) rfl (hW.obj (rfl : kd 368 = 17) (by decide) (by decide)) (rest := []) rfl rfl (by decide) (by decide) (Nat.le_of_ble_eq_true rfl) (Nat.le_refl 0) (Nat.le_refl 0) dX2_readWord_77 ?_
      refine J_bif_eq hx 94 dX2_readWord_80 rfl (fun h10 => ?_) (fun h10 => ?_)
      · replace h := neg h (bft h10)
        refine J_iinc hx (v' := (l2 + 1)) rfl rfl (by decide) (hc_of rfl) rfl dX2_readWord_94 ?_
        refine J_goto hx 59 dX2_readWord_97 rfl ?_
        exact ih _ _ _  hW h
      · replace h := pos h h10
        refine J_al4 hx rfl rfl dX2_readWord_83 ?_
        refine J_getsN hx (hx.kc hC).z1 (hx.kc hC).nw dX2_readWord_84 ?_
        refine J_il4 hx rfl rfl dX2_readWord_87 ?_
        refine J_taald hx rfl (hx.kc hC).t1 hc7 dX2_readWord_88 ?_
        refine pW2_4 hx hW (rfl : kd 368 = 17) fl_X2_25 hc7 dX2_readWord_89 fun G11 hW12 => ?_
        refine J_iconst hx (1 : Int32) dX2_readWord_92 rfl ?_
        obtain rfl := Option.some.inj h
        exact J_zretW (b := true) hx hr hW12 dX2_readWord_93 (Nat.le_refl 0) (Nat.le_refl 0)
def sX2_readWord_5 : Nat → Wl → Int32 → Option (Bool × Wl)
  | 0, _, _ => none
  | n + 1, w, l1 => (if (w 368 1) ≤ (w 368 2) then sX2_readWord_59 FU w l1 (0 : Int32) else (idx (w 368 2) 150).bind (fun c2 => (if (w 369 c2) < (97 : Int32) then sX2_readWord_59 FU w l1 (0 : Int32) else (if (122 : Int32) < (w 369 c2) then sX2_readWord_59 FU w l1 (0 : Int32) else sX2_readWord_5 n (wst w 368 2 ((w 368 2) + (1 : Int32))) l1))))
theorem tX2_readWord_5 {X : Cx} {B : Bs} {sz : Nat} {r : (Bool × Wl)} (hx : Fx X cX2_readWord 3 RX2 5 0 0) (hC : GC (xΓ X) B) (hr : Rt X (some .boolean) 0 0 (WΨ (xΓ X) B (some (.int (bI r.1))) r.2 sz)) : ∀ (n : Nat), ∀ (w : Wl) (l1 : Int32) {G : Gf} (hW : Wd (xΓ X) B w G) (h : sX2_readWord_5 n w l1 = some r), J X 3 G sz 0 0 5 [some (.ref (B.1 + 368)), some (.int l1), none] [] := by
  intro n
  induction n with
  | zero => intro w l1 G hW h; rw [sX2_readWord_5.eq_1] at h; cases h
  | succ n ih =>
    intro w l1 G hW h
    rw [sX2_readWord_5.eq_2] at h
    refine J_al4 hx rfl rfl dX2_readWord_5 ?_
    refine g2_2 hx hW (rfl : kd 368 = 17) fl_X2_42 dX2_readWord_6 ?_
    refine J_al4 hx rfl rfl dX2_readWord_9 ?_
    refine g2_1 hx hW (rfl : kd 368 = 17) fl_X2_32 dX2_readWord_10 ?_
    refine J_icmp_ge hx 57 dX2_readWord_13 rfl (fun h1 => ?_) (fun h1 => ?_)
    · replace h := pos h h1
      refine J_iconst hx (0 : Int32) dX2_readWord_57 rfl ?_
      refine J_is4 hx rfl (by decide) (hc_of rfl) rfl dX2_readWord_58 ?_
      exact tX2_readWord_59 hx hC hr _ _ _ _  hW h
    · replace h := neg h h1
      refine J_al4 hx rfl rfl dX2_readWord_16 ?_
      refine g2_0 hx hW 369 (rfl : kd 368 = 17) fl_X2_9 rfl dX2_readWord_17 ?_
      refine J_al4 hx rfl rfl dX2_readWord_20 ?_
      refine g2_2 hx hW (rfl : kd 368 = 17) fl_X2_42 dX2_readWord_21 ?_
      obtain ⟨c2, hc3, h⟩ := bnd h
      refine J_baW hx hW (rfl : kd 369 = 18) hc3 dX2_readWord_24 ?_
      refine J_bipush hx (97 : Int32) dX2_readWord_25 rfl ?_
      refine J_icmp_lt hx 57 dX2_readWord_27 rfl (fun h4 => ?_) (fun h4 => ?_)
      · replace h := pos h h4
        refine J_iconst hx (0 : Int32) dX2_readWord_57 rfl ?_
        refine J_is4 hx rfl (by decide) (hc_of rfl) rfl dX2_readWord_58 ?_
        exact tX2_readWord_59 hx hC hr _ _ _ _  hW h
      · replace h := neg h h4
        refine J_al4 hx rfl rfl dX2_readWord_30 ?_
        refine g2_0 hx hW 369 (rfl : kd 368 = 17) fl_X2_9 rfl dX2_readWord_31 ?_
        refine J_al4 hx rfl rfl dX2_readWord_34 ?_
        refine g2_2 hx hW (rfl : kd 368 = 17) fl_X2_42 dX2_readWord_35 ?_
        refine J_baW hx hW (rfl : kd 369 = 18) hc3 dX2_readWord_38 ?_
        refine J_bipush hx (122 : Int32) dX2_readWord_39 rfl ?_
        refine J_icmp_gt hx 57 dX2_readWord_41 rfl (fun h5 => ?_) (fun h5 => ?_)
        · replace h := pos h h5
          refine J_iconst hx (0 : Int32) dX2_readWord_57 rfl ?_
          refine J_is4 hx rfl (by decide) (hc_of rfl) rfl dX2_readWord_58 ?_
          exact tX2_readWord_59 hx hC hr _ _ _ _  hW h
        · replace h := neg h h5
          refine J_al4 hx rfl rfl dX2_readWord_44 ?_
          refine J_dup hx dX2_readWord_45 ?_
          refine g2_2 hx hW (rfl : kd 368 = 17) fl_X2_42 dX2_readWord_46 ?_
          refine J_iconst hx (1 : Int32) dX2_readWord_49 rfl ?_
          refine J_iadd hx dX2_readWord_50 ?_
          refine p2_2 hx hW (rfl : kd 368 = 17) fl_X2_42 dX2_readWord_51 fun G6 hW7 => ?_
          refine J_goto hx 5 dX2_readWord_54 rfl ?_
          exact ih _ _  hW7 h
def sX2_readWord (w : Wl) : Option (Bool × Wl) := sX2_readWord_5 FU w (w 368 2)
theorem kX2_readWord {l : Launch} {Γ : Gl} {B : Bs} {w : Wl} {G : Gf} {sz : Nat} {r : (Bool × Wl)} (hC : GC Γ B) (hW : Wd Γ B w G) (h : sX2_readWord w  = some r) : CtW l Γ yX2_readWord cX2_readWord 3 (some .boolean) 5 [.ref (B.1 + 368)] G sz B (some (.int (bI r.1))) r.2 := by
  refine Ct.of rfl (Nat.le_of_ble_eq_true rfl) fun X hx hr hl hΓ hnm => ?_
  subst hl hΓ
  show J X 3 G sz 0 0 0 [some (.ref (B.1 + 368)), none, none] []
  unfold sX2_readWord at h
  refine J_al4 hx rfl rfl dX2_readWord_0 ?_
  refine g2_2 hx hW (rfl : kd 368 = 17) fl_X2_42 dX2_readWord_1 ?_
  refine J_is4 hx rfl (by decide) (hc_of rfl) rfl dX2_readWord_4 ?_
  exact tX2_readWord_5 hx hC hr _ _ _  hW h
theorem dX2_isAtDigit_0 : decode cX2_isAtDigit 0 = .ok (.aload_n 0, 1) := by decide +kernel
theorem dX2_isAtDigit_1 : decode cX2_isAtDigit 1 = .ok (.getfield 42, 3) := by decide +kernel
theorem dX2_isAtDigit_4 : decode cX2_isAtDigit 4 = .ok (.aload_n 0, 1) := by decide +kernel
theorem dX2_isAtDigit_5 : decode cX2_isAtDigit 5 = .ok (.getfield 32, 3) := by decide +kernel
theorem dX2_isAtDigit_8 : decode cX2_isAtDigit 8 = .ok (.if_icmp .ge 35, 3) := by decide +kernel
theorem dX2_isAtDigit_11 : decode cX2_isAtDigit 11 = .ok (.aload_n 0, 1) := by decide +kernel
theorem dX2_isAtDigit_12 : decode cX2_isAtDigit 12 = .ok (.getfield 9, 3) := by decide +kernel
theorem dX2_isAtDigit_15 : decode cX2_isAtDigit 15 = .ok (.aload_n 0, 1) := by decide +kernel
theorem dX2_isAtDigit_16 : decode cX2_isAtDigit 16 = .ok (.getfield 42, 3) := by decide +kernel
theorem dX2_isAtDigit_19 : decode cX2_isAtDigit 19 = .ok (.baload, 1) := by decide +kernel
theorem dX2_isAtDigit_20 : decode cX2_isAtDigit 20 = .ok (.bipush 48, 2) := by decide +kernel
theorem dX2_isAtDigit_22 : decode cX2_isAtDigit 22 = .ok (.if_icmp .lt 21, 3) := by decide +kernel
theorem dX2_isAtDigit_25 : decode cX2_isAtDigit 25 = .ok (.aload_n 0, 1) := by decide +kernel
theorem dX2_isAtDigit_26 : decode cX2_isAtDigit 26 = .ok (.getfield 9, 3) := by decide +kernel
theorem dX2_isAtDigit_29 : decode cX2_isAtDigit 29 = .ok (.aload_n 0, 1) := by decide +kernel
theorem dX2_isAtDigit_30 : decode cX2_isAtDigit 30 = .ok (.getfield 42, 3) := by decide +kernel
theorem dX2_isAtDigit_33 : decode cX2_isAtDigit 33 = .ok (.baload, 1) := by decide +kernel
theorem dX2_isAtDigit_34 : decode cX2_isAtDigit 34 = .ok (.bipush 57, 2) := by decide +kernel
theorem dX2_isAtDigit_36 : decode cX2_isAtDigit 36 = .ok (.if_icmp .gt 7, 3) := by decide +kernel
theorem dX2_isAtDigit_39 : decode cX2_isAtDigit 39 = .ok (.iconst 1, 1) := by decide +kernel
theorem dX2_isAtDigit_40 : decode cX2_isAtDigit 40 = .ok (.goto 4, 3) := by decide +kernel
theorem dX2_isAtDigit_43 : decode cX2_isAtDigit 43 = .ok (.iconst 0, 1) := by decide +kernel
theorem dX2_isAtDigit_44 : decode cX2_isAtDigit 44 = .ok (.ireturn, 1) := by decide +kernel
def sX2_isAtDigit (w : Wl) : Option Bool := (if (w 368 1) ≤ (w 368 2) then some false else (idx (w 368 2) 150).bind (fun c2 => (if (w 369 c2) < (48 : Int32) then some false else (if (57 : Int32) < (w 369 c2) then some false else some true))))
theorem kX2_isAtDigit {l : Launch} {Γ : Gl} {B : Bs} {w : Wl} {G : Gf} {sz : Nat} {r : Bool} (hW : Wd Γ B w G) (h : sX2_isAtDigit w  = some r) : CtR l Γ yX2_isAtDigit cX2_isAtDigit 1 (some .boolean) 0 [.ref (B.1 + 368)] G sz (.int (bI r)) := by
  refine Ct.of rfl (Nat.le_of_ble_eq_true rfl) fun X hx hr hl hΓ hnm => ?_
  subst hl hΓ
  show J X 1 G sz 0 0 0 [some (.ref (B.1 + 368))] []
  unfold sX2_isAtDigit at h
  refine J_al4 hx rfl rfl dX2_isAtDigit_0 ?_
  refine g2_2 hx hW (rfl : kd 368 = 17) fl_X2_42 dX2_isAtDigit_1 ?_
  refine J_al4 hx rfl rfl dX2_isAtDigit_4 ?_
  refine g2_1 hx hW (rfl : kd 368 = 17) fl_X2_32 dX2_isAtDigit_5 ?_
  refine J_icmp_ge hx 43 dX2_isAtDigit_8 rfl (fun h1 => ?_) (fun h1 => ?_)
  · replace h := pos h h1
    refine J_iconst hx (0 : Int32) dX2_isAtDigit_43 rfl ?_
    exact J_zretR hx hr dX2_isAtDigit_44 (Nat.le_refl 0) (Nat.le_refl 0) (show (0 : Int32) = bI _ from congrArg bI (Option.some.inj h))
  · replace h := neg h h1
    refine J_al4 hx rfl rfl dX2_isAtDigit_11 ?_
    refine g2_0 hx hW 369 (rfl : kd 368 = 17) fl_X2_9 rfl dX2_isAtDigit_12 ?_
    refine J_al4 hx rfl rfl dX2_isAtDigit_15 ?_
    refine g2_2 hx hW (rfl : kd 368 = 17) fl_X2_42 dX2_isAtDigit_16 ?_
    obtain ⟨c2, hc3, h⟩ := bnd h
    refine J_baW hx hW (rfl : kd 369 = 18) hc3 dX2_isAtDigit_19 ?_
    refine J_bipush hx (48 : Int32) dX2_isAtDigit_20 rfl ?_
    refine J_icmp_lt hx 43 dX2_isAtDigit_22 rfl (fun h4 => ?_) (fun h4 => ?_)
    · replace h := pos h h4
      refine J_iconst hx (0 : Int32) dX2_isAtDigit_43 rfl ?_
      exact J_zretR hx hr dX2_isAtDigit_44 (Nat.le_refl 0) (Nat.le_refl 0) (show (0 : Int32) = bI _ from congrArg bI (Option.some.inj h))
    · replace h := neg h h4
      refine J_al4 hx rfl rfl dX2_isAtDigit_25 ?_
      refine g2_0 hx hW 369 (rfl : kd 368 = 17) fl_X2_9 rfl dX2_isAtDigit_26 ?_
      refine J_al4 hx rfl rfl dX2_isAtDigit_29 ?_
      refine g2_2 hx hW (rfl : kd 368 = 17) fl_X2_42 dX2_isAtDigit_30 ?_
      refine J_baW hx hW (rfl : kd 369 = 18) hc3 dX2_isAtDigit_33 ?_
      refine J_bipush hx (57 : Int32) dX2_isAtDigit_34 rfl ?_
      refine J_icmp_gt hx 43 dX2_isAtDigit_36 rfl (fun h5 => ?_) (fun h5 => ?_)
      · replace h := pos h h5
        refine J_iconst hx (0 : Int32) dX2_isAtDigit_43 rfl ?_
        exact J_zretR hx hr dX2_isAtDigit_44 (Nat.le_refl 0) (Nat.le_refl 0) (show (0 : Int32) = bI _ from congrArg bI (Option.some.inj h))
      · replace h := neg h h5
        refine J_iconst hx (1 : Int32) dX2_isAtDigit_39 rfl ?_
        refine J_goto hx 44 dX2_isAtDigit_40 rfl ?_
        exact J_zretR hx hr dX2_isAtDigit_44 (Nat.le_refl 0) (Nat.le_refl 0) (show (1 : Int32) = bI _ from congrArg bI (Option.some.inj h))
theorem dX2_readNumber_0 : decode cX2_readNumber 0 = .ok (.aload_n 0, 1) := by decide +kernel
theorem dX2_readNumber_1 : decode cX2_readNumber 1 = .ok (.getfield 42, 3) := by decide +kernel
theorem dX2_readNumber_4 : decode cX2_readNumber 4 = .ok (.aload_n 0, 1) := by decide +kernel
theorem dX2_readNumber_5 : decode cX2_readNumber 5 = .ok (.getfield 32, 3) := by decide +kernel
theorem dX2_readNumber_8 : decode cX2_readNumber 8 = .ok (.if_icmp .ge 17, 3) := by decide +kernel
theorem dX2_readNumber_11 : decode cX2_readNumber 11 = .ok (.aload_n 0, 1) := by decide +kernel
theorem dX2_readNumber_12 : decode cX2_readNumber 12 = .ok (.getfield 9, 3) := by decide +kernel
theorem dX2_readNumber_15 : decode cX2_readNumber 15 = .ok (.aload_n 0, 1) := by decide +kernel
theorem dX2_readNumber_16 : decode cX2_readNumber 16 = .ok (.getfield 42, 3) := by decide +kernel
theorem dX2_readNumber_19 : decode cX2_readNumber 19 = .ok (.baload, 1) := by decide +kernel
theorem dX2_readNumber_20 : decode cX2_readNumber 20 = .ok (.bipush 32, 2) := by decide +kernel
theorem dX2_readNumber_22 : decode cX2_readNumber 22 = .ok (.if_icmp .eq 12, 3) := by decide +kernel
theorem dX2_readNumber_25 : decode cX2_readNumber 25 = .ok (.aload_n 0, 1) := by decide +kernel
theorem dX2_readNumber_26 : decode cX2_readNumber 26 = .ok (.aload_n 0, 1) := by decide +kernel
theorem dX2_readNumber_27 : decode cX2_readNumber 27 = .ok (.getfield 42, 3) := by decide +kernel
theorem dX2_readNumber_30 : decode cX2_readNumber 30 = .ok (.invokevirtual 69, 3) := by decide +kernel
theorem dX2_readNumber_33 : decode cX2_readNumber 33 = .ok (.ireturn, 1) := by decide +kernel
theorem dX2_readNumber_34 : decode cX2_readNumber 34 = .ok (.aload_n 0, 1) := by decide +kernel
theorem dX2_readNumber_35 : decode cX2_readNumber 35 = .ok (.invokevirtual 45, 3) := by decide +kernel
theorem dX2_readNumber_38 : decode cX2_readNumber 38 = .ok (.aload_n 0, 1) := by decide +kernel
theorem dX2_readNumber_39 : decode cX2_readNumber 39 = .ok (.invokevirtual 88, 3) := by decide +kernel
theorem dX2_readNumber_42 : decode cX2_readNumber 42 = .ok (.ifCond .ne 12, 3) := by decide +kernel
theorem dX2_readNumber_45 : decode cX2_readNumber 45 = .ok (.aload_n 0, 1) := by decide +kernel
theorem dX2_readNumber_46 : decode cX2_readNumber 46 = .ok (.aload_n 0, 1) := by decide +kernel
theorem dX2_readNumber_47 : decode cX2_readNumber 47 = .ok (.getfield 42, 3) := by decide +kernel
theorem dX2_readNumber_50 : decode cX2_readNumber 50 = .ok (.invokevirtual 69, 3) := by decide +kernel
theorem dX2_readNumber_53 : decode cX2_readNumber 53 = .ok (.ireturn, 1) := by decide +kernel
theorem dX2_readNumber_54 : decode cX2_readNumber 54 = .ok (.iconst 0, 1) := by decide +kernel
theorem dX2_readNumber_55 : decode cX2_readNumber 55 = .ok (.istore_n 2, 1) := by decide +kernel
theorem dX2_readNumber_56 : decode cX2_readNumber 56 = .ok (.iload_n 2, 1) := by decide +kernel
theorem dX2_readNumber_57 : decode cX2_readNumber 57 = .ok (.iconst 4, 1) := by decide +kernel
theorem dX2_readNumber_58 : decode cX2_readNumber 58 = .ok (.if_icmp .ge 54, 3) := by decide +kernel
theorem dX2_readNumber_61 : decode cX2_readNumber 61 = .ok (.aload_n 0, 1) := by decide +kernel
theorem dX2_readNumber_62 : decode cX2_readNumber 62 = .ok (.invokevirtual 88, 3) := by decide +kernel
theorem dX2_readNumber_65 : decode cX2_readNumber 65 = .ok (.ifCond .eq 47, 3) := by decide +kernel
theorem dX2_readNumber_68 : decode cX2_readNumber 68 = .ok (.aload_n 0, 1) := by decide +kernel
theorem dX2_readNumber_69 : decode cX2_readNumber 69 = .ok (.getfield 28, 3) := by decide +kernel
theorem dX2_readNumber_72 : decode cX2_readNumber 72 = .ok (.iload_n 1, 1) := by decide +kernel
theorem dX2_readNumber_73 : decode cX2_readNumber 73 = .ok (.bipush 10, 2) := by decide +kernel
theorem dX2_readNumber_75 : decode cX2_readNumber 75 = .ok (.aload_n 0, 1) := by decide +kernel
theorem dX2_readNumber_76 : decode cX2_readNumber 76 = .ok (.getfield 28, 3) := by decide +kernel
theorem dX2_readNumber_79 : decode cX2_readNumber 79 = .ok (.iload_n 1, 1) := by decide +kernel
theorem dX2_readNumber_80 : decode cX2_readNumber 80 = .ok (.iaload, 1) := by decide +kernel
theorem dX2_readNumber_81 : decode cX2_readNumber 81 = .ok (.imul, 1) := by decide +kernel
theorem dX2_readNumber_82 : decode cX2_readNumber 82 = .ok (.aload_n 0, 1) := by decide +kernel
theorem dX2_readNumber_83 : decode cX2_readNumber 83 = .ok (.getfield 9, 3) := by decide +kernel
theorem dX2_readNumber_86 : decode cX2_readNumber 86 = .ok (.aload_n 0, 1) := by decide +kernel
theorem dX2_readNumber_87 : decode cX2_readNumber 87 = .ok (.getfield 42, 3) := by decide +kernel
theorem dX2_readNumber_90 : decode cX2_readNumber 90 = .ok (.baload, 1) := by decide +kernel
theorem dX2_readNumber_91 : decode cX2_readNumber 91 = .ok (.iadd, 1) := by decide +kernel
theorem dX2_readNumber_92 : decode cX2_readNumber 92 = .ok (.bipush 48, 2) := by decide +kernel
theorem dX2_readNumber_94 : decode cX2_readNumber 94 = .ok (.isub, 1) := by decide +kernel
theorem dX2_readNumber_95 : decode cX2_readNumber 95 = .ok (.iastore, 1) := by decide +kernel
theorem dX2_readNumber_96 : decode cX2_readNumber 96 = .ok (.aload_n 0, 1) := by decide +kernel
theorem dX2_readNumber_97 : decode cX2_readNumber 97 = .ok (.dup, 1) := by decide +kernel
theorem dX2_readNumber_98 : decode cX2_readNumber 98 = .ok (.getfield 42, 3) := by decide +kernel
theorem dX2_readNumber_101 : decode cX2_readNumber 101 = .ok (.iconst 1, 1) := by decide +kernel
theorem dX2_readNumber_102 : decode cX2_readNumber 102 = .ok (.iadd, 1) := by decide +kernel
theorem dX2_readNumber_103 : decode cX2_readNumber 103 = .ok (.putfield 42, 3) := by decide +kernel
theorem dX2_readNumber_106 : decode cX2_readNumber 106 = .ok (.iinc 2 1, 3) := by decide +kernel
theorem dX2_readNumber_109 : decode cX2_readNumber 109 = .ok (.goto (-53), 3) := by decide +kernel
theorem dX2_readNumber_112 : decode cX2_readNumber 112 = .ok (.iconst 1, 1) := by decide +kernel
theorem dX2_readNumber_113 : decode cX2_readNumber 113 = .ok (.ireturn, 1) := by decide +kernel
def sX2_readNumber_56 : Nat → Wl → Int32 → Int32 → Option (Bool × Wl)
  | 0, _, _, _ => none
  | n + 1, w, l1, l2 => (if (4 : Int32) ≤ l2 then some (true, w) else (sX2_isAtDigit w ).bind (fun r2 => (if r2 = true then (idx l1 3).bind (fun c5 => (idx (w 368 2) 150).bind (fun c7 => sX2_readNumber_56 n (wst (wst w 370 c5 ((((10 : Int32) * (w 370 c5)) + (w 369 c7)) - (48 : Int32))) 368 2 (((wst w 370 c5 ((((10 : Int32) * (w 370 c5)) + (w 369 c7)) - (48 : Int32))) 368 2) + (1 : Int32))) l1 (l2 + 1))) else some (true, w))))
theorem tX2_readNumber_56 {X : Cx} {B : Bs} {sz : Nat} {r : (Bool × Wl)} (hx : Fx X cX2_readNumber 3 RX2 1 0 0) (hr : Rt X (some .boolean) 0 0 (WΨ (xΓ X) B (some (.int (bI r.1))) r.2 sz)) : ∀ (n : Nat), ∀ (w : Wl) (l1 : Int32) (l2 : Int32) {G : Gf} (hW : Wd (xΓ X) B w G) (h : sX2_readNumber_56 n w l1 l2 = some r), J X 3 G sz 0 0 56 [some (.ref (B.1 + 368)), some (.int l1), some (.int l2)] [] := by
  intro n
  induction n with
  | zero => intro w l1 l2 G hW h; rw [sX2_readNumber_56.eq_1] at h; cases h
  | succ n ih =>
    intro w l1 l2 G hW h
    rw [sX2_readNumber_56.eq_2] at h
    refine J_il4 hx rfl rfl dX2_readNumber_56 ?_
    refine J_iconst hx (4 : Int32) dX2_readNumber_57 rfl ?_
    refine J_icmp_ge hx 112 dX2_readNumber_58 rfl (fun h1 => ?_) (fun h1 => ?_)
    · replace h := pos h h1
      refine J_iconst hx (1 : Int32) dX2_readNumber_112 rfl ?_
      obtain rfl := Option.some.inj h
      exact J_zretW (b := true) hx hr hW dX2_readNumber_113 (Nat.le_refl 0) (Nat.le_refl 0)
    · replace h := neg h h1
      refine J_al4 hx rfl rfl dX2_readNumber_61 ?_
      obtain ⟨r2, hr3, h⟩ := bnd h
      refine J_rdV hx (kX2_isAtDigit  hW hr3) ml_X2_88 lk_X2_isAtDigit (ci := 1) rfl (hW.obj (rfl : kd 368 = 17) (by decide) (by decide)) (rest := []) rfl rfl (by decide) (by decide) (Nat.le_of_ble_eq_true rfl) (Nat.le_refl 0) (Nat.le_refl 0) dX2_readNumber_62 ?_
      refine J_bif_eq hx 112 dX2_readNumber_65 rfl (fun h4 => ?_) (fun h4 => ?_)
      · replace h := neg h (bft h4)
        refine J_iconst hx (1 : Int32) dX2_readNumber_112 rfl ?_
        obtain rfl := Option.some.inj h
        exact J_zretW (b := true) hx hr hW dX2_readNumber_113 (Nat.le_refl 0) (Nat.le_refl 0)
      · replace h := pos h h4
        refine J_al4 hx rfl rfl dX2_readNumber_68 ?_
        refine g2_5 hx hW 370 (rfl : kd 368 = 17) fl_X2_28 rfl dX2_readNumber_69 ?_
        refine J_il4 hx rfl rfl dX2_readNumber_72 ?_
        refine J_bipush hx (10 : Int32) dX2_readNumber_73 rfl ?_
        refine J_al4 hx rfl rfl dX2_readNumber_75 ?_
        refine g2_5 hx hW 370 (rfl : kd 368 = 17) fl_X2_28 rfl dX2_readNumber_76 ?_
        refine J_il4 hx rfl rfl dX2_readNumber_79 ?_
        obtain ⟨c5, hc6, h⟩ := bnd h
        refine J_iaW hx hW (rfl : kd 370 = 103) hc6 dX2_readNumber_80 ?_
        refine J_imul hx dX2_readNumber_81 ?_
        refine J_al4 hx rfl rfl dX2_readNumber_82 ?_
        refine g2_0 hx hW 369 (rfl : kd 368 = 17) fl_X2_9 rfl dX2_readNumber_83 ?_
        refine J_al4 hx rfl rfl dX2_readNumber_86 ?_
        refine g2_2 hx hW (rfl : kd 368 = 17) fl_X2_42 dX2_readNumber_87 ?_
        obtain ⟨c7, hc8, h⟩ := bnd h
        refine J_baW hx hW (rfl : kd 369 = 18) hc8 dX2_readNumber_90 ?_
        refine J_iadd hx dX2_readNumber_91 ?_
        refine J_bipush hx (48 : Int32) dX2_readNumber_92 rfl ?_
        refine J_isub hx dX2_readNumber_94 ?_
        refine J_iaS hx hW (rfl : kd 370 = 103) hc6 dX2_readNumber_95 fun G9 hW10 => ?_
        refine J_al4 hx rfl rfl dX2_readNumber_96 ?_
        refine J_dup hx dX2_readNumber_97 ?_
        refine g2_2 hx hW10 (rfl : kd 368 = 17) fl_X2_42 dX2_readNumber_98 ?_
        refine J_iconst hx (1 : Int32) dX2_readNumber_101 rfl ?_
        refine J_iadd hx dX2_readNumber_102 ?_
        refine p2_2 hx hW10 (rfl : kd 368 = 17) fl_X2_42 dX2_readNumber_103 fun G11 hW12 => ?_
        refine J_iinc hx (v' := (l2 + 1)) rfl rfl (by decide) (hc_of rfl) rfl dX2_readNumber_106 ?_
        refine J_goto hx 56 dX2_readNumber_109 rfl ?_
        exact ih _ _ _  hW12 h
def sX2_readNumber (w : Wl) (l1 : Int32) : Option (Bool × Wl) := (if (w 368 1) ≤ (w 368 2) then (sX2_failAt w (w 368 2)).bind (fun r2 => some (r2.1, r2.2)) else (idx (w 368 2) 150).bind (fun c6 => (if (w 369 c6) = (32 : Int32) then (sX2_skipSpaces w ).bind (fun r9 => (sX2_isAtDigit r9 ).bind (fun r13 => (if r13 = true then sX2_readNumber_56 FU r9 l1 (0 : Int32) else (sX2_failAt r9 (r9 368 2)).bind (fun r16 => some (r16.1, r16.2))))) else (sX2_failAt w (w 368 2)).bind (fun r20 => some (r20.1, r20.2)))))
theorem kX2_readNumber {l : Launch} {Γ : Gl} {B : Bs} {w : Wl} {G : Gf} {sz : Nat} {l1 : Int32} {r : (Bool × Wl)} (hW : Wd Γ B w G) (h : sX2_readNumber w l1 = some r) : CtW l Γ yX2_readNumber cX2_readNumber 3 (some .boolean) 1 [.ref (B.1 + 368), .int l1] G sz B (some (.int (bI r.1))) r.2 := by
  refine Ct.of rfl (Nat.le_of_ble_eq_true rfl) fun X hx hr hl hΓ hnm => ?_
  subst hl hΓ
  show J X 3 G sz 0 0 0 [some (.ref (B.1 + 368)), some (.int l1), none] []
  unfold sX2_readNumber at h
  refine J_al4 hx rfl rfl dX2_readNumber_0 ?_
  refine g2_2 hx hW (rfl : kd 368 = 17) fl_X2_42 dX2_readNumber_1 ?_
  refine J_al4 hx rfl rfl dX2_readNumber_4 ?_
  refine g2_1 hx hW (rfl : kd 368 = 17) fl_X2_32 dX2_readNumber_5 ?_
  refine J_icmp_ge hx 25 dX2_readNumber_8 rfl (fun h1 => ?_) (fun h1 => ?_)
  · replace h := pos h h1
    refine J_al4 hx rfl rfl dX2_readNumber_25 ?_
    refine J_al4 hx rfl rfl dX2_readNumber_26 ?_
    refine g2_2 hx hW (rfl : kd 368 = 17) fl_X2_42 dX2_readNumber_27 ?_
    obtain ⟨r2, hr3, h⟩ := bnd h
    refine J_wrV hx (kX2_failAt  hW hr3) ml_X2_69 lk_X2_failAt (ci := 1) rfl (hW.obj (rfl : kd 368 = 17) (by decide) (by decide)) (rest := []) rfl rfl (by decide) (by decide) (Nat.le_of_ble_eq_true rfl) (Nat.le_refl 0) (Nat.le_refl 0) dX2_readNumber_30 fun G4 hW5 => ?_
    show J X 3 G4 sz 0 0 33 [some (.ref (B.1 + 368)), some (.int l1), none] [.int (bI r2.1)]
    obtain rfl := Option.some.inj h
    exact J_zretW (b := r2.1) hx hr hW5 dX2_readNumber_33 (Nat.le_refl 0) (Nat.le_refl 0)
  · replace h := neg h h1
    refine J_al4 hx rfl rfl dX2_readNumber_11 ?_
    refine g2_0 hx hW 369 (rfl : kd 368 = 17) fl_X2_9 rfl dX2_readNumber_12 ?_
    refine J_al4 hx rfl rfl dX2_readNumber_15 ?_
    refine g2_2 hx hW (rfl : kd 368 = 17) fl_X2_42 dX2_readNumber_16 ?_
    obtain ⟨c6, hc7, h⟩ := bnd h
    refine J_baW hx hW (rfl : kd 369 = 18) hc7 dX2_readNumber_19 ?_
    refine J_bipush hx (32 : Int32) dX2_readNumber_20 rfl ?_
    refine J_icmp_eq hx 34 dX2_readNumber_22 rfl (fun h8 => ?_) (fun h8 => ?_)
    · replace h := pos h h8
      refine J_al4 hx rfl rfl dX2_readNumber_34 ?_
      obtain ⟨r9, hr10, h⟩ := bnd h
      refine J_wrV hx (kX2_skipSpaces  hW hr10) ml_X2_45 lk_X2_skipSpaces (ci := 1) rfl (hW.obj (rfl : kd 368 = 17) (by decide) (by decide)) (rest := []) rfl rfl (by decide) (by decide) (Nat.le_of_ble_eq_true rfl) (Nat.le_refl 0) (Nat.le_refl 0) dX2_readNumber_35 fun G11 hW12 => ?_
      show J X 3 G11 sz 0 0 38 [some (.ref (B.1 + 368)), some (.int l1), none] []
      refine J_al4 hx rfl rfl dX2_readNumber_38 ?_
      obtain ⟨r13, hr14, h⟩ := bnd h
      refine J_rdV hx (kX2_isAtDigit  hW12 hr14) ml_X2_88 lk_X2_isAtDigit (ci := 1) rfl (hW12.obj (rfl : kd 368 = 17) (by decide) (by decide)) (rest := []) rfl rfl (by decide) (by decide) (Nat.le_of_ble_eq_true rfl) (Nat.le_refl 0) (Nat.le_refl 0) dX2_readNumber_39 ?_
      refine J_bif_ne hx 54 dX2_readNumber_42 rfl (fun h15 => ?_) (fun h15 => ?_)
      · replace h := pos h h15
        refine J_iconst hx (0 : Int32) dX2_readNumber_54 rfl ?_
        refine J_is4 hx rfl (by decide) (hc_of rfl) rfl dX2_readNumber_55 ?_
        exact tX2_readNumber_56 hx hr _ _ _ _  hW12 h
      · replace h := neg h (bft h15)
        refine J_al4 hx rfl rfl dX2_readNumber_45 ?_
        refine J_al4 hx rfl rfl dX2_readNumber_46 ?_
        refine g2_2 hx hW12 (rfl : kd 368 = 17) fl_X2_42 dX2_readNumber_47 ?_
        obtain ⟨r16, hr17, h⟩ := bnd h
        refine J_wrV hx (kX2_failAt  hW12 hr17) ml_X2_69 lk_X2_failAt (ci := 1) rfl (hW12.obj (rfl : kd 368 = 17) (by decide) (by decide)) (rest := []) rfl rfl (by decide) (by decide) (Nat.le_of_ble_eq_true rfl) (Nat.le_refl 0) (Nat.le_refl 0) dX2_readNumber_50 fun G18 hW19 => ?_
        show J X 3 G18 sz 0 0 53 [some (.ref (B.1 + 368)), some (.int l1), none] [.int (bI r16.1)]
        obtain rfl := Option.some.inj h
        exact J_zretW (b := r16.1) hx hr hW19 dX2_readNumber_53 (Nat.le_refl 0) (Nat.le_refl 0)
    · replace h := neg h h8
      refine J_al4 hx rfl rfl dX2_readNumber_25 ?_
      refine J_al4 hx rfl rfl dX2_readNumber_26 ?_
      refine g2_2 hx hW (rfl : kd 368 = 17) fl_X2_42 dX2_readNumber_27 ?_
      obtain ⟨r20, hr21, h⟩ := bnd h
      refine J_wrV hx (kX2_failAt  hW hr21) ml_X2_69 lk_X2_failAt (ci := 1) rfl (hW.obj (rfl : kd 368 = 17) (by decide) (by decide)) (rest := []) rfl rfl (by decide) (by decide) (Nat.le_of_ble_eq_true rfl) (Nat.le_refl 0) (Nat.le_refl 0) dX2_readNumber_30 fun G22 hW23 => ?_
      show J X 3 G22 sz 0 0 33 [some (.ref (B.1 + 368)), some (.int l1), none] [.int (bI r20.1)]
      obtain rfl := Option.some.inj h
      exact J_zretW (b := r20.1) hx hr hW23 dX2_readNumber_33 (Nat.le_refl 0) (Nat.le_refl 0)
theorem dX2_readNumbers_0 : decode cX2_readNumbers 0 = .ok (.iconst 0, 1) := by decide +kernel
theorem dX2_readNumbers_1 : decode cX2_readNumbers 1 = .ok (.istore_n 1, 1) := by decide +kernel
theorem dX2_readNumbers_2 : decode cX2_readNumbers 2 = .ok (.iload_n 1, 1) := by decide +kernel
theorem dX2_readNumbers_3 : decode cX2_readNumbers 3 = .ok (.iconst 3, 1) := by decide +kernel
theorem dX2_readNumbers_4 : decode cX2_readNumbers 4 = .ok (.if_icmp .ge 16, 3) := by decide +kernel
theorem dX2_readNumbers_7 : decode cX2_readNumbers 7 = .ok (.aload_n 0, 1) := by decide +kernel
theorem dX2_readNumbers_8 : decode cX2_readNumbers 8 = .ok (.getfield 28, 3) := by decide +kernel
theorem dX2_readNumbers_11 : decode cX2_readNumbers 11 = .ok (.iload_n 1, 1) := by decide +kernel
theorem dX2_readNumbers_12 : decode cX2_readNumbers 12 = .ok (.iconst 0, 1) := by decide +kernel
theorem dX2_readNumbers_13 : decode cX2_readNumbers 13 = .ok (.iastore, 1) := by decide +kernel
theorem dX2_readNumbers_14 : decode cX2_readNumbers 14 = .ok (.iinc 1 1, 3) := by decide +kernel
theorem dX2_readNumbers_17 : decode cX2_readNumbers 17 = .ok (.goto (-15), 3) := by decide +kernel
theorem dX2_readNumbers_20 : decode cX2_readNumbers 20 = .ok (.iconst 0, 1) := by decide +kernel
theorem dX2_readNumbers_21 : decode cX2_readNumbers 21 = .ok (.istore_n 1, 1) := by decide +kernel
theorem dX2_readNumbers_22 : decode cX2_readNumbers 22 = .ok (.iload_n 1, 1) := by decide +kernel
theorem dX2_readNumbers_23 : decode cX2_readNumbers 23 = .ok (.iconst 3, 1) := by decide +kernel
theorem dX2_readNumbers_24 : decode cX2_readNumbers 24 = .ok (.if_icmp .ge 30, 3) := by decide +kernel
theorem dX2_readNumbers_27 : decode cX2_readNumbers 27 = .ok (.iload_n 1, 1) := by decide +kernel
theorem dX2_readNumbers_28 : decode cX2_readNumbers 28 = .ok (.aload_n 0, 1) := by decide +kernel
theorem dX2_readNumbers_29 : decode cX2_readNumbers 29 = .ok (.getfield 25, 3) := by decide +kernel
theorem dX2_readNumbers_32 : decode cX2_readNumbers 32 = .ok (.getfield 82, 3) := by decide +kernel
theorem dX2_readNumbers_35 : decode cX2_readNumbers 35 = .ok (.if_icmp .ge 19, 3) := by decide +kernel
theorem dX2_readNumbers_38 : decode cX2_readNumbers 38 = .ok (.aload_n 0, 1) := by decide +kernel
theorem dX2_readNumbers_39 : decode cX2_readNumbers 39 = .ok (.iload_n 1, 1) := by decide +kernel
theorem dX2_readNumbers_40 : decode cX2_readNumbers 40 = .ok (.invokevirtual 85, 3) := by decide +kernel
theorem dX2_readNumbers_43 : decode cX2_readNumbers 43 = .ok (.ifCond .ne 5, 3) := by decide +kernel
theorem dX2_readNumbers_46 : decode cX2_readNumbers 46 = .ok (.iconst 0, 1) := by decide +kernel
theorem dX2_readNumbers_47 : decode cX2_readNumbers 47 = .ok (.ireturn, 1) := by decide +kernel
theorem dX2_readNumbers_48 : decode cX2_readNumbers 48 = .ok (.iinc 1 1, 3) := by decide +kernel
theorem dX2_readNumbers_51 : decode cX2_readNumbers 51 = .ok (.goto (-29), 3) := by decide +kernel
theorem dX2_readNumbers_54 : decode cX2_readNumbers 54 = .ok (.iconst 1, 1) := by decide +kernel
theorem dX2_readNumbers_55 : decode cX2_readNumbers 55 = .ok (.ireturn, 1) := by decide +kernel
def sX2_readNumbers_22 : Nat → Wl → Int32 → Option (Bool × Wl)
  | 0, _, _ => none
  | n + 1, w, l1 => (if (3 : Int32) ≤ l1 then some (true, w) else (idx (w 368 4) 9).bind (fun c2 => (if (wnc c2) ≤ l1 then some (true, w) else (sX2_readNumber w l1).bind (fun r5 => (if r5.1 = true then sX2_readNumbers_22 n r5.2 (l1 + 1) else some (false, r5.2))))))
theorem tX2_readNumbers_22 {X : Cx} {B : Bs} {sz : Nat} {r : (Bool × Wl)} (hx : Fx X cX2_readNumbers 2 RX2 2 0 0) (hC : GC (xΓ X) B) (hr : Rt X (some .boolean) 0 0 (WΨ (xΓ X) B (some (.int (bI r.1))) r.2 sz)) : ∀ (n : Nat), ∀ (w : Wl) (l1 : Int32) {G : Gf} (hW : Wd (xΓ X) B w G) (h : sX2_readNumbers_22 n w l1 = some r), J X 2 G sz 0 0 22 [some (.ref (B.1 + 368)), some (.int l1)] [] := by
  intro n
  induction n with
  | zero => intro w l1 G hW h; rw [sX2_readNumbers_22.eq_1] at h; cases h
  | succ n ih =>
    intro w l1 G hW h
    rw [sX2_readNumbers_22.eq_2] at h
    refine J_il4 hx rfl rfl dX2_readNumbers_22 ?_
    refine J_iconst hx (3 : Int32) dX2_readNumbers_23 rfl ?_
    refine J_icmp_ge hx 54 dX2_readNumbers_24 rfl (fun h1 => ?_) (fun h1 => ?_)
    · replace h := pos h h1
      refine J_iconst hx (1 : Int32) dX2_readNumbers_54 rfl ?_
      obtain rfl := Option.some.inj h
      exact J_zretW (b := true) hx hr hW dX2_readNumbers_55 (Nat.le_refl 0) (Nat.le_refl 0)
    · replace h := neg h h1
      refine J_il4 hx rfl rfl dX2_readNumbers_27 ?_
      refine J_al4 hx rfl rfl dX2_readNumbers_28 ?_
      obtain ⟨c2, hc3, h⟩ := bnd h
      refine gW2_4 hx hW (rfl : kd 368 = 17) fl_X2_25 hc3 dX2_readNumbers_29 ?_
      refine J_of hx ((hx.kc hC).wd _ (idx_lt hc3)).2.2.1 fl_X2_82 dX2_readNumbers_32 ?_
      refine J_icmp_ge hx 54 dX2_readNumbers_35 rfl (fun h4 => ?_) (fun h4 => ?_)
      · replace h := pos h h4
        refine J_iconst hx (1 : Int32) dX2_readNumbers_54 rfl ?_
        obtain rfl := Option.some.inj h
        exact J_zretW (b := true) hx hr hW dX2_readNumbers_55 (Nat.le_refl 0) (Nat.le_refl 0)
      · replace h := neg h h4
        refine J_al4 hx rfl rfl dX2_readNumbers_38 ?_
        refine J_il4 hx rfl rfl dX2_readNumbers_39 ?_
        obtain ⟨r5, hr6, h⟩ := bnd h
        refine J_wrV hx (kX2_readNumber  hW hr6) ml_X2_85 lk_X2_readNumber (ci := 1) rfl (hW.obj (rfl : kd 368 = 17) (by decide) (by decide)) (rest := []) rfl rfl (by decide) (by decide) (Nat.le_of_ble_eq_true rfl) (Nat.le_refl 0) (Nat.le_refl 0) dX2_readNumbers_40 fun G7 hW8 => ?_
        show J X 2 G7 sz 0 0 43 [some (.ref (B.1 + 368)), some (.int l1)] [.int (bI r5.1)]
        refine J_bif_ne hx 48 dX2_readNumbers_43 rfl (fun h9 => ?_) (fun h9 => ?_)
        · replace h := pos h h9
          refine J_iinc hx (v' := (l1 + 1)) rfl rfl (by decide) (hc_of rfl) rfl dX2_readNumbers_48 ?_
          refine J_goto hx 22 dX2_readNumbers_51 rfl ?_
          exact ih _ _  hW8 h
        · replace h := neg h (bft h9)
          refine J_iconst hx (0 : Int32) dX2_readNumbers_46 rfl ?_
          obtain rfl := Option.some.inj h
          exact J_zretW (b := false) hx hr hW8 dX2_readNumbers_47 (Nat.le_refl 0) (Nat.le_refl 0)
def sX2_readNumbers_2 : Nat → Wl → Int32 → Option (Bool × Wl)
  | 0, _, _ => none
  | n + 1, w, l1 => (if (3 : Int32) ≤ l1 then sX2_readNumbers_22 FU w (0 : Int32) else (idx l1 3).bind (fun c2 => sX2_readNumbers_2 n (wst w 370 c2 (0 : Int32)) (l1 + 1)))
theorem tX2_readNumbers_2 {X : Cx} {B : Bs} {sz : Nat} {r : (Bool × Wl)} (hx : Fx X cX2_readNumbers 2 RX2 2 0 0) (hC : GC (xΓ X) B) (hr : Rt X (some .boolean) 0 0 (WΨ (xΓ X) B (some (.int (bI r.1))) r.2 sz)) : ∀ (n : Nat), ∀ (w : Wl) (l1 : Int32) {G : Gf} (hW : Wd (xΓ X) B w G) (h : sX2_readNumbers_2 n w l1 = some r), J X 2 G sz 0 0 2 [some (.ref (B.1 + 368)), some (.int l1)] [] := by
  intro n
  induction n with
  | zero => intro w l1 G hW h; rw [sX2_readNumbers_2.eq_1] at h; cases h
  | succ n ih =>
    intro w l1 G hW h
    rw [sX2_readNumbers_2.eq_2] at h
    refine J_il4 hx rfl rfl dX2_readNumbers_2 ?_
    refine J_iconst hx (3 : Int32) dX2_readNumbers_3 rfl ?_
    refine J_icmp_ge hx 20 dX2_readNumbers_4 rfl (fun h1 => ?_) (fun h1 => ?_)
    · replace h := pos h h1
      refine J_iconst hx (0 : Int32) dX2_readNumbers_20 rfl ?_
      refine J_is4 hx rfl (by decide) (hc_of rfl) rfl dX2_readNumbers_21 ?_
      exact tX2_readNumbers_22 hx hC hr _ _ _  hW h
    · replace h := neg h h1
      refine J_al4 hx rfl rfl dX2_readNumbers_7 ?_
      refine g2_5 hx hW 370 (rfl : kd 368 = 17) fl_X2_28 rfl dX2_readNumbers_8 ?_
      refine J_il4 hx rfl rfl dX2_readNumbers_11 ?_
      refine J_iconst hx (0 : Int32) dX2_readNumbers_12 rfl ?_
      obtain ⟨c2, hc3, h⟩ := bnd h
      refine J_iaS hx hW (rfl : kd 370 = 103) hc3 dX2_readNumbers_13 fun G4 hW5 => ?_
      refine J_iinc hx (v' := (l1 + 1)) rfl rfl (by decide) (hc_of rfl) rfl dX2_readNumbers_14 ?_
      refine J_goto hx 2 dX2_readNumbers_17 rfl ?_
      exact ih _ _  hW5 h
def sX2_readNumbers (w : Wl) : Option (Bool × Wl) := sX2_readNumbers_2 FU w (0 : Int32)
theorem kX2_readNumbers {l : Launch} {Γ : Gl} {B : Bs} {w : Wl} {G : Gf} {sz : Nat} {r : (Bool × Wl)} (hC : GC Γ B) (hW : Wd Γ B w G) (h : sX2_readNumbers w  = some r) : CtW l Γ yX2_readNumbers cX2_readNumbers 2 (some .boolean) 2 [.ref (B.1 + 368)] G sz B (some (.int (bI r.1))) r.2 := by
  refine Ct.of rfl (Nat.le_of_ble_eq_true rfl) fun X hx hr hl hΓ hnm => ?_
  subst hl hΓ
  show J X 2 G sz 0 0 0 [some (.ref (B.1 + 368)), none] []
  unfold sX2_readNumbers at h
  refine J_iconst hx (0 : Int32) dX2_readNumbers_0 rfl ?_
  refine J_is4 hx rfl (by decide) (hc_of rfl) rfl dX2_readNumbers_1 ?_
  exact tX2_readNumbers_2 hx hC hr _ _ _  hW h
theorem dX2_readSemicolon_0 : decode cX2_readSemicolon 0 = .ok (.aload_n 0, 1) := by decide +kernel
theorem dX2_readSemicolon_1 : decode cX2_readSemicolon 1 = .ok (.invokevirtual 45, 3) := by decide +kernel
theorem dX2_readSemicolon_4 : decode cX2_readSemicolon 4 = .ok (.aload_n 0, 1) := by decide +kernel
theorem dX2_readSemicolon_5 : decode cX2_readSemicolon 5 = .ok (.getfield 42, 3) := by decide +kernel
theorem dX2_readSemicolon_8 : decode cX2_readSemicolon 8 = .ok (.aload_n 0, 1) := by decide +kernel
theorem dX2_readSemicolon_9 : decode cX2_readSemicolon 9 = .ok (.getfield 32, 3) := by decide +kernel
theorem dX2_readSemicolon_12 : decode cX2_readSemicolon 12 = .ok (.if_icmp .ge 17, 3) := by decide +kernel
theorem dX2_readSemicolon_15 : decode cX2_readSemicolon 15 = .ok (.aload_n 0, 1) := by decide +kernel
theorem dX2_readSemicolon_16 : decode cX2_readSemicolon 16 = .ok (.getfield 9, 3) := by decide +kernel
theorem dX2_readSemicolon_19 : decode cX2_readSemicolon 19 = .ok (.aload_n 0, 1) := by decide +kernel
theorem dX2_readSemicolon_20 : decode cX2_readSemicolon 20 = .ok (.getfield 42, 3) := by decide +kernel
theorem dX2_readSemicolon_23 : decode cX2_readSemicolon 23 = .ok (.baload, 1) := by decide +kernel
theorem dX2_readSemicolon_24 : decode cX2_readSemicolon 24 = .ok (.bipush 59, 2) := by decide +kernel
theorem dX2_readSemicolon_26 : decode cX2_readSemicolon 26 = .ok (.if_icmp .eq 12, 3) := by decide +kernel
theorem dX2_readSemicolon_29 : decode cX2_readSemicolon 29 = .ok (.aload_n 0, 1) := by decide +kernel
theorem dX2_readSemicolon_30 : decode cX2_readSemicolon 30 = .ok (.aload_n 0, 1) := by decide +kernel
theorem dX2_readSemicolon_31 : decode cX2_readSemicolon 31 = .ok (.getfield 42, 3) := by decide +kernel
theorem dX2_readSemicolon_34 : decode cX2_readSemicolon 34 = .ok (.invokevirtual 69, 3) := by decide +kernel
theorem dX2_readSemicolon_37 : decode cX2_readSemicolon 37 = .ok (.ireturn, 1) := by decide +kernel
theorem dX2_readSemicolon_38 : decode cX2_readSemicolon 38 = .ok (.aload_n 0, 1) := by decide +kernel
theorem dX2_readSemicolon_39 : decode cX2_readSemicolon 39 = .ok (.dup, 1) := by decide +kernel
theorem dX2_readSemicolon_40 : decode cX2_readSemicolon 40 = .ok (.getfield 42, 3) := by decide +kernel
theorem dX2_readSemicolon_43 : decode cX2_readSemicolon 43 = .ok (.iconst 1, 1) := by decide +kernel
theorem dX2_readSemicolon_44 : decode cX2_readSemicolon 44 = .ok (.iadd, 1) := by decide +kernel
theorem dX2_readSemicolon_45 : decode cX2_readSemicolon 45 = .ok (.putfield 42, 3) := by decide +kernel
theorem dX2_readSemicolon_48 : decode cX2_readSemicolon 48 = .ok (.iconst 1, 1) := by decide +kernel
theorem dX2_readSemicolon_49 : decode cX2_readSemicolon 49 = .ok (.ireturn, 1) := by decide +kernel
def sX2_readSemicolon (w : Wl) : Option (Bool × Wl) := (sX2_skipSpaces w ).bind (fun r1 => (if (r1 368 1) ≤ (r1 368 2) then (sX2_failAt r1 (r1 368 2)).bind (fun r6 => some (r6.1, r6.2)) else (idx (r1 368 2) 150).bind (fun c10 => (if (r1 369 c10) = (59 : Int32) then some (true, (wst r1 368 2 ((r1 368 2) + (1 : Int32)))) else (sX2_failAt r1 (r1 368 2)).bind (fun r15 => some (r15.1, r15.2))))))
theorem kX2_readSemicolon {l : Launch} {Γ : Gl} {B : Bs} {w : Wl} {G : Gf} {sz : Nat} {r : (Bool × Wl)} (hW : Wd Γ B w G) (h : sX2_readSemicolon w  = some r) : CtW l Γ yX2_readSemicolon cX2_readSemicolon 1 (some .boolean) 1 [.ref (B.1 + 368)] G sz B (some (.int (bI r.1))) r.2 := by
  refine Ct.of rfl (Nat.le_of_ble_eq_true rfl) fun X hx hr hl hΓ hnm => ?_
  subst hl hΓ
  show J X 1 G sz 0 0 0 [some (.ref (B.1 + 368))] []
  unfold sX2_readSemicolon at h
  refine J_al4 hx rfl rfl dX2_readSemicolon_0 ?_
  obtain ⟨r1, hr2, h⟩ := bnd h
  refine J_wrV hx (kX2_skipSpaces  hW hr2) ml_X2_45 lk_X2_skipSpaces (ci := 1) rfl (hW.obj (rfl : kd 368 = 17) (by decide) (by decide)) (rest := []) rfl rfl (by decide) (by decide) (Nat.le_of_ble_eq_true rfl) (Nat.le_refl 0) (Nat.le_refl 0) dX2_readSemicolon_1 fun G3 hW4 => ?_
  show J X 1 G3 sz 0 0 4 [some (.ref (B.1 + 368))] []
  refine J_al4 hx rfl rfl dX2_readSemicolon_4 ?_
  refine g2_2 hx hW4 (rfl : kd 368 = 17) fl_X2_42 dX2_readSemicolon_5 ?_
  refine J_al4 hx rfl rfl dX2_readSemicolon_8 ?_
  refine g2_1 hx hW4 (rfl : kd 368 = 17) fl_X2_32 dX2_readSemicolon_9 ?_
  refine J_icmp_ge hx 29 dX2_readSemicolon_12 rfl (fun h5 => ?_) (fun h5 => ?_)
  · replace h := pos h h5
    refine J_al4 hx rfl rfl dX2_readSemicolon_29 ?_
    refine J_al4 hx rfl rfl dX2_readSemicolon_30 ?_
    refine g2_2 hx hW4 (rfl : kd 368 = 17) fl_X2_42 dX2_readSemicolon_31 ?_
    obtain ⟨r6, hr7, h⟩ := bnd h
    refine J_wrV hx (kX2_failAt  hW4 hr7) ml_X2_69 lk_X2_failAt (ci := 1) rfl (hW4.obj (rfl : kd 368 = 17) (by decide) (by decide)) (rest := []) rfl rfl (by decide) (by decide) (Nat.le_of_ble_eq_true rfl) (Nat.le_refl 0) (Nat.le_refl 0) dX2_readSemicolon_34 fun G8 hW9 => ?_
    show J X 1 G8 sz 0 0 37 [some (.ref (B.1 + 368))] [.int (bI r6.1)]
    obtain rfl := Option.some.inj h
    exact J_zretW (b := r6.1) hx hr hW9 dX2_readSemicolon_37 (Nat.le_refl 0) (Nat.le_refl 0)
  · replace h := neg h h5
    refine J_al4 hx rfl rfl dX2_readSemicolon_15 ?_
    refine g2_0 hx hW4 369 (rfl : kd 368 = 17) fl_X2_9 rfl dX2_readSemicolon_16 ?_
    refine J_al4 hx rfl rfl dX2_readSemicolon_19 ?_
    refine g2_2 hx hW4 (rfl : kd 368 = 17) fl_X2_42 dX2_readSemicolon_20 ?_
    obtain ⟨c10, hc11, h⟩ := bnd h
    refine J_baW hx hW4 (rfl : kd 369 = 18) hc11 dX2_readSemicolon_23 ?_
    refine J_bipush hx (59 : Int32) dX2_readSemicolon_24 rfl ?_
    refine J_icmp_eq hx 38 dX2_readSemicolon_26 rfl (fun h12 => ?_) (fun h12 => ?_)
    · replace h := pos h h12
      refine J_al4 hx rfl rfl dX2_readSemicolon_38 ?_
      refine J_dup hx dX2_readSemicolon_39 ?_
      refine g2_2 hx hW4 (rfl : kd 368 = 17) fl_X2_42 dX2_readSemicolon_40 ?_
      refine J_iconst hx (1 : Int32) dX2_readSemicolon_43 rfl ?_
      refine J_iadd hx dX2_readSemicolon_44 ?_
      refine p2_2 hx hW4 (rfl : kd 368 = 17) fl_X2_42 dX2_readSemicolon_45 fun G13 hW14 => ?_
      refine J_iconst hx (1 : Int32) dX2_readSemicolon_48 rfl ?_
      obtain rfl := Option.some.inj h
      exact J_zretW (b := true) hx hr hW14 dX2_readSemicolon_49 (Nat.le_refl 0) (Nat.le_refl 0)
    · replace h := neg h h12
      refine J_al4 hx rfl rfl dX2_readSemicolon_29 ?_
      refine J_al4 hx rfl rfl dX2_readSemicolon_30 ?_
      refine g2_2 hx hW4 (rfl : kd 368 = 17) fl_X2_42 dX2_readSemicolon_31 ?_
      obtain ⟨r15, hr16, h⟩ := bnd h
      refine J_wrV hx (kX2_failAt  hW4 hr16) ml_X2_69 lk_X2_failAt (ci := 1) rfl (hW4.obj (rfl : kd 368 = 17) (by decide) (by decide)) (rest := []) rfl rfl (by decide) (by decide) (Nat.le_of_ble_eq_true rfl) (Nat.le_refl 0) (Nat.le_refl 0) dX2_readSemicolon_34 fun G17 hW18 => ?_
      show J X 1 G17 sz 0 0 37 [some (.ref (B.1 + 368))] [.int (bI r15.1)]
      obtain rfl := Option.some.inj h
      exact J_zretW (b := r15.1) hx hr hW18 dX2_readSemicolon_37 (Nat.le_refl 0) (Nat.le_refl 0)
theorem dX2_readNext_0 : decode cX2_readNext 0 = .ok (.aload_n 0, 1) := by decide +kernel
theorem dX2_readNext_1 : decode cX2_readNext 1 = .ok (.invokevirtual 45, 3) := by decide +kernel
theorem dX2_readNext_4 : decode cX2_readNext 4 = .ok (.aload_n 0, 1) := by decide +kernel
theorem dX2_readNext_5 : decode cX2_readNext 5 = .ok (.getfield 42, 3) := by decide +kernel
theorem dX2_readNext_8 : decode cX2_readNext 8 = .ok (.aload_n 0, 1) := by decide +kernel
theorem dX2_readNext_9 : decode cX2_readNext 9 = .ok (.getfield 32, 3) := by decide +kernel
theorem dX2_readNext_12 : decode cX2_readNext 12 = .ok (.if_icmp .ge 28, 3) := by decide +kernel
theorem dX2_readNext_15 : decode cX2_readNext 15 = .ok (.aload_n 0, 1) := by decide +kernel
theorem dX2_readNext_16 : decode cX2_readNext 16 = .ok (.invokevirtual 48, 3) := by decide +kernel
theorem dX2_readNext_19 : decode cX2_readNext 19 = .ok (.ifCond .eq 21, 3) := by decide +kernel
theorem dX2_readNext_22 : decode cX2_readNext 22 = .ok (.aload_n 0, 1) := by decide +kernel
theorem dX2_readNext_23 : decode cX2_readNext 23 = .ok (.invokevirtual 51, 3) := by decide +kernel
theorem dX2_readNext_26 : decode cX2_readNext 26 = .ok (.ifCond .eq 14, 3) := by decide +kernel
theorem dX2_readNext_29 : decode cX2_readNext 29 = .ok (.aload_n 0, 1) := by decide +kernel
theorem dX2_readNext_30 : decode cX2_readNext 30 = .ok (.invokevirtual 54, 3) := by decide +kernel
theorem dX2_readNext_33 : decode cX2_readNext 33 = .ok (.ifCond .eq 7, 3) := by decide +kernel
theorem dX2_readNext_36 : decode cX2_readNext 36 = .ok (.iconst 1, 1) := by decide +kernel
theorem dX2_readNext_37 : decode cX2_readNext 37 = .ok (.goto 4, 3) := by decide +kernel
theorem dX2_readNext_40 : decode cX2_readNext 40 = .ok (.iconst 0, 1) := by decide +kernel
theorem dX2_readNext_41 : decode cX2_readNext 41 = .ok (.ireturn, 1) := by decide +kernel
def sX2_readNext (w : Wl) : Option (Bool × Wl) := (sX2_skipSpaces w ).bind (fun r1 => (if (r1 368 1) ≤ (r1 368 2) then some (false, r1) else (sX2_readWord r1 ).bind (fun r6 => (if r6.1 = true then (sX2_readNumbers r6.2 ).bind (fun r11 => (if r11.1 = true then (sX2_readSemicolon r11.2 ).bind (fun r16 => (if r16.1 = true then some (true, r16.2) else some (false, r16.2))) else some (false, r11.2))) else some (false, r6.2)))))
theorem kX2_readNext {l : Launch} {Γ : Gl} {B : Bs} {w : Wl} {G : Gf} {sz : Nat} {r : (Bool × Wl)} (hC : GC Γ B) (hW : Wd Γ B w G) (h : sX2_readNext w  = some r) : CtW l Γ yX2_readNext cX2_readNext 1 (some .boolean) 6 [.ref (B.1 + 368)] G sz B (some (.int (bI r.1))) r.2 := by
  refine Ct.of rfl (Nat.le_of_ble_eq_true rfl) fun X hx hr hl hΓ hnm => ?_
  subst hl hΓ
  show J X 1 G sz 0 0 0 [some (.ref (B.1 + 368))] []
  unfold sX2_readNext at h
  refine J_al4 hx rfl rfl dX2_readNext_0 ?_
  obtain ⟨r1, hr2, h⟩ := bnd h
  refine J_wrV hx (kX2_skipSpaces  hW hr2) ml_X2_45 lk_X2_skipSpaces (ci := 1) rfl (hW.obj (rfl : kd 368 = 17) (by decide) (by decide)) (rest := []) rfl rfl (by decide) (by decide) (Nat.le_of_ble_eq_true rfl) (Nat.le_refl 0) (Nat.le_refl 0) dX2_readNext_1 fun G3 hW4 => ?_
  show J X 1 G3 sz 0 0 4 [some (.ref (B.1 + 368))] []
  refine J_al4 hx rfl rfl dX2_readNext_4 ?_
  refine g2_2 hx hW4 (rfl : kd 368 = 17) fl_X2_42 dX2_readNext_5 ?_
  refine J_al4 hx rfl rfl dX2_readNext_8 ?_
  refine g2_1 hx hW4 (rfl : kd 368 = 17) fl_X2_32 dX2_readNext_9 ?_
  refine J_icmp_ge hx 40 dX2_readNext_12 rfl (fun h5 => ?_) (fun h5 => ?_)
  · replace h := pos h h5
    refine J_iconst hx (0 : Int32) dX2_readNext_40 rfl ?_
    obtain rfl := Option.some.inj h
    exact J_zretW (b := false) hx hr hW4 dX2_readNext_41 (Nat.le_refl 0) (Nat.le_refl 0)
  · replace h := neg h h5
    refine J_al4 hx rfl rfl dX2_readNext_15 ?_
    obtain ⟨r6, hr7, h⟩ := bnd h
    refine J_wrV hx (kX2_readWord  hC hW4 hr7) ml_X2_48 lk_X2_readWord (ci := 1) rfl (hW4.obj (rfl : kd 368 = 17) (by decide) (by decide)) (rest := []) rfl rfl (by decide) (by decide) (Nat.le_of_ble_eq_true rfl) (Nat.le_refl 0) (Nat.le_refl 0) dX2_readNext_16 fun G8 hW9 => ?_
    show J X 1 G8 sz 0 0 19 [some (.ref (B.1 + 368))] [.int (bI r6.1)]
    refine J_bif_eq hx 40 dX2_readNext_19 rfl (fun h10 => ?_) (fun h10 => ?_)
    · replace h := neg h (bft h10)
      refine J_iconst hx (0 : Int32) dX2_readNext_40 rfl ?_
      obtain rfl := Option.some.inj h
      exact J_zretW (b := false) hx hr hW9 dX2_readNext_41 (Nat.le_refl 0) (Nat.le_refl 0)
    · replace h := pos h h10
      refine J_al4 hx rfl rfl dX2_readNext_22 ?_
      obtain ⟨r11, hr12, h⟩ := bnd h
      refine J_wrV hx (kX2_readNumbers  hC hW9 hr12) ml_X2_51 lk_X2_readNumbers (ci := 1) rfl (hW9.obj (rfl : kd 368 = 17) (by decide) (by decide)) (rest := []) rfl rfl (by decide) (by decide) (Nat.le_of_ble_eq_true rfl) (Nat.le_refl 0) (Nat.le_refl 0) dX2_readNext_23 fun G13 hW14 => ?_
      show J X 1 G13 sz 0 0 26 [some (.ref (B.1 + 368))] [.int (bI r11.1)]
      refine J_bif_eq hx 40 dX2_readNext_26 rfl (fun h15 => ?_) (fun h15 => ?_)
      · replace h := neg h (bft h15)
        refine J_iconst hx (0 : Int32) dX2_readNext_40 rfl ?_
        obtain rfl := Option.some.inj h
        exact J_zretW (b := false) hx hr hW14 dX2_readNext_41 (Nat.le_refl 0) (Nat.le_refl 0)
      · replace h := pos h h15
        refine J_al4 hx rfl rfl dX2_readNext_29 ?_
        obtain ⟨r16, hr17, h⟩ := bnd h
        refine J_wrV hx (kX2_readSemicolon  hW14 hr17) ml_X2_54 lk_X2_readSemicolon (ci := 1) rfl (hW14.obj (rfl : kd 368 = 17) (by decide) (by decide)) (rest := []) rfl rfl (by decide) (by decide) (Nat.le_of_ble_eq_true rfl) (Nat.le_refl 0) (Nat.le_refl 0) dX2_readNext_30 fun G18 hW19 => ?_
        show J X 1 G18 sz 0 0 33 [some (.ref (B.1 + 368))] [.int (bI r16.1)]
        refine J_bif_eq hx 40 dX2_readNext_33 rfl (fun h20 => ?_) (fun h20 => ?_)
        · replace h := neg h (bft h20)
          refine J_iconst hx (0 : Int32) dX2_readNext_40 rfl ?_
          obtain rfl := Option.some.inj h
          exact J_zretW (b := false) hx hr hW19 dX2_readNext_41 (Nat.le_refl 0) (Nat.le_refl 0)
        · replace h := pos h h20
          refine J_iconst hx (1 : Int32) dX2_readNext_36 rfl ?_
          refine J_goto hx 41 dX2_readNext_37 rfl ?_
          obtain rfl := Option.some.inj h
          exact J_zretW (b := true) hx hr hW19 dX2_readNext_41 (Nat.le_refl 0) (Nat.le_refl 0)
theorem dX2_findFault_0 : decode cX2_findFault 0 = .ok (.aload_n 0, 1) := by decide +kernel
theorem dX2_findFault_1 : decode cX2_findFault 1 = .ok (.invokevirtual 35, 3) := by decide +kernel
theorem dX2_findFault_4 : decode cX2_findFault 4 = .ok (.iconst 0, 1) := by decide +kernel
theorem dX2_findFault_5 : decode cX2_findFault 5 = .ok (.istore_n 1, 1) := by decide +kernel
theorem dX2_findFault_6 : decode cX2_findFault 6 = .ok (.iload_n 1, 1) := by decide +kernel
theorem dX2_findFault_7 : decode cX2_findFault 7 = .ok (.sipush 150, 3) := by decide +kernel
theorem dX2_findFault_10 : decode cX2_findFault 10 = .ok (.if_icmp .ge 16, 3) := by decide +kernel
theorem dX2_findFault_13 : decode cX2_findFault 13 = .ok (.aload_n 0, 1) := by decide +kernel
theorem dX2_findFault_14 : decode cX2_findFault 14 = .ok (.invokevirtual 38, 3) := by decide +kernel
theorem dX2_findFault_17 : decode cX2_findFault 17 = .ok (.ifCond .eq 9, 3) := by decide +kernel
theorem dX2_findFault_20 : decode cX2_findFault 20 = .ok (.iinc 1 1, 3) := by decide +kernel
theorem dX2_findFault_23 : decode cX2_findFault 23 = .ok (.goto (-17), 3) := by decide +kernel
theorem dX2_findFault_26 : decode cX2_findFault 26 = .ok (.aload_n 0, 1) := by decide +kernel
theorem dX2_findFault_27 : decode cX2_findFault 27 = .ok (.getfield 15, 3) := by decide +kernel
theorem dX2_findFault_30 : decode cX2_findFault 30 = .ok (.ireturn, 1) := by decide +kernel
def sX2_findFault_6 : Nat → Wl → Int32 → Option (Int32 × Wl)
  | 0, _, _ => none
  | n + 1, w, l1 => (if (150 : Int32) ≤ l1 then some ((w 368 3), w) else (sX2_readNext w ).bind (fun r2 => (if r2.1 = true then sX2_findFault_6 n r2.2 (l1 + 1) else some ((r2.2 368 3), r2.2))))
theorem tX2_findFault_6 {X : Cx} {B : Bs} {sz : Nat} {r : (Int32 × Wl)} (hx : Fx X cX2_findFault 2 RX2 7 0 0) (hC : GC (xΓ X) B) (hr : Rt X (some .int) 0 0 (WΨ (xΓ X) B (some (.int (r.1))) r.2 sz)) : ∀ (n : Nat), ∀ (w : Wl) (l1 : Int32) {G : Gf} (hW : Wd (xΓ X) B w G) (h : sX2_findFault_6 n w l1 = some r), J X 2 G sz 0 0 6 [some (.ref (B.1 + 368)), some (.int l1)] [] := by
  intro n
  induction n with
  | zero => intro w l1 G hW h; rw [sX2_findFault_6.eq_1] at h; cases h
  | succ n ih =>
    intro w l1 G hW h
    rw [sX2_findFault_6.eq_2] at h
    refine J_il4 hx rfl rfl dX2_findFault_6 ?_
    refine J_sipush hx (150 : Int32) dX2_findFault_7 rfl ?_
    refine J_icmp_ge hx 26 dX2_findFault_10 rfl (fun h1 => ?_) (fun h1 => ?_)
    · replace h := pos h h1
      refine J_al4 hx rfl rfl dX2_findFault_26 ?_
      refine g2_3 hx hW (rfl : kd 368 = 17) fl_X2_15 dX2_findFault_27 ?_
      obtain rfl := Option.some.inj h
      exact J_iretW hx hr hW dX2_findFault_30 (Nat.le_refl 0) (Nat.le_refl 0)
    · replace h := neg h h1
      refine J_al4 hx rfl rfl dX2_findFault_13 ?_
      obtain ⟨r2, hr3, h⟩ := bnd h
      refine J_wrV hx (kX2_readNext  hC hW hr3) ml_X2_38 lk_X2_readNext (ci := 1) rfl (hW.obj (rfl : kd 368 = 17) (by decide) (by decide)) (rest := []) rfl rfl (by decide) (by decide) (Nat.le_of_ble_eq_true rfl) (Nat.le_refl 0) (Nat.le_refl 0) dX2_findFault_14 fun G4 hW5 => ?_
      show J X 2 G4 sz 0 0 17 [some (.ref (B.1 + 368)), some (.int l1)] [.int (bI r2.1)]
      refine J_bif_eq hx 26 dX2_findFault_17 rfl (fun h6 => ?_) (fun h6 => ?_)
      · replace h := neg h (bft h6)
        refine J_al4 hx rfl rfl dX2_findFault_26 ?_
        refine g2_3 hx hW5 (rfl : kd 368 = 17) fl_X2_15 dX2_findFault_27 ?_
        obtain rfl := Option.some.inj h
        exact J_iretW hx hr hW5 dX2_findFault_30 (Nat.le_refl 0) (Nat.le_refl 0)
      · replace h := pos h h6
        refine J_iinc hx (v' := (l1 + 1)) rfl rfl (by decide) (hc_of rfl) rfl dX2_findFault_20 ?_
        refine J_goto hx 6 dX2_findFault_23 rfl ?_
        exact ih _ _  hW5 h
def sX2_findFault (w : Wl) : Option (Int32 × Wl) := (sX2_rewind w ).bind (fun r1 => sX2_findFault_6 FU r1 (0 : Int32))
theorem kX2_findFault {l : Launch} {Γ : Gl} {B : Bs} {w : Wl} {G : Gf} {sz : Nat} {r : (Int32 × Wl)} (hC : GC Γ B) (hW : Wd Γ B w G) (h : sX2_findFault w  = some r) : CtW l Γ yX2_findFault cX2_findFault 2 (some .int) 7 [.ref (B.1 + 368)] G sz B (some (.int (r.1))) r.2 := by
  refine Ct.of rfl (Nat.le_of_ble_eq_true rfl) fun X hx hr hl hΓ hnm => ?_
  subst hl hΓ
  show J X 2 G sz 0 0 0 [some (.ref (B.1 + 368)), none] []
  unfold sX2_findFault at h
  refine J_al4 hx rfl rfl dX2_findFault_0 ?_
  obtain ⟨r1, hr2, h⟩ := bnd h
  refine J_wrV hx (kX2_rewind  hW hr2) ml_X2_35 lk_X2_rewind (ci := 1) rfl (hW.obj (rfl : kd 368 = 17) (by decide) (by decide)) (rest := []) rfl rfl (by decide) (by decide) (Nat.le_of_ble_eq_true rfl) (Nat.le_refl 0) (Nat.le_refl 0) dX2_findFault_1 fun G3 hW4 => ?_
  show J X 2 G3 sz 0 0 4 [some (.ref (B.1 + 368)), none] []
  refine J_iconst hx (0 : Int32) dX2_findFault_4 rfl ?_
  refine J_is4 hx rfl (by decide) (hc_of rfl) rfl dX2_findFault_5 ?_
  exact tX2_findFault_6 hx hC hr _ _ _  hW4 h
