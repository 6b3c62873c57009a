/-! Mirrors and walks, written by wip/whole/gen_walks.py -/
theorem dX3_hoursNeededAt_0 : decode cX3_hoursNeededAt 0 = .ok (.aload_n 0, 1) := by decide +kernel
theorem dX3_hoursNeededAt_1 : decode cX3_hoursNeededAt 1 = .ok (.getfield 34, 3) := by decide +kernel
theorem dX3_hoursNeededAt_4 : decode cX3_hoursNeededAt 4 = .ok (.aload_n 1, 1) := by decide +kernel
theorem dX3_hoursNeededAt_5 : decode cX3_hoursNeededAt 5 = .ok (.getfield 43, 3) := by decide +kernel
theorem dX3_hoursNeededAt_8 : decode cX3_hoursNeededAt 8 = .ok (.isub, 1) := by decide +kernel
theorem dX3_hoursNeededAt_9 : decode cX3_hoursNeededAt 9 = .ok (.invokestatic 46, 3) := by decide +kernel
theorem dX3_hoursNeededAt_12 : decode cX3_hoursNeededAt 12 = .ok (.istore_n 2, 1) := by decide +kernel
theorem dX3_hoursNeededAt_13 : decode cX3_hoursNeededAt 13 = .ok (.aload_n 0, 1) := by decide +kernel
theorem dX3_hoursNeededAt_14 : decode cX3_hoursNeededAt 14 = .ok (.getfield 37, 3) := by decide +kernel
theorem dX3_hoursNeededAt_17 : decode cX3_hoursNeededAt 17 = .ok (.aload_n 1, 1) := by decide +kernel
theorem dX3_hoursNeededAt_18 : decode cX3_hoursNeededAt 18 = .ok (.getfield 52, 3) := by decide +kernel
theorem dX3_hoursNeededAt_21 : decode cX3_hoursNeededAt 21 = .ok (.isub, 1) := by decide +kernel
theorem dX3_hoursNeededAt_22 : decode cX3_hoursNeededAt 22 = .ok (.invokestatic 46, 3) := by decide +kernel
theorem dX3_hoursNeededAt_25 : decode cX3_hoursNeededAt 25 = .ok (.istore_n 3, 1) := by decide +kernel
theorem dX3_hoursNeededAt_26 : decode cX3_hoursNeededAt 26 = .ok (.aload_n 0, 1) := by decide +kernel
theorem dX3_hoursNeededAt_27 : decode cX3_hoursNeededAt 27 = .ok (.getfield 9, 3) := by decide +kernel
theorem dX3_hoursNeededAt_30 : decode cX3_hoursNeededAt 30 = .ok (.iconst 4, 1) := by decide +kernel
theorem dX3_hoursNeededAt_31 : decode cX3_hoursNeededAt 31 = .ok (.iload_n 2, 1) := by decide +kernel
theorem dX3_hoursNeededAt_32 : decode cX3_hoursNeededAt 32 = .ok (.imul, 1) := by decide +kernel
theorem dX3_hoursNeededAt_33 : decode cX3_hoursNeededAt 33 = .ok (.iload_n 3, 1) := by decide +kernel
theorem dX3_hoursNeededAt_34 : decode cX3_hoursNeededAt 34 = .ok (.iadd, 1) := by decide +kernel
theorem dX3_hoursNeededAt_35 : decode cX3_hoursNeededAt 35 = .ok (.imul, 1) := by decide +kernel
theorem dX3_hoursNeededAt_36 : decode cX3_hoursNeededAt 36 = .ok (.bipush 10, 2) := by decide +kernel
theorem dX3_hoursNeededAt_38 : decode cX3_hoursNeededAt 38 = .ok (.idiv, 1) := by decide +kernel
theorem dX3_hoursNeededAt_39 : decode cX3_hoursNeededAt 39 = .ok (.ireturn, 1) := by decide +kernel
def sX3_hoursNeededAt (w : Wl) (o0 : Nat) (o1 : Nat) : Option Int32 := some (((w o0 0) * (((4 : Int32) * (if 0 ≤ ((w o0 7) - (w o1 0)) then ((w o0 7) - (w o1 0)) else 0 - ((w o0 7) - (w o1 0)))) + (if 0 ≤ ((w o0 8) - (w o1 1)) then ((w o0 8) - (w o1 1)) else 0 - ((w o0 8) - (w o1 1))))) / (10 : Int32))
theorem kX3_hoursNeededAt {l : Launch} {Γ : Gl} {B : Bs} {w : Wl} {G : Gf} {sz : Nat} {o0 : Nat} {o1 : Nat} {r : Int32} (ho0 : kd o0 = 9) (ho1 : kd o1 = 8) (hW : Wd Γ B w G) (h : sX3_hoursNeededAt w o0 o1 = some r) : CtR l Γ yX3_hoursNeededAt cX3_hoursNeededAt 4 (some .int) 1 [.ref (B.1 + o0), .ref (B.1 + o1)] G sz (.int (r)) := by
  refine Ct.of rfl (Nat.le_of_ble_eq_true rfl) fun X hx hr hl hΓ hnm => ?_
  subst hl hΓ
  show J X 4 G sz 0 0 0 [some (.ref (B.1 + o0)), some (.ref (B.1 + o1)), none, none] []
  unfold sX3_hoursNeededAt at h
  refine J_al4 hx rfl rfl dX3_hoursNeededAt_0 ?_
  refine g3_7 hx hW ho0 fl_X3_34 dX3_hoursNeededAt_1 ?_
  refine J_al4 hx rfl rfl dX3_hoursNeededAt_4 ?_
  refine g9_0 hx hW ho1 fl_X3_43 dX3_hoursNeededAt_5 ?_
  refine J_isub hx dX3_hoursNeededAt_8 ?_
  refine J_abs hx ml_X3_46 jd_abs (by decide) (Nat.le_of_ble_eq_true rfl) (Nat.le_refl 0) (Nat.le_refl 0) dX3_hoursNeededAt_9 ?_
  refine J_is4 hx rfl (by decide) (hc_of rfl) rfl dX3_hoursNeededAt_12 ?_
  refine J_al4 hx rfl rfl dX3_hoursNeededAt_13 ?_
  refine g3_8 hx hW ho0 fl_X3_37 dX3_hoursNeededAt_14 ?_
  refine J_al4 hx rfl rfl dX3_hoursNeededAt_17 ?_
  refine g9_1 hx hW ho1 fl_X3_52 dX3_hoursNeededAt_18 ?_
  refine J_isub hx dX3_hoursNeededAt_21 ?_
  refine J_abs hx ml_X3_46 jd_abs (by decide) (Nat.le_of_ble_eq_true rfl) (Nat.le_refl 0) (Nat.le_refl 0) dX3_hoursNeededAt_22 ?_
  refine J_is4 hx rfl (by decide) (hc_of rfl) rfl dX3_hoursNeededAt_25 ?_
  refine J_al4 hx rfl rfl dX3_hoursNeededAt_26 ?_
  refine g3_0 hx hW ho0 fl_X3_9 dX3_hoursNeededAt_27 ?_
  refine J_iconst hx (4 : Int32) dX3_hoursNeededAt_30 rfl ?_
  refine J_il4 hx rfl rfl dX3_hoursNeededAt_31 ?_
  refine J_imul hx dX3_hoursNeededAt_32 ?_
  refine J_il4 hx rfl rfl dX3_hoursNeededAt_33 ?_
  refine J_iadd hx dX3_hoursNeededAt_34 ?_
  refine J_imul hx dX3_hoursNeededAt_35 ?_
  refine J_bipush hx (10 : Int32) dX3_hoursNeededAt_36 rfl ?_
  refine J_idiv hx (by decide) dX3_hoursNeededAt_38 ?_
  exact J_iretR hx hr dX3_hoursNeededAt_39 (Nat.le_refl 0) (Nat.le_refl 0) (Option.some.inj h)
theorem dX3_copyFrom_0 : decode cX3_copyFrom 0 = .ok (.aload_n 0, 1) := by decide +kernel
theorem dX3_copyFrom_1 : decode cX3_copyFrom 1 = .ok (.aload_n 1, 1) := by decide +kernel
theorem dX3_copyFrom_2 : decode cX3_copyFrom 2 = .ok (.getfield 9, 3) := by decide +kernel
theorem dX3_copyFrom_5 : decode cX3_copyFrom 5 = .ok (.putfield 9, 3) := by decide +kernel
theorem dX3_copyFrom_8 : decode cX3_copyFrom 8 = .ok (.aload_n 0, 1) := by decide +kernel
theorem dX3_copyFrom_9 : decode cX3_copyFrom 9 = .ok (.aload_n 1, 1) := by decide +kernel
theorem dX3_copyFrom_10 : decode cX3_copyFrom 10 = .ok (.getfield 15, 3) := by decide +kernel
theorem dX3_copyFrom_13 : decode cX3_copyFrom 13 = .ok (.putfield 15, 3) := by decide +kernel
theorem dX3_copyFrom_16 : decode cX3_copyFrom 16 = .ok (.aload_n 0, 1) := by decide +kernel
theorem dX3_copyFrom_17 : decode cX3_copyFrom 17 = .ok (.aload_n 1, 1) := by decide +kernel
theorem dX3_copyFrom_18 : decode cX3_copyFrom 18 = .ok (.getfield 19, 3) := by decide +kernel
theorem dX3_copyFrom_21 : decode cX3_copyFrom 21 = .ok (.putfield 19, 3) := by decide +kernel
theorem dX3_copyFrom_24 : decode cX3_copyFrom 24 = .ok (.aload_n 0, 1) := by decide +kernel
theorem dX3_copyFrom_25 : decode cX3_copyFrom 25 = .ok (.aload_n 1, 1) := by decide +kernel
theorem dX3_copyFrom_26 : decode cX3_copyFrom 26 = .ok (.getfield 22, 3) := by decide +kernel
theorem dX3_copyFrom_29 : decode cX3_copyFrom 29 = .ok (.putfield 22, 3) := by decide +kernel
theorem dX3_copyFrom_32 : decode cX3_copyFrom 32 = .ok (.aload_n 0, 1) := by decide +kernel
theorem dX3_copyFrom_33 : decode cX3_copyFrom 33 = .ok (.aload_n 1, 1) := by decide +kernel
theorem dX3_copyFrom_34 : decode cX3_copyFrom 34 = .ok (.getfield 25, 3) := by decide +kernel
theorem dX3_copyFrom_37 : decode cX3_copyFrom 37 = .ok (.putfield 25, 3) := by decide +kernel
theorem dX3_copyFrom_40 : decode cX3_copyFrom 40 = .ok (.aload_n 0, 1) := by decide +kernel
theorem dX3_copyFrom_41 : decode cX3_copyFrom 41 = .ok (.aload_n 1, 1) := by decide +kernel
theorem dX3_copyFrom_42 : decode cX3_copyFrom 42 = .ok (.getfield 28, 3) := by decide +kernel
theorem dX3_copyFrom_45 : decode cX3_copyFrom 45 = .ok (.putfield 28, 3) := by decide +kernel
theorem dX3_copyFrom_48 : decode cX3_copyFrom 48 = .ok (.aload_n 0, 1) := by decide +kernel
theorem dX3_copyFrom_49 : decode cX3_copyFrom 49 = .ok (.aload_n 1, 1) := by decide +kernel
theorem dX3_copyFrom_50 : decode cX3_copyFrom 50 = .ok (.getfield 31, 3) := by decide +kernel
theorem dX3_copyFrom_53 : decode cX3_copyFrom 53 = .ok (.putfield 31, 3) := by decide +kernel
theorem dX3_copyFrom_56 : decode cX3_copyFrom 56 = .ok (.aload_n 0, 1) := by decide +kernel
theorem dX3_copyFrom_57 : decode cX3_copyFrom 57 = .ok (.aload_n 1, 1) := by decide +kernel
theorem dX3_copyFrom_58 : decode cX3_copyFrom 58 = .ok (.getfield 34, 3) := by decide +kernel
theorem dX3_copyFrom_61 : decode cX3_copyFrom 61 = .ok (.putfield 34, 3) := by decide +kernel
theorem dX3_copyFrom_64 : decode cX3_copyFrom 64 = .ok (.aload_n 0, 1) := by decide +kernel
theorem dX3_copyFrom_65 : decode cX3_copyFrom 65 = .ok (.aload_n 1, 1) := by decide +kernel
theorem dX3_copyFrom_66 : decode cX3_copyFrom 66 = .ok (.getfield 37, 3) := by decide +kernel
theorem dX3_copyFrom_69 : decode cX3_copyFrom 69 = .ok (.putfield 37, 3) := by decide +kernel
theorem dX3_copyFrom_72 : decode cX3_copyFrom 72 = .ok (.aload_n 0, 1) := by decide +kernel
theorem dX3_copyFrom_73 : decode cX3_copyFrom 73 = .ok (.aload_n 1, 1) := by decide +kernel
theorem dX3_copyFrom_74 : decode cX3_copyFrom 74 = .ok (.getfield 40, 3) := by decide +kernel
theorem dX3_copyFrom_77 : decode cX3_copyFrom 77 = .ok (.putfield 40, 3) := by decide +kernel
theorem dX3_copyFrom_80 : decode cX3_copyFrom 80 = .ok (.return_, 1) := by decide +kernel
def sX3_copyFrom (w : Wl) (o0 : Nat) (o1 : Nat) : Option Wl := if ((wst w o0 0 (w o1 0)) o1 1) = 0 ∨ ((wst w o0 0 (w o1 0)) o1 1) = 1 then some (wst (wst (wst (wst (wst (wst (wst (wst (wst (wst w o0 0 (w o1 0)) o0 1 ((wst w o0 0 (w o1 0)) o1 1)) o0 2 ((wst (wst w o0 0 (w o1 0)) o0 1 ((wst w o0 0 (w o1 0)) o1 1)) o1 2)) o0 3 ((wst (wst (wst w o0 0 (w o1 0)) o0 1 ((wst w o0 0 (w o1 0)) o1 1)) o0 2 ((wst (wst w o0 0 (w o1 0)) o0 1 ((wst w o0 0 (w o1 0)) o1 1)) o1 2)) o1 3)) o0 4 ((wst (wst (wst (wst w o0 0 (w o1 0)) o0 1 ((wst w o0 0 (w o1 0)) o1 1)) o0 2 ((wst (wst w o0 0 (w o1 0)) o0 1 ((wst w o0 0 (w o1 0)) o1 1)) o1 2)) o0 3 ((wst (wst (wst w o0 0 (w o1 0)) o0 1 ((wst w o0 0 (w o1 0)) o1 1)) o0 2 ((wst (wst w o0 0 (w o1 0)) o0 1 ((wst w o0 0 (w o1 0)) o1 1)) o1 2)) o1 3)) o1 4)) o0 5 ((wst (wst (wst (wst (wst w o0 0 (w o1 0)) o0 1 ((wst w o0 0 (w o1 0)) o1 1)) o0 2 ((wst (wst w o0 0 (w o1 0)) o0 1 ((wst w o0 0 (w o1 0)) o1 1)) o1 2)) o0 3 ((wst (wst (wst w o0 0 (w o1 0)) o0 1 ((wst w o0 0 (w o1 0)) o1 1)) o0 2 ((wst (wst w o0 0 (w o1 0)) o0 1 ((wst w o0 0 (w o1 0)) o1 1)) o1 2)) o1 3)) o0 4 ((wst (wst (wst (wst w o0 0 (w o1 0)) o0 1 ((wst w o0 0 (w o1 0)) o1 1)) o0 2 ((wst (wst w o0 0 (w o1 0)) o0 1 ((wst w o0 0 (w o1 0)) o1 1)) o1 2)) o0 3 ((wst (wst (wst w o0 0 (w o1 0)) o0 1 ((wst w o0 0 (w o1 0)) o1 1)) o0 2 ((wst (wst w o0 0 (w o1 0)) o0 1 ((wst w o0 0 (w o1 0)) o1 1)) o1 2)) o1 3)) o1 4)) o1 5)) o0 6 ((wst (wst (wst (wst (wst (wst w o0 0 (w o1 0)) o0 1 ((wst w o0 0 (w o1 0)) o1 1)) o0 2 ((wst (wst w o0 0 (w o1 0)) o0 1 ((wst w o0 0 (w o1 0)) o1 1)) o1 2)) o0 3 ((wst (wst (wst w o0 0 (w o1 0)) o0 1 ((wst w o0 0 (w o1 0)) o1 1)) o0 2 ((wst (wst w o0 0 (w o1 0)) o0 1 ((wst w o0 0 (w o1 0)) o1 1)) o1 2)) o1 3)) o0 4 ((wst (wst (wst (wst w o0 0 (w o1 0)) o0 1 ((wst w o0 0 (w o1 0)) o1 1)) o0 2 ((wst (wst w o0 0 (w o1 0)) o0 1 ((wst w o0 0 (w o1 0)) o1 1)) o1 2)) o0 3 ((wst (wst (wst w o0 0 (w o1 0)) o0 1 ((wst w o0 0 (w o1 0)) o1 1)) o0 2 ((wst (wst w o0 0 (w o1 0)) o0 1 ((wst w o0 0 (w o1 0)) o1 1)) o1 2)) o1 3)) o1 4)) o0 5 ((wst (wst (wst (wst (wst w o0 0 (w o1 0)) o0 1 ((wst w o0 0 (w o1 0)) o1 1)) o0 2 ((wst (wst w o0 0 (w o1 0)) o0 1 ((wst w o0 0 (w o1 0)) o1 1)) o1 2)) o0 3 ((wst (wst (wst w o0 0 (w o1 0)) o0 1 ((wst w o0 0 (w o1 0)) o1 1)) o0 2 ((wst (wst w o0 0 (w o1 0)) o0 1 ((wst w o0 0 (w o1 0)) o1 1)) o1 2)) o1 3)) o0 4 ((wst (wst (wst (wst w o0 0 (w o1 0)) o0 1 ((wst w o0 0 (w o1 0)) o1 1)) o0 2 ((wst (wst w o0 0 (w o1 0)) o0 1 ((wst w o0 0 (w o1 0)) o1 1)) o1 2)) o0 3 ((wst (wst (wst w o0 0 (w o1 0)) o0 1 ((wst w o0 0 (w o1 0)) o1 1)) o0 2 ((wst (wst w o0 0 (w o1 0)) o0 1 ((wst w o0 0 (w o1 0)) o1 1)) o1 2)) o1 3)) o1 4)) o1 5)) o1 6)) o0 7 ((wst (wst (wst (wst (wst (wst (wst w o0 0 (w o1 0)) o0 1 ((wst w o0 0 (w o1 0)) o1 1)) o0 2 ((wst (wst w o0 0 (w o1 0)) o0 1 ((wst w o0 0 (w o1 0)) o1 1)) o1 2)) o0 3 ((wst (wst (wst w o0 0 (w o1 0)) o0 1 ((wst w o0 0 (w o1 0)) o1 1)) o0 2 ((wst (wst w o0 0 (w o1 0)) o0 1 ((wst w o0 0 (w o1 0)) o1 1)) o1 2)) o1 3)) o0 4 ((wst (wst (wst (wst w o0 0 (w o1 0)) o0 1 ((wst w o0 0 (w o1 0)) o1 1)) o0 2 ((wst (wst w o0 0 (w o1 0)) o0 1 ((wst w o0 0 (w o1 0)) o1 1)) o1 2)) o0 3 ((wst (wst (wst w o0 0 (w o1 0)) o0 1 ((wst w o0 0 (w o1 0)) o1 1)) o0 2 ((wst (wst w o0 0 (w o1 0)) o0 1 ((wst w o0 0 (w o1 0)) o1 1)) o1 2)) o1 3)) o1 4)) o0 5 ((wst (wst (wst (wst (wst w o0 0 (w o1 0)) o0 1 ((wst w o0 0 (w o1 0)) o1 1)) o0 2 ((wst (wst w o0 0 (w o1 0)) o0 1 ((wst w o0 0 (w o1 0)) o1 1)) o1 2)) o0 3 ((wst (wst (wst w o0 0 (w o1 0)) o0 1 ((wst w o0 0 (w o1 0)) o1 1)) o0 2 ((wst (wst w o0 0 (w o1 0)) o0 1 ((wst w o0 0 (w o1 0)) o1 1)) o1 2)) o1 3)) o0 4 ((wst (wst (wst (wst w o0 0 (w o1 0)) o0 1 ((wst w o0 0 (w o1 0)) o1 1)) o0 2 ((wst (wst w o0 0 (w o1 0)) o0 1 ((wst w o0 0 (w o1 0)) o1 1)) o1 2)) o0 3 ((wst (wst (wst w o0 0 (w o1 0)) o0 1 ((wst w o0 0 (w o1 0)) o1 1)) o0 2 ((wst (wst w o0 0 (w o1 0)) o0 1 ((wst w o0 0 (w o1 0)) o1 1)) o1 2)) o1 3)) o1 4)) o1 5)) o0 6 ((wst (wst (wst (wst (wst (wst w o0 0 (w o1 0)) o0 1 ((wst w o0 0 (w o1 0)) o1 1)) o0 2 ((wst (wst w o0 0 (w o1 0)) o0 1 ((wst w o0 0 (w o1 0)) o1 1)) o1 2)) o0 3 ((wst (wst (wst w o0 0 (w o1 0)) o0 1 ((wst w o0 0 (w o1 0)) o1 1)) o0 2 ((wst (wst w o0 0 (w o1 0)) o0 1 ((wst w o0 0 (w o1 0)) o1 1)) o1 2)) o1 3)) o0 4 ((wst (wst (wst (wst w o0 0 (w o1 0)) o0 1 ((wst w o0 0 (w o1 0)) o1 1)) o0 2 ((wst (wst w o0 0 (w o1 0)) o0 1 ((wst w o0 0 (w o1 0)) o1 1)) o1 2)) o0 3 ((wst (wst (wst w o0 0 (w o1 0)) o0 1 ((wst w o0 0 (w o1 0)) o1 1)) o0 2 ((wst (wst w o0 0 (w o1 0)) o0 1 ((wst w o0 0 (w o1 0)) o1 1)) o1 2)) o1 3)) o1 4)) o0 5 ((wst (wst (wst (wst (wst w o0 0 (w o1 0)) o0 1 ((wst w o0 0 (w o1 0)) o1 1)) o0 2 ((wst (wst w o0 0 (w o1 0)) o0 1 ((wst w o0 0 (w o1 0)) o1 1)) o1 2)) o0 3 ((wst (wst (wst w o0 0 (w o1 0)) o0 1 ((wst w o0 0 (w o1 0)) o1 1)) o0 2 ((wst (wst w o0 0 (w o1 0)) o0 1 ((wst w o0 0 (w o1 0)) o1 1)) o1 2)) o1 3)) o0 4 ((wst (wst (wst (wst w o0 0 (w o1 0)) o0 1 ((wst w o0 0 (w o1 0)) o1 1)) o0 2 ((wst (wst w o0 0 (w o1 0)) o0 1 ((wst w o0 0 (w o1 0)) o1 1)) o1 2)) o0 3 ((wst (wst (wst w o0 0 (w o1 0)) o0 1 ((wst w o0 0 (w o1 0)) o1 1)) o0 2 ((wst (wst w o0 0 (w o1 0)) o0 1 ((wst w o0 0 (w o1 0)) o1 1)) o1 2)) o1 3)) o1 4)) o1 5)) o1 6)) o1 7)) o0 8 ((wst (wst (wst (wst (wst (wst (wst (wst w o0 0 (w o1 0)) o0 1 ((wst w o0 0 (w o1 0)) o1 1)) o0 2 ((wst (wst w o0 0 (w o1 0)) o0 1 ((wst w o0 0 (w o1 0)) o1 1)) o1 2)) o0 3 ((wst (wst (wst w o0 0 (w o1 0)) o0 1 ((wst w o0 0 (w o1 0)) o1 1)) o0 2 ((wst (wst w o0 0 (w o1 0)) o0 1 ((wst w o0 0 (w o1 0)) o1 1)) o1 2)) o1 3)) o0 4 ((wst (wst (wst (wst w o0 0 (w o1 0)) o0 1 ((wst w o0 0 (w o1 0)) o1 1)) o0 2 ((wst (wst w o0 0 (w o1 0)) o0 1 ((wst w o0 0 (w o1 0)) o1 1)) o1 2)) o0 3 ((wst (wst (wst w o0 0 (w o1 0)) o0 1 ((wst w o0 0 (w o1 0)) o1 1)) o0 2 ((wst (wst w o0 0 (w o1 0)) o0 1 ((wst w o0 0 (w o1 0)) o1 1)) o1 2)) o1 3)) o1 4)) o0 5 ((wst (wst (wst (wst (wst w o0 0 (w o1 0)) o0 1 ((wst w o0 0 (w o1 0)) o1 1)) o0 2 ((wst (wst w o0 0 (w o1 0)) o0 1 ((wst w o0 0 (w o1 0)) o1 1)) o1 2)) o0 3 ((wst (wst (wst w o0 0 (w o1 0)) o0 1 ((wst w o0 0 (w o1 0)) o1 1)) o0 2 ((wst (wst w o0 0 (w o1 0)) o0 1 ((wst w o0 0 (w o1 0)) o1 1)) o1 2)) o1 3)) o0 4 ((wst (wst (wst (wst w o0 0 (w o1 0)) o0 1 ((wst w o0 0 (w o1 0)) o1 1)) o0 2 ((wst (wst w o0 0 (w o1 0)) o0 1 ((wst w o0 0 (w o1 0)) o1 1)) o1 2)) o0 3 ((wst (wst (wst w o0 0 (w o1 0)) o0 1 ((wst w o0 0 (w o1 0)) o1 1)) o0 2 ((wst (wst w o0 0 (w o1 0)) o0 1 ((wst w o0 0 (w o1 0)) o1 1)) o1 2)) o1 3)) o1 4)) o1 5)) o0 6 ((wst (wst (wst (wst (wst (wst w o0 0 (w o1 0)) o0 1 ((wst w o0 0 (w o1 0)) o1 1)) o0 2 ((wst (wst w o0 0 (w o1 0)) o0 1 ((wst w o0 0 (w o1 0)) o1 1)) o1 2)) o0 3 ((wst (wst (wst w o0 0 (w o1 0)) o0 1 ((wst w o0 0 (w o1 0)) o1 1)) o0 2 ((wst (wst w o0 0 (w o1 0)) o0 1 ((wst w o0 0 (w o1 0)) o1 1)) o1 2)) o1 3)) o0 4 ((wst (wst (wst (wst w o0 0 (w o1 0)) o0 1 ((wst w o0 0 (w o1 0)) o1 1)) o0 2 ((wst (wst w o0 0 (w o1 0)) o0 1 ((wst w o0 0 (w o1 0)) o1 1)) o1 2)) o0 3 ((wst (wst (wst w o0 0 (w o1 0)) o0 1 ((wst w o0 0 (w o1 0)) o1 1)) o0 2 ((wst (wst w o0 0 (w o1 0)) o0 1 ((wst w o0 0 (w o1 0)) o1 1)) o1 2)) o1 3)) o1 4)) o0 5 ((wst (wst (wst (wst (wst w o0 0 (w o1 0)) o0 1 ((wst w o0 0 (w o1 0)) o1 1)) o0 2 ((wst (wst w o0 0 (w o1 0)) o0 1 ((wst w o0 0 (w o1 0)) o1 1)) o1 2)) o0 3 ((wst (wst (wst w o0 0 (w o1 0)) o0 1 ((wst w o0 0 (w o1 0)) o1 1)) o0 2 ((wst (wst w o0 0 (w o1 0)) o0 1 ((wst w o0 0 (w o1 0)) o1 1)) o1 2)) o1 3)) o0 4 ((wst (wst (wst (wst w o0 0 (w o1 0)) o0 1 ((wst w o0 0 (w o1 0)) o1 1)) o0 2 ((wst (wst w o0 0 (w o1 0)) o0 1 ((wst w o0 0 (w o1 0)) o1 1)) o1 2)) o0 3 ((wst (wst (wst w o0 0 (w o1 0)) o0 1 ((wst w o0 0 (w o1 0)) o1 1)) o0 2 ((wst (wst w o0 0 (w o1 0)) o0 1 ((wst w o0 0 (w o1 0)) o1 1)) o1 2)) o1 3)) o1 4)) o1 5)) o1 6)) o0 7 ((wst (wst (wst (wst (wst (wst (wst w o0 0 (w o1 0)) o0 1 ((wst w o0 0 (w o1 0)) o1 1)) o0 2 ((wst (wst w o0 0 (w o1 0)) o0 1 ((wst w o0 0 (w o1 0)) o1 1)) o1 2)) o0 3 ((wst (wst (wst w o0 0 (w o1 0)) o0 1 ((wst w o0 0 (w o1 0)) o1 1)) o0 2 ((wst (wst w o0 0 (w o1 0)) o0 1 ((wst w o0 0 (w o1 0)) o1 1)) o1 2)) o1 3)) o0 4 ((wst (wst (wst (wst w o0 0 (w o1 0)) o0 1 ((wst w o0 0 (w o1 0)) o1 1)) o0 2 ((wst (wst w o0 0 (w o1 0)) o0 1 ((wst w o0 0 (w o1 0)) o1 1)) o1 2)) o0 3 ((wst (wst (wst w o0 0 (w o1 0)) o0 1 ((wst w o0 0 (w o1 0)) o1 1)) o0 2 ((wst (wst w o0 0 (w o1 0)) o0 1 ((wst w o0 0 (w o1 0)) o1 1)) o1 2)) o1 3)) o1 4)) o0 5 ((wst (wst (wst (wst (wst w o0 0 (w o1 0)) o0 1 ((wst w o0 0 (w o1 0)) o1 1)) o0 2 ((wst (wst w o0 0 (w o1 0)) o0 1 ((wst w o0 0 (w o1 0)) o1 1)) o1 2)) o0 3 ((wst (wst (wst w o0 0 (w o1 0)) o0 1 ((wst w o0 0 (w o1 0)) o1 1)) o0 2 ((wst (wst w o0 0 (w o1 0)) o0 1 ((wst w o0 0 (w o1 0)) o1 1)) o1 2)) o1 3)) o0 4 ((wst (wst (wst (wst w o0 0 (w o1 0)) o0 1 ((wst w o0 0 (w o1 0)) o1 1)) o0 2 ((wst (wst w o0 0 (w o1 0)) o0 1 ((wst w o0 0 (w o1 0)) o1 1)) o1 2)) o0 3 ((wst (wst (wst w o0 0 (w o1 0)) o0 1 ((wst w o0 0 (w o1 0)) o1 1)) o0 2 ((wst (wst w o0 0 (w o1 0)) o0 1 ((wst w o0 0 (w o1 0)) o1 1)) o1 2)) o1 3)) o1 4)) o1 5)) o0 6 ((wst (wst (wst (wst (wst (wst w o0 0 (w o1 0)) o0 1 ((wst w o0 0 (w o1 0)) o1 1)) o0 2 ((wst (wst w o0 0 (w o1 0)) o0 1 ((wst w o0 0 (w o1 0)) o1 1)) o1 2)) o0 3 ((wst (wst (wst w o0 0 (w o1 0)) o0 1 ((wst w o0 0 (w o1 0)) o1 1)) o0 2 ((wst (wst w o0 0 (w o1 0)) o0 1 ((wst w o0 0 (w o1 0)) o1 1)) o1 2)) o1 3)) o0 4 ((wst (wst (wst (wst w o0 0 (w o1 0)) o0 1 ((wst w o0 0 (w o1 0)) o1 1)) o0 2 ((wst (wst w o0 0 (w o1 0)) o0 1 ((wst w o0 0 (w o1 0)) o1 1)) o1 2)) o0 3 ((wst (wst (wst w o0 0 (w o1 0)) o0 1 ((wst w o0 0 (w o1 0)) o1 1)) o0 2 ((wst (wst w o0 0 (w o1 0)) o0 1 ((wst w o0 0 (w o1 0)) o1 1)) o1 2)) o1 3)) o1 4)) o0 5 ((wst (wst (wst (wst (wst w o0 0 (w o1 0)) o0 1 ((wst w o0 0 (w o1 0)) o1 1)) o0 2 ((wst (wst w o0 0 (w o1 0)) o0 1 ((wst w o0 0 (w o1 0)) o1 1)) o1 2)) o0 3 ((wst (wst (wst w o0 0 (w o1 0)) o0 1 ((wst w o0 0 (w o1 0)) o1 1)) o0 2 ((wst (wst w o0 0 (w o1 0)) o0 1 ((wst w o0 0 (w o1 0)) o1 1)) o1 2)) o1 3)) o0 4 ((wst (wst (wst (wst w o0 0 (w o1 0)) o0 1 ((wst w o0 0 (w o1 0)) o1 1)) o0 2 ((wst (wst w o0 0 (w o1 0)) o0 1 ((wst w o0 0 (w o1 0)) o1 1)) o1 2)) o0 3 ((wst (wst (wst w o0 0 (w o1 0)) o0 1 ((wst w o0 0 (w o1 0)) o1 1)) o0 2 ((wst (wst w o0 0 (w o1 0)) o0 1 ((wst w o0 0 (w o1 0)) o1 1)) o1 2)) o1 3)) o1 4)) o1 5)) o1 6)) o1 7)) o1 8)) o0 9 ((wst (wst (wst (wst (wst (wst (wst (wst (wst w o0 0 (w o1 0)) o0 1 ((wst w o0 0 (w o1 0)) o1 1)) o0 2 ((wst (wst w o0 0 (w o1 0)) o0 1 ((wst w o0 0 (w o1 0)) o1 1)) o1 2)) o0 3 ((wst (wst (wst w o0 0 (w o1 0)) o0 1 ((wst w o0 0 (w o1 0)) o1 1)) o0 2 ((wst (wst w o0 0 (w o1 0)) o0 1 ((wst w o0 0 (w o1 0)) o1 1)) o1 2)) o1 3)) o0 4 ((wst (wst (wst (wst w o0 0 (w o1 0)) o0 1 ((wst w o0 0 (w o1 0)) o1 1)) o0 2 ((wst (wst w o0 0 (w o1 0)) o0 1 ((wst w o0 0 (w o1 0)) o1 1)) o1 2)) o0 3 ((wst (wst (wst w o0 0 (w o1 0)) o0 1 ((wst w o0 0 (w o1 0)) o1 1)) o0 2 ((wst (wst w o0 0 (w o1 0)) o0 1 ((wst w o0 0 (w o1 0)) o1 1)) o1 2)) o1 3)) o1 4)) o0 5 ((wst (wst (wst (wst (wst w o0 0 (w o1 0)) o0 1 ((wst w o0 0 (w o1 0)) o1 1)) o0 2 ((wst (wst w o0 0 (w o1 0)) o0 1 ((wst w o0 0 (w o1 0)) o1 1)) o1 2)) o0 3 ((wst (wst (wst w o0 0 (w o1 0)) o0 1 ((wst w o0 0 (w o1 0)) o1 1)) o0 2 ((wst (wst w o0 0 (w o1 0)) o0 1 ((wst w o0 0 (w o1 0)) o1 1)) o1 2)) o1 3)) o0 4 ((wst (wst (wst (wst w o0 0 (w o1 0)) o0 1 ((wst w o0 0 (w o1 0)) o1 1)) o0 2 ((wst (wst w o0 0 (w o1 0)) o0 1 ((wst w o0 0 (w o1 0)) o1 1)) o1 2)) o0 3 ((wst (wst (wst w o0 0 (w o1 0)) o0 1 ((wst w o0 0 (w o1 0)) o1 1)) o0 2 ((wst (wst w o0 0 (w o1 0)) o0 1 ((wst w o0 0 (w o1 0)) o1 1)) o1 2)) o1 3)) o1 4)) o1 5)) o0 6 ((wst (wst (wst (wst (wst (wst w o0 0 (w o1 0)) o0 1 ((wst w o0 0 (w o1 0)) o1 1)) o0 2 ((wst (wst w o0 0 (w o1 0)) o0 1 ((wst w o0 0 (w o1 0)) o1 1)) o1 2)) o0 3 ((wst (wst (wst w o0 0 (w o1 0)) o0 1 ((wst w o0 0 (w o1 0)) o1 1)) o0 2 ((wst (wst w o0 0 (w o1 0)) o0 1 ((wst w o0 0 (w o1 0)) o1 1)) o1 2)) o1 3)) o0 4 ((wst (wst (wst (wst w o0 0 (w o1 0)) o0 1 ((wst w o0 0 (w o1 0)) o1 1)) o0 2 ((wst (wst w o0 0 (w o1 0)) o0 1 ((wst w o0 0 (w o1 0)) o1 1)) o1 2)) o0 3 ((wst (wst (wst w o0 0 (w o1 0)) o0 1 ((wst w o0 0 (w o1 0)) o1 1)) o0 2 ((wst (wst w o0 0 (w o1 0)) o0 1 ((wst w o0 0 (w o1 0)) o1 1)) o1 2)) o1 3)) o1 4)) o0 5 ((wst (wst (wst (wst (wst w o0 0 (w o1 0)) o0 1 ((wst w o0 0 (w o1 0)) o1 1)) o0 2 ((wst (wst w o0 0 (w o1 0)) o0 1 ((wst w o0 0 (w o1 0)) o1 1)) o1 2)) o0 3 ((wst (wst (wst w o0 0 (w o1 0)) o0 1 ((wst w o0 0 (w o1 0)) o1 1)) o0 2 ((wst (wst w o0 0 (w o1 0)) o0 1 ((wst w o0 0 (w o1 0)) o1 1)) o1 2)) o1 3)) o0 4 ((wst (wst (wst (wst w o0 0 (w o1 0)) o0 1 ((wst w o0 0 (w o1 0)) o1 1)) o0 2 ((wst (wst w o0 0 (w o1 0)) o0 1 ((wst w o0 0 (w o1 0)) o1 1)) o1 2)) o0 3 ((wst (wst (wst w o0 0 (w o1 0)) o0 1 ((wst w o0 0 (w o1 0)) o1 1)) o0 2 ((wst (wst w o0 0 (w o1 0)) o0 1 ((wst w o0 0 (w o1 0)) o1 1)) o1 2)) o1 3)) o1 4)) o1 5)) o1 6)) o0 7 ((wst (wst (wst (wst (wst (wst (wst w o0 0 (w o1 0)) o0 1 ((wst w o0 0 (w o1 0)) o1 1)) o0 2 ((wst (wst w o0 0 (w o1 0)) o0 1 ((wst w o0 0 (w o1 0)) o1 1)) o1 2)) o0 3 ((wst (wst (wst w o0 0 (w o1 0)) o0 1 ((wst w o0 0 (w o1 0)) o1 1)) o0 2 ((wst (wst w o0 0 (w o1 0)) o0 1 ((wst w o0 0 (w o1 0)) o1 1)) o1 2)) o1 3)) o0 4 ((wst (wst (wst (wst w o0 0 (w o1 0)) o0 1 ((wst w o0 0 (w o1 0)) o1 1)) o0 2 ((wst (wst w o0 0 (w o1 0)) o0 1 ((wst w o0 0 (w o1 0)) o1 1)) o1 2)) o0 3 ((wst (wst (wst w o0 0 (w o1 0)) o0 1 ((wst w o0 0 (w o1 0)) o1 1)) o0 2 ((wst (wst w o0 0 (w o1 0)) o0 1 ((wst w o0 0 (w o1 0)) o1 1)) o1 2)) o1 3)) o1 4)) o0 5 ((wst (wst (wst (wst (wst w o0 0 (w o1 0)) o0 1 ((wst w o0 0 (w o1 0)) o1 1)) o0 2 ((wst (wst w o0 0 (w o1 0)) o0 1 ((wst w o0 0 (w o1 0)) o1 1)) o1 2)) o0 3 ((wst (wst (wst w o0 0 (w o1 0)) o0 1 ((wst w o0 0 (w o1 0)) o1 1)) o0 2 ((wst (wst w o0 0 (w o1 0)) o0 1 ((wst w o0 0 (w o1 0)) o1 1)) o1 2)) o1 3)) o0 4 ((wst (wst (wst (wst w o0 0 (w o1 0)) o0 1 ((wst w o0 0 (w o1 0)) o1 1)) o0 2 ((wst (wst w o0 0 (w o1 0)) o0 1 ((wst w o0 0 (w o1 0)) o1 1)) o1 2)) o0 3 ((wst (wst (wst w o0 0 (w o1 0)) o0 1 ((wst w o0 0 (w o1 0)) o1 1)) o0 2 ((wst (wst w o0 0 (w o1 0)) o0 1 ((wst w o0 0 (w o1 0)) o1 1)) o1 2)) o1 3)) o1 4)) o1 5)) o0 6 ((wst (wst (wst (wst (wst (wst w o0 0 (w o1 0)) o0 1 ((wst w o0 0 (w o1 0)) o1 1)) o0 2 ((wst (wst w o0 0 (w o1 0)) o0 1 ((wst w o0 0 (w o1 0)) o1 1)) o1 2)) o0 3 ((wst (wst (wst w o0 0 (w o1 0)) o0 1 ((wst w o0 0 (w o1 0)) o1 1)) o0 2 ((wst (wst w o0 0 (w o1 0)) o0 1 ((wst w o0 0 (w o1 0)) o1 1)) o1 2)) o1 3)) o0 4 ((wst (wst (wst (wst w o0 0 (w o1 0)) o0 1 ((wst w o0 0 (w o1 0)) o1 1)) o0 2 ((wst (wst w o0 0 (w o1 0)) o0 1 ((wst w o0 0 (w o1 0)) o1 1)) o1 2)) o0 3 ((wst (wst (wst w o0 0 (w o1 0)) o0 1 ((wst w o0 0 (w o1 0)) o1 1)) o0 2 ((wst (wst w o0 0 (w o1 0)) o0 1 ((wst w o0 0 (w o1 0)) o1 1)) o1 2)) o1 3)) o1 4)) o0 5 ((wst (wst (wst (wst (wst w o0 0 (w o1 0)) o0 1 ((wst w o0 0 (w o1 0)) o1 1)) o0 2 ((wst (wst w o0 0 (w o1 0)) o0 1 ((wst w o0 0 (w o1 0)) o1 1)) o1 2)) o0 3 ((wst (wst (wst w o0 0 (w o1 0)) o0 1 ((wst w o0 0 (w o1 0)) o1 1)) o0 2 ((wst (wst w o0 0 (w o1 0)) o0 1 ((wst w o0 0 (w o1 0)) o1 1)) o1 2)) o1 3)) o0 4 ((wst (wst (wst (wst w o0 0 (w o1 0)) o0 1 ((wst w o0 0 (w o1 0)) o1 1)) o0 2 ((wst (wst w o0 0 (w o1 0)) o0 1 ((wst w o0 0 (w o1 0)) o1 1)) o1 2)) o0 3 ((wst (wst (wst w o0 0 (w o1 0)) o0 1 ((wst w o0 0 (w o1 0)) o1 1)) o0 2 ((wst (wst w o0 0 (w o1 0)) o0 1 ((wst w o0 0 (w o1 0)) o1 1)) o1 2)) o1 3)) o1 4)) o1 5)) o1 6)) o1 7)) o0 8 ((wst (wst (wst (wst (wst (wst (wst (wst w o0 0 (w o1 0)) o0 1 ((wst w o0 0 (w o1 0)) o1 1)) o0 2 ((wst (wst w o0 0 (w o1 0)) o0 1 ((wst w o0 0 (w o1 0)) o1 1)) o1 2)) o0 3 ((wst (wst (wst w o0 0 (w o1 0)) o0 1 ((wst w o0 0 (w o1 0)) o1 1)) o0 2 ((wst (wst w o0 0 (w o1 0)) o0 1 ((wst w o0 0 (w o1 0)) o1 1)) o1 2)) o1 3)) o0 4 ((wst (wst (wst (wst w o0 0 (w o1 0)) o0 1 ((wst w o0 0 (w o1 0)) o1 1)) o0 2 ((wst (wst w o0 0 (w o1 0)) o0 1 ((wst w o0 0 (w o1 0)) o1 1)) o1 2)) o0 3 ((wst (wst (wst w o0 0 (w o1 0)) o0 1 ((wst w o0 0 (w o1 0)) o1 1)) o0 2 ((wst (wst w o0 0 (w o1 0)) o0 1 ((wst w o0 0 (w o1 0)) o1 1)) o1 2)) o1 3)) o1 4)) o0 5 ((wst (wst (wst (wst (wst w o0 0 (w o1 0)) o0 1 ((wst w o0 0 (w o1 0)) o1 1)) o0 2 ((wst (wst w o0 0 (w o1 0)) o0 1 ((wst w o0 0 (w o1 0)) o1 1)) o1 2)) o0 3 ((wst (wst (wst w o0 0 (w o1 0)) o0 1 ((wst w o0 0 (w o1 0)) o1 1)) o0 2 ((wst (wst w o0 0 (w o1 0)) o0 1 ((wst w o0 0 (w o1 0)) o1 1)) o1 2)) o1 3)) o0 4 ((wst (wst (wst (wst w o0 0 (w o1 0)) o0 1 ((wst w o0 0 (w o1 0)) o1 1)) o0 2 ((wst (wst w o0 0 (w o1 0)) o0 1 ((wst w o0 0 (w o1 0)) o1 1)) o1 2)) o0 3 ((wst (wst (wst w o0 0 (w o1 0)) o0 1 ((wst w o0 0 (w o1 0)) o1 1)) o0 2 ((wst (wst w o0 0 (w o1 0)) o0 1 ((wst w o0 0 (w o1 0)) o1 1)) o1 2)) o1 3)) o1 4)) o1 5)) o0 6 ((wst (wst (wst (wst (wst (wst w o0 0 (w o1 0)) o0 1 ((wst w o0 0 (w o1 0)) o1 1)) o0 2 ((wst (wst w o0 0 (w o1 0)) o0 1 ((wst w o0 0 (w o1 0)) o1 1)) o1 2)) o0 3 ((wst (wst (wst w o0 0 (w o1 0)) o0 1 ((wst w o0 0 (w o1 0)) o1 1)) o0 2 ((wst (wst w o0 0 (w o1 0)) o0 1 ((wst w o0 0 (w o1 0)) o1 1)) o1 2)) o1 3)) o0 4 ((wst (wst (wst (wst w o0 0 (w o1 0)) o0 1 ((wst w o0 0 (w o1 0)) o1 1)) o0 2 ((wst (wst w o0 0 (w o1 0)) o0 1 ((wst w o0 0 (w o1 0)) o1 1)) o1 2)) o0 3 ((wst (wst (wst w o0 0 (w o1 0)) o0 1 ((wst w o0 0 (w o1 0)) o1 1)) o0 2 ((wst (wst w o0 0 (w o1 0)) o0 1 ((wst w o0 0 (w o1 0)) o1 1)) o1 2)) o1 3)) o1 4)) o0 5 ((wst (wst (wst (wst (wst w o0 0 (w o1 0)) o0 1 ((wst w o0 0 (w o1 0)) o1 1)) o0 2 ((wst (wst w o0 0 (w o1 0)) o0 1 ((wst w o0 0 (w o1 0)) o1 1)) o1 2)) o0 3 ((wst (wst (wst w o0 0 (w o1 0)) o0 1 ((wst w o0 0 (w o1 0)) o1 1)) o0 2 ((wst (wst w o0 0 (w o1 0)) o0 1 ((wst w o0 0 (w o1 0)) o1 1)) o1 2)) o1 3)) o0 4 ((wst (wst (wst (wst w o0 0 (w o1 0)) o0 1 ((wst w o0 0 (w o1 0)) o1 1)) o0 2 ((wst (wst w o0 0 (w o1 0)) o0 1 ((wst w o0 0 (w o1 0)) o1 1)) o1 2)) o0 3 ((wst (wst (wst w o0 0 (w o1 0)) o0 1 ((wst w o0 0 (w o1 0)) o1 1)) o0 2 ((wst (wst w o0 0 (w o1 0)) o0 1 ((wst w o0 0 (w o1 0)) o1 1)) o1 2)) o1 3)) o1 4)) o1 5)) o1 6)) o0 7 ((wst (wst (wst (wst (wst (wst (wst w o0 0 (w o1 0)) o0 1 ((wst w o0 0 (w o1 0)) o1 1)) o0 2 ((wst (wst w o0 0 (w o1 0)) o0 1 ((wst w o0 0 (w o1 0)) o1 1)) o1 2)) o0 3 ((wst (wst (wst w o0 0 (w o1 0)) o0 1 ((wst w o0 0 (w o1 0)) o1 1)) o0 2 ((wst (wst w o0 0 (w o1 0)) o0 1 ((wst w o0 0 (w o1 0)) o1 1)) o1 2)) o1 3)) o0 4 ((wst (wst (wst (wst w o0 0 (w o1 0)) o0 1 ((wst w o0 0 (w o1 0)) o1 1)) o0 2 ((wst (wst w o0 0 (w o1 0)) o0 1 ((wst w o0 0 (w o1 0)) o1 1)) o1 2)) o0 3 ((wst (wst (wst w o0 0 (w o1 0)) o0 1 ((wst w o0 0 (w o1 0)) o1 1)) o0 2 ((wst (wst w o0 0 (w o1 0)) o0 1 ((wst w o0 0 (w o1 0)) o1 1)) o1 2)) o1 3)) o1 4)) o0 5 ((wst (wst (wst (wst (wst w o0 0 (w o1 0)) o0 1 ((wst w o0 0 (w o1 0)) o1 1)) o0 2 ((wst (wst w o0 0 (w o1 0)) o0 1 ((wst w o0 0 (w o1 0)) o1 1)) o1 2)) o0 3 ((wst (wst (wst w o0 0 (w o1 0)) o0 1 ((wst w o0 0 (w o1 0)) o1 1)) o0 2 ((wst (wst w o0 0 (w o1 0)) o0 1 ((wst w o0 0 (w o1 0)) o1 1)) o1 2)) o1 3)) o0 4 ((wst (wst (wst (wst w o0 0 (w o1 0)) o0 1 ((wst w o0 0 (w o1 0)) o1 1)) o0 2 ((wst (wst w o0 0 (w o1 0)) o0 1 ((wst w o0 0 (w o1 0)) o1 1)) o1 2)) o0 3 ((wst (wst (wst w o0 0 (w o1 0)) o0 1 ((wst w o0 0 (w o1 0)) o1 1)) o0 2 ((wst (wst w o0 0 (w o1 0)) o0 1 ((wst w o0 0 (w o1 0)) o1 1)) o1 2)) o1 3)) o1 4)) o1 5)) o0 6 ((wst (wst (wst (wst (wst (wst w o0 0 (w o1 0)) o0 1 ((wst w o0 0 (w o1 0)) o1 1)) o0 2 ((wst (wst w o0 0 (w o1 0)) o0 1 ((wst w o0 0 (w o1 0)) o1 1)) o1 2)) o0 3 ((wst (wst (wst w o0 0 (w o1 0)) o0 1 ((wst w o0 0 (w o1 0)) o1 1)) o0 2 ((wst (wst w o0 0 (w o1 0)) o0 1 ((wst w o0 0 (w o1 0)) o1 1)) o1 2)) o1 3)) o0 4 ((wst (wst (wst (wst w o0 0 (w o1 0)) o0 1 ((wst w o0 0 (w o1 0)) o1 1)) o0 2 ((wst (wst w o0 0 (w o1 0)) o0 1 ((wst w o0 0 (w o1 0)) o1 1)) o1 2)) o0 3 ((wst (wst (wst w o0 0 (w o1 0)) o0 1 ((wst w o0 0 (w o1 0)) o1 1)) o0 2 ((wst (wst w o0 0 (w o1 0)) o0 1 ((wst w o0 0 (w o1 0)) o1 1)) o1 2)) o1 3)) o1 4)) o0 5 ((wst (wst (wst (wst (wst w o0 0 (w o1 0)) o0 1 ((wst w o0 0 (w o1 0)) o1 1)) o0 2 ((wst (wst w o0 0 (w o1 0)) o0 1 ((wst w o0 0 (w o1 0)) o1 1)) o1 2)) o0 3 ((wst (wst (wst w o0 0 (w o1 0)) o0 1 ((wst w o0 0 (w o1 0)) o1 1)) o0 2 ((wst (wst w o0 0 (w o1 0)) o0 1 ((wst w o0 0 (w o1 0)) o1 1)) o1 2)) o1 3)) o0 4 ((wst (wst (wst (wst w o0 0 (w o1 0)) o0 1 ((wst w o0 0 (w o1 0)) o1 1)) o0 2 ((wst (wst w o0 0 (w o1 0)) o0 1 ((wst w o0 0 (w o1 0)) o1 1)) o1 2)) o0 3 ((wst (wst (wst w o0 0 (w o1 0)) o0 1 ((wst w o0 0 (w o1 0)) o1 1)) o0 2 ((wst (wst w o0 0 (w o1 0)) o0 1 ((wst w o0 0 (w o1 0)) o1 1)) o1 2)) o1 3)) o1 4)) o1 5)) o1 6)) o1 7)) o1 8)) o1 9)) else none
theorem kX3_copyFrom {l : Launch} {Γ : Gl} {B : Bs} {w : Wl} {G : Gf} {sz : Nat} {o0 : Nat} {o1 : Nat} {r : Wl} (ho0 : kd o0 = 9) (ho1 : kd o1 = 9) (hW : Wd Γ B w G) (h : sX3_copyFrom w o0 o1 = some r) : CtW l Γ yX3_copyFrom cX3_copyFrom 2 none 0 [.ref (B.1 + o0), .ref (B.1 + o1)] G sz B none r := by
  refine Ct.of rfl (Nat.le_of_ble_eq_true rfl) fun X hx hr hl hΓ hnm => ?_
  subst hl hΓ
  show J X 2 G sz 0 0 0 [some (.ref (B.1 + o0)), some (.ref (B.1 + o1))] []
  unfold sX3_copyFrom at h
  refine J_al4 hx rfl rfl dX3_copyFrom_0 ?_
  refine J_al4 hx rfl rfl dX3_copyFrom_1 ?_
  refine g3_0 hx hW ho1 fl_X3_9 dX3_copyFrom_2 ?_
  refine p3_0 hx hW ho0 fl_X3_9 dX3_copyFrom_5 fun G1 hW2 => ?_
  refine J_al4 hx rfl rfl dX3_copyFrom_8 ?_
  refine J_al4 hx rfl rfl dX3_copyFrom_9 ?_
  refine g3_1 hx hW2 ho1 fl_X3_15 dX3_copyFrom_10 ?_
  obtain ⟨hz5, h⟩ := grd h
  refine p3_1 hx hW2 ho0 fl_X3_15 hz5 dX3_copyFrom_13 fun G3 hW4 => ?_
  refine J_al4 hx rfl rfl dX3_copyFrom_16 ?_
  refine J_al4 hx rfl rfl dX3_copyFrom_17 ?_
  refine g3_2 hx hW4 ho1 fl_X3_19 dX3_copyFrom_18 ?_
  refine p3_2 hx hW4 ho0 fl_X3_19 dX3_copyFrom_21 fun G6 hW7 => ?_
  refine J_al4 hx rfl rfl dX3_copyFrom_24 ?_
  refine J_al4 hx rfl rfl dX3_copyFrom_25 ?_
  refine g3_3 hx hW7 ho1 fl_X3_22 dX3_copyFrom_26 ?_
  refine p3_3 hx hW7 ho0 fl_X3_22 dX3_copyFrom_29 fun G8 hW9 => ?_
  refine J_al4 hx rfl rfl dX3_copyFrom_32 ?_
  refine J_al4 hx rfl rfl dX3_copyFrom_33 ?_
  refine g3_4 hx hW9 ho1 fl_X3_25 dX3_copyFrom_34 ?_
  refine p3_4 hx hW9 ho0 fl_X3_25 dX3_copyFrom_37 fun G10 hW11 => ?_
  refine J_al4 hx rfl rfl dX3_copyFrom_40 ?_
  refine J_al4 hx rfl rfl dX3_copyFrom_41 ?_
  refine g3_5 hx hW11 ho1 fl_X3_28 dX3_copyFrom_42 ?_
  refine p3_5 hx hW11 ho0 fl_X3_28 dX3_copyFrom_45 fun G12 hW13 => ?_
  refine J_al4 hx rfl rfl dX3_copyFrom_48 ?_
  refine J_al4 hx rfl rfl dX3_copyFrom_49 ?_
  refine g3_6 hx hW13 ho1 fl_X3_31 dX3_copyFrom_50 ?_
  refine p3_6 hx hW13 ho0 fl_X3_31 dX3_copyFrom_53 fun G14 hW15 => ?_
  refine J_al4 hx rfl rfl dX3_copyFrom_56 ?_
  refine J_al4 hx rfl rfl dX3_copyFrom_57 ?_
  refine g3_7 hx hW15 ho1 fl_X3_34 dX3_copyFrom_58 ?_
  refine p3_7 hx hW15 ho0 fl_X3_34 dX3_copyFrom_61 fun G16 hW17 => ?_
  refine J_al4 hx rfl rfl dX3_copyFrom_64 ?_
  refine J_al4 hx rfl rfl dX3_copyFrom_65 ?_
  refine g3_8 hx hW17 ho1 fl_X3_37 dX3_copyFrom_66 ?_
  refine p3_8 hx hW17 ho0 fl_X3_37 dX3_copyFrom_69 fun G18 hW19 => ?_
  refine J_al4 hx rfl rfl dX3_copyFrom_72 ?_
  refine J_al4 hx rfl rfl dX3_copyFrom_73 ?_
  refine g3_9 hx hW19 ho1 fl_X3_40 dX3_copyFrom_74 ?_
  refine p3_9 hx hW19 ho0 fl_X3_40 dX3_copyFrom_77 fun G20 hW21 => ?_
  obtain rfl := Option.some.inj h
  exact J_vretW hx hr hW21 dX3_copyFrom_80 (Nat.le_refl 0) (Nat.le_refl 0)
theorem dX3_standAt_0 : decode cX3_standAt 0 = .ok (.aload_n 0, 1) := by decide +kernel
theorem dX3_standAt_1 : decode cX3_standAt 1 = .ok (.iconst (-1), 1) := by decide +kernel
theorem dX3_standAt_2 : decode cX3_standAt 2 = .ok (.putfield 19, 3) := by decide +kernel
theorem dX3_standAt_5 : decode cX3_standAt 5 = .ok (.aload_n 0, 1) := by decide +kernel
theorem dX3_standAt_6 : decode cX3_standAt 6 = .ok (.iload_n 1, 1) := by decide +kernel
theorem dX3_standAt_7 : decode cX3_standAt 7 = .ok (.putfield 22, 3) := by decide +kernel
theorem dX3_standAt_10 : decode cX3_standAt 10 = .ok (.aload_n 0, 1) := by decide +kernel
theorem dX3_standAt_11 : decode cX3_standAt 11 = .ok (.iconst (-1), 1) := by decide +kernel
theorem dX3_standAt_12 : decode cX3_standAt 12 = .ok (.putfield 25, 3) := by decide +kernel
theorem dX3_standAt_15 : decode cX3_standAt 15 = .ok (.aload_n 0, 1) := by decide +kernel
theorem dX3_standAt_16 : decode cX3_standAt 16 = .ok (.iconst (-1), 1) := by decide +kernel
theorem dX3_standAt_17 : decode cX3_standAt 17 = .ok (.putfield 28, 3) := by decide +kernel
theorem dX3_standAt_20 : decode cX3_standAt 20 = .ok (.aload_n 0, 1) := by decide +kernel
theorem dX3_standAt_21 : decode cX3_standAt 21 = .ok (.iconst (-1), 1) := by decide +kernel
theorem dX3_standAt_22 : decode cX3_standAt 22 = .ok (.putfield 31, 3) := by decide +kernel
theorem dX3_standAt_25 : decode cX3_standAt 25 = .ok (.return_, 1) := by decide +kernel
def sX3_standAt (w : Wl) (o0 : Nat) (l1 : Int32) : Option Wl := some (wst (wst (wst (wst (wst w o0 2 (-1 : Int32)) o0 3 l1) o0 4 (-1 : Int32)) o0 5 (-1 : Int32)) o0 6 (-1 : Int32))
theorem kX3_standAt {l : Launch} {Γ : Gl} {B : Bs} {w : Wl} {G : Gf} {sz : Nat} {o0 : Nat} {l1 : Int32} {r : Wl} (ho0 : kd o0 = 9) (hW : Wd Γ B w G) (h : sX3_standAt w o0 l1 = some r) : CtW l Γ yX3_standAt cX3_standAt 2 none 0 [.ref (B.1 + o0), .int l1] G sz B none r := by
  refine Ct.of rfl (Nat.le_of_ble_eq_true rfl) fun X hx hr hl hΓ hnm => ?_
  subst hl hΓ
  show J X 2 G sz 0 0 0 [some (.ref (B.1 + o0)), some (.int l1)] []
  unfold sX3_standAt at h
  refine J_al4 hx rfl rfl dX3_standAt_0 ?_
  refine J_iconst hx (-1 : Int32) dX3_standAt_1 rfl ?_
  refine p3_2 hx hW ho0 fl_X3_19 dX3_standAt_2 fun G1 hW2 => ?_
  refine J_al4 hx rfl rfl dX3_standAt_5 ?_
  refine J_il4 hx rfl rfl dX3_standAt_6 ?_
  refine p3_3 hx hW2 ho0 fl_X3_22 dX3_standAt_7 fun G3 hW4 => ?_
  refine J_al4 hx rfl rfl dX3_standAt_10 ?_
  refine J_iconst hx (-1 : Int32) dX3_standAt_11 rfl ?_
  refine p3_4 hx hW4 ho0 fl_X3_25 dX3_standAt_12 fun G5 hW6 => ?_
  refine J_al4 hx rfl rfl dX3_standAt_15 ?_
  refine J_iconst hx (-1 : Int32) dX3_standAt_16 rfl ?_
  refine p3_5 hx hW6 ho0 fl_X3_28 dX3_standAt_17 fun G7 hW8 => ?_
  refine J_al4 hx rfl rfl dX3_standAt_20 ?_
  refine J_iconst hx (-1 : Int32) dX3_standAt_21 rfl ?_
  refine p3_6 hx hW8 ho0 fl_X3_31 dX3_standAt_22 fun G9 hW10 => ?_
  obtain rfl := Option.some.inj h
  exact J_vretW hx hr hW10 dX3_standAt_25 (Nat.le_refl 0) (Nat.le_refl 0)
theorem dX9_copyFrom_0 : decode cX9_copyFrom 0 = .ok (.aload_n 0, 1) := by decide +kernel
theorem dX9_copyFrom_1 : decode cX9_copyFrom 1 = .ok (.aload_n 1, 1) := by decide +kernel
theorem dX9_copyFrom_2 : decode cX9_copyFrom 2 = .ok (.getfield 15, 3) := by decide +kernel
theorem dX9_copyFrom_5 : decode cX9_copyFrom 5 = .ok (.putfield 15, 3) := by decide +kernel
theorem dX9_copyFrom_8 : decode cX9_copyFrom 8 = .ok (.aload_n 0, 1) := by decide +kernel
theorem dX9_copyFrom_9 : decode cX9_copyFrom 9 = .ok (.aload_n 1, 1) := by decide +kernel
theorem dX9_copyFrom_10 : decode cX9_copyFrom 10 = .ok (.getfield 19, 3) := by decide +kernel
theorem dX9_copyFrom_13 : decode cX9_copyFrom 13 = .ok (.putfield 19, 3) := by decide +kernel
theorem dX9_copyFrom_16 : decode cX9_copyFrom 16 = .ok (.aload_n 0, 1) := by decide +kernel
theorem dX9_copyFrom_17 : decode cX9_copyFrom 17 = .ok (.aload_n 1, 1) := by decide +kernel
theorem dX9_copyFrom_18 : decode cX9_copyFrom 18 = .ok (.getfield 22, 3) := by decide +kernel
theorem dX9_copyFrom_21 : decode cX9_copyFrom 21 = .ok (.putfield 22, 3) := by decide +kernel
theorem dX9_copyFrom_24 : decode cX9_copyFrom 24 = .ok (.aload_n 0, 1) := by decide +kernel
theorem dX9_copyFrom_25 : decode cX9_copyFrom 25 = .ok (.aload_n 1, 1) := by decide +kernel
theorem dX9_copyFrom_26 : decode cX9_copyFrom 26 = .ok (.getfield 25, 3) := by decide +kernel
theorem dX9_copyFrom_29 : decode cX9_copyFrom 29 = .ok (.putfield 25, 3) := by decide +kernel
theorem dX9_copyFrom_32 : decode cX9_copyFrom 32 = .ok (.aload_n 0, 1) := by decide +kernel
theorem dX9_copyFrom_33 : decode cX9_copyFrom 33 = .ok (.aload_n 1, 1) := by decide +kernel
theorem dX9_copyFrom_34 : decode cX9_copyFrom 34 = .ok (.getfield 28, 3) := by decide +kernel
theorem dX9_copyFrom_37 : decode cX9_copyFrom 37 = .ok (.putfield 28, 3) := by decide +kernel
theorem dX9_copyFrom_40 : decode cX9_copyFrom 40 = .ok (.aload_n 1, 1) := by decide +kernel
theorem dX9_copyFrom_41 : decode cX9_copyFrom 41 = .ok (.getfield 9, 3) := by decide +kernel
theorem dX9_copyFrom_44 : decode cX9_copyFrom 44 = .ok (.iconst 0, 1) := by decide +kernel
theorem dX9_copyFrom_45 : decode cX9_copyFrom 45 = .ok (.aload_n 0, 1) := by decide +kernel
theorem dX9_copyFrom_46 : decode cX9_copyFrom 46 = .ok (.getfield 9, 3) := by decide +kernel
theorem dX9_copyFrom_49 : decode cX9_copyFrom 49 = .ok (.iconst 0, 1) := by decide +kernel
theorem dX9_copyFrom_50 : decode cX9_copyFrom 50 = .ok (.bipush 8, 2) := by decide +kernel
theorem dX9_copyFrom_52 : decode cX9_copyFrom 52 = .ok (.invokestatic 31, 3) := by decide +kernel
theorem dX9_copyFrom_55 : decode cX9_copyFrom 55 = .ok (.return_, 1) := by decide +kernel
def sX9_copyFrom (w : Wl) (o0 : Nat) (o1 : Nat) : Option Wl := some (wrow (wst (wst (wst (wst (wst w o0 0 (w o1 0)) o0 1 ((wst w o0 0 (w o1 0)) o1 1)) o0 2 ((wst (wst w o0 0 (w o1 0)) o0 1 ((wst w o0 0 (w o1 0)) o1 1)) o1 2)) o0 3 ((wst (wst (wst w o0 0 (w o1 0)) o0 1 ((wst w o0 0 (w o1 0)) o1 1)) o0 2 ((wst (wst w o0 0 (w o1 0)) o0 1 ((wst w o0 0 (w o1 0)) o1 1)) o1 2)) o1 3)) o0 4 ((wst (wst (wst (wst w o0 0 (w o1 0)) o0 1 ((wst w o0 0 (w o1 0)) o1 1)) o0 2 ((wst (wst w o0 0 (w o1 0)) o0 1 ((wst w o0 0 (w o1 0)) o1 1)) o1 2)) o0 3 ((wst (wst (wst w o0 0 (w o1 0)) o0 1 ((wst w o0 0 (w o1 0)) o1 1)) o0 2 ((wst (wst w o0 0 (w o1 0)) o0 1 ((wst w o0 0 (w o1 0)) o1 1)) o1 2)) o1 3)) o1 4)) (o0 + 1) (va_cpy ((wst (wst (wst (wst (wst w o0 0 (w o1 0)) o0 1 ((wst w o0 0 (w o1 0)) o1 1)) o0 2 ((wst (wst w o0 0 (w o1 0)) o0 1 ((wst w o0 0 (w o1 0)) o1 1)) o1 2)) o0 3 ((wst (wst (wst w o0 0 (w o1 0)) o0 1 ((wst w o0 0 (w o1 0)) o1 1)) o0 2 ((wst (wst w o0 0 (w o1 0)) o0 1 ((wst w o0 0 (w o1 0)) o1 1)) o1 2)) o1 3)) o0 4 ((wst (wst (wst (wst w o0 0 (w o1 0)) o0 1 ((wst w o0 0 (w o1 0)) o1 1)) o0 2 ((wst (wst w o0 0 (w o1 0)) o0 1 ((wst w o0 0 (w o1 0)) o1 1)) o1 2)) o0 3 ((wst (wst (wst w o0 0 (w o1 0)) o0 1 ((wst w o0 0 (w o1 0)) o1 1)) o0 2 ((wst (wst w o0 0 (w o1 0)) o0 1 ((wst w o0 0 (w o1 0)) o1 1)) o1 2)) o1 3)) o1 4)) (o1 + 1)) ((wst (wst (wst (wst (wst w o0 0 (w o1 0)) o0 1 ((wst w o0 0 (w o1 0)) o1 1)) o0 2 ((wst (wst w o0 0 (w o1 0)) o0 1 ((wst w o0 0 (w o1 0)) o1 1)) o1 2)) o0 3 ((wst (wst (wst w o0 0 (w o1 0)) o0 1 ((wst w o0 0 (w o1 0)) o1 1)) o0 2 ((wst (wst w o0 0 (w o1 0)) o0 1 ((wst w o0 0 (w o1 0)) o1 1)) o1 2)) o1 3)) o0 4 ((wst (wst (wst (wst w o0 0 (w o1 0)) o0 1 ((wst w o0 0 (w o1 0)) o1 1)) o0 2 ((wst (wst w o0 0 (w o1 0)) o0 1 ((wst w o0 0 (w o1 0)) o1 1)) o1 2)) o0 3 ((wst (wst (wst w o0 0 (w o1 0)) o0 1 ((wst w o0 0 (w o1 0)) o1 1)) o0 2 ((wst (wst w o0 0 (w o1 0)) o0 1 ((wst w o0 0 (w o1 0)) o1 1)) o1 2)) o1 3)) o1 4)) (o0 + 1)) 0 0 8))
theorem kX9_copyFrom {l : Launch} {Γ : Gl} {B : Bs} {w : Wl} {G : Gf} {sz : Nat} {o0 : Nat} {o1 : Nat} {r : Wl} (ho0 : kd o0 = 8) (ho1 : kd o1 = 8) (hW : Wd Γ B w G) (h : sX9_copyFrom w o0 o1 = some r) : CtW l Γ yX9_copyFrom cX9_copyFrom 2 none 1 [.ref (B.1 + o0), .ref (B.1 + o1)] G sz B none r := by
  refine Ct.of rfl (Nat.le_of_ble_eq_true rfl) fun X hx hr hl hΓ hnm => ?_
  subst hl hΓ
  show J X 2 G sz 0 0 0 [some (.ref (B.1 + o0)), some (.ref (B.1 + o1))] []
  unfold sX9_copyFrom at h
  refine J_al4 hx rfl rfl dX9_copyFrom_0 ?_
  refine J_al4 hx rfl rfl dX9_copyFrom_1 ?_
  refine g9_0 hx hW ho1 fl_X9_15 dX9_copyFrom_2 ?_
  refine p9_0 hx hW ho0 fl_X9_15 dX9_copyFrom_5 fun G1 hW2 => ?_
  refine J_al4 hx rfl rfl dX9_copyFrom_8 ?_
  refine J_al4 hx rfl rfl dX9_copyFrom_9 ?_
  refine g9_1 hx hW2 ho1 fl_X9_19 dX9_copyFrom_10 ?_
  refine p9_1 hx hW2 ho0 fl_X9_19 dX9_copyFrom_13 fun G3 hW4 => ?_
  refine J_al4 hx rfl rfl dX9_copyFrom_16 ?_
  refine J_al4 hx rfl rfl dX9_copyFrom_17 ?_
  refine g9_2 hx hW4 ho1 fl_X9_22 dX9_copyFrom_18 ?_
  refine p9_2 hx hW4 ho0 fl_X9_22 dX9_copyFrom_21 fun G5 hW6 => ?_
  refine J_al4 hx rfl rfl dX9_copyFrom_24 ?_
  refine J_al4 hx rfl rfl dX9_copyFrom_25 ?_
  refine g9_3 hx hW6 ho1 fl_X9_25 dX9_copyFrom_26 ?_
  refine p9_3 hx hW6 ho0 fl_X9_25 dX9_copyFrom_29 fun G7 hW8 => ?_
  refine J_al4 hx rfl rfl dX9_copyFrom_32 ?_
  refine J_al4 hx rfl rfl dX9_copyFrom_33 ?_
  refine g9_4 hx hW8 ho1 fl_X9_28 dX9_copyFrom_34 ?_
  refine p9_4 hx hW8 ho0 fl_X9_28 dX9_copyFrom_37 fun G9 hW10 => ?_
  refine J_al4 hx rfl rfl dX9_copyFrom_40 ?_
  refine g9_5 hx hW10 (o1 + 1) ho1 fl_X9_9 rfl dX9_copyFrom_41 ?_
  refine J_iconst hx (0 : Int32) dX9_copyFrom_44 rfl ?_
  refine J_al4 hx rfl rfl dX9_copyFrom_45 ?_
  refine g9_5 hx hW10 (o0 + 1) ho0 fl_X9_9 rfl dX9_copyFrom_46 ?_
  refine J_iconst hx (0 : Int32) dX9_copyFrom_49 rfl ?_
  refine J_bipush hx (8 : Int32) dX9_copyFrom_50 rfl ?_
  refine J_cpW hx hW10 ml_X9_31 (kd8 ho1) (kd8 ho0) 0 0 8 (by decide) (by decide) (by decide) rfl rfl rfl (by decide) (by decide) (by decide) (Nat.le_of_ble_eq_true rfl) dX9_copyFrom_52 fun G11 hW12 => ?_
  obtain rfl := Option.some.inj h
  exact J_vretW hx hr hW12 dX9_copyFrom_55 (Nat.le_refl 0) (Nat.le_refl 0)
theorem dX11_notePlace_0 : decode cX11_notePlace 0 = .ok (.aload_n 0, 1) := by decide +kernel
theorem dX11_notePlace_1 : decode cX11_notePlace 1 = .ok (.getfield 9, 3) := by decide +kernel
theorem dX11_notePlace_4 : decode cX11_notePlace 4 = .ok (.iconst 0, 1) := by decide +kernel
theorem dX11_notePlace_5 : decode cX11_notePlace 5 = .ok (.aload_n 0, 1) := by decide +kernel
theorem dX11_notePlace_6 : decode cX11_notePlace 6 = .ok (.getfield 9, 3) := by decide +kernel
theorem dX11_notePlace_9 : decode cX11_notePlace 9 = .ok (.iconst 1, 1) := by decide +kernel
theorem dX11_notePlace_10 : decode cX11_notePlace 10 = .ok (.bipush 9, 2) := by decide +kernel
theorem dX11_notePlace_12 : decode cX11_notePlace 12 = .ok (.invokestatic 41, 3) := by decide +kernel
theorem dX11_notePlace_15 : decode cX11_notePlace 15 = .ok (.aload_n 0, 1) := by decide +kernel
theorem dX11_notePlace_16 : decode cX11_notePlace 16 = .ok (.getfield 9, 3) := by decide +kernel
theorem dX11_notePlace_19 : decode cX11_notePlace 19 = .ok (.iconst 0, 1) := by decide +kernel
theorem dX11_notePlace_20 : decode cX11_notePlace 20 = .ok (.iload_n 1, 1) := by decide +kernel
theorem dX11_notePlace_21 : decode cX11_notePlace 21 = .ok (.iastore, 1) := by decide +kernel
theorem dX11_notePlace_22 : decode cX11_notePlace 22 = .ok (.aload_n 0, 1) := by decide +kernel
theorem dX11_notePlace_23 : decode cX11_notePlace 23 = .ok (.aload_n 0, 1) := by decide +kernel
theorem dX11_notePlace_24 : decode cX11_notePlace 24 = .ok (.getfield 38, 3) := by decide +kernel
theorem dX11_notePlace_27 : decode cX11_notePlace 27 = .ok (.iconst 1, 1) := by decide +kernel
theorem dX11_notePlace_28 : decode cX11_notePlace 28 = .ok (.iadd, 1) := by decide +kernel
theorem dX11_notePlace_29 : decode cX11_notePlace 29 = .ok (.bipush 10, 2) := by decide +kernel
theorem dX11_notePlace_31 : decode cX11_notePlace 31 = .ok (.invokestatic 47, 3) := by decide +kernel
theorem dX11_notePlace_34 : decode cX11_notePlace 34 = .ok (.putfield 38, 3) := by decide +kernel
theorem dX11_notePlace_37 : decode cX11_notePlace 37 = .ok (.return_, 1) := by decide +kernel
def sX11_notePlace (w : Wl) (o0 : Nat) (l1 : Int32) : Option Wl := some (wst (wst (wrow w (o0 + 1) (va_cpy (w (o0 + 1)) (w (o0 + 1)) 0 1 9)) (o0 + 1) 0 l1) o0 7 (if (10 : Int32) < (((wst (wrow w (o0 + 1) (va_cpy (w (o0 + 1)) (w (o0 + 1)) 0 1 9)) (o0 + 1) 0 l1) o0 7) + (1 : Int32)) then (10 : Int32) else (((wst (wrow w (o0 + 1) (va_cpy (w (o0 + 1)) (w (o0 + 1)) 0 1 9)) (o0 + 1) 0 l1) o0 7) + (1 : Int32))))
theorem kX11_notePlace {l : Launch} {Γ : Gl} {B : Bs} {w : Wl} {G : Gf} {sz : Nat} {o0 : Nat} {l1 : Int32} {r : Wl} (ho0 : kd o0 = 10) (hW : Wd Γ B w G) (h : sX11_notePlace w o0 l1 = some r) : CtW l Γ yX11_notePlace cX11_notePlace 2 none 1 [.ref (B.1 + o0), .int l1] G sz B none r := by
  refine Ct.of rfl (Nat.le_of_ble_eq_true rfl) fun X hx hr hl hΓ hnm => ?_
  subst hl hΓ
  show J X 2 G sz 0 0 0 [some (.ref (B.1 + o0)), some (.int l1)] []
  unfold sX11_notePlace at h
  refine J_al4 hx rfl rfl dX11_notePlace_0 ?_
  refine g11_8 hx hW (o0 + 1) ho0 fl_X11_9 rfl dX11_notePlace_1 ?_
  refine J_iconst hx (0 : Int32) dX11_notePlace_4 rfl ?_
  refine J_al4 hx rfl rfl dX11_notePlace_5 ?_
  refine g11_8 hx hW (o0 + 1) ho0 fl_X11_9 rfl dX11_notePlace_6 ?_
  refine J_iconst hx (1 : Int32) dX11_notePlace_9 rfl ?_
  refine J_bipush hx (9 : Int32) dX11_notePlace_10 rfl ?_
  refine J_cpW hx hW ml_X11_41 (kd10 ho0) (kd10 ho0) 0 1 9 (by decide) (by decide) (by decide) rfl rfl rfl (by decide) (by decide) (by decide) (Nat.le_of_ble_eq_true rfl) dX11_notePlace_12 fun G1 hW2 => ?_
  refine J_al4 hx rfl rfl dX11_notePlace_15 ?_
  refine g11_8 hx hW2 (o0 + 1) ho0 fl_X11_9 rfl dX11_notePlace_16 ?_
  refine J_iconst hx (0 : Int32) dX11_notePlace_19 rfl ?_
  refine J_il4 hx rfl rfl dX11_notePlace_20 ?_
  refine J_iaS hx hW2 (kd10 ho0) (by decide +kernel : idx (0 : Int32) 10 = some 0) dX11_notePlace_21 fun G3 hW4 => ?_
  refine J_al4 hx rfl rfl dX11_notePlace_22 ?_
  refine J_al4 hx rfl rfl dX11_notePlace_23 ?_
  refine g11_7 hx hW4 ho0 fl_X11_38 dX11_notePlace_24 ?_
  refine J_iconst hx (1 : Int32) dX11_notePlace_27 rfl ?_
  refine J_iadd hx dX11_notePlace_28 ?_
  refine J_bipush hx (10 : Int32) dX11_notePlace_29 rfl ?_
  refine J_min hx ml_X11_47 jd_min (by decide) (Nat.le_of_ble_eq_true rfl) (Nat.le_refl 0) (Nat.le_refl 0) dX11_notePlace_31 ?_
  refine p11_7 hx hW4 ho0 fl_X11_38 dX11_notePlace_34 fun G5 hW6 => ?_
  obtain rfl := Option.some.inj h
  exact J_vretW hx hr hW6 dX11_notePlace_37 (Nat.le_refl 0) (Nat.le_refl 0)
theorem dX11_copyFrom_0 : decode cX11_copyFrom 0 = .ok (.aload_n 0, 1) := by decide +kernel
theorem dX11_copyFrom_1 : decode cX11_copyFrom 1 = .ok (.aload_n 1, 1) := by decide +kernel
theorem dX11_copyFrom_2 : decode cX11_copyFrom 2 = .ok (.getfield 15, 3) := by decide +kernel
theorem dX11_copyFrom_5 : decode cX11_copyFrom 5 = .ok (.putfield 15, 3) := by decide +kernel
theorem dX11_copyFrom_8 : decode cX11_copyFrom 8 = .ok (.aload_n 0, 1) := by decide +kernel
theorem dX11_copyFrom_9 : decode cX11_copyFrom 9 = .ok (.aload_n 1, 1) := by decide +kernel
theorem dX11_copyFrom_10 : decode cX11_copyFrom 10 = .ok (.getfield 19, 3) := by decide +kernel
theorem dX11_copyFrom_13 : decode cX11_copyFrom 13 = .ok (.putfield 19, 3) := by decide +kernel
theorem dX11_copyFrom_16 : decode cX11_copyFrom 16 = .ok (.aload_n 0, 1) := by decide +kernel
theorem dX11_copyFrom_17 : decode cX11_copyFrom 17 = .ok (.aload_n 1, 1) := by decide +kernel
theorem dX11_copyFrom_18 : decode cX11_copyFrom 18 = .ok (.getfield 22, 3) := by decide +kernel
theorem dX11_copyFrom_21 : decode cX11_copyFrom 21 = .ok (.putfield 22, 3) := by decide +kernel
theorem dX11_copyFrom_24 : decode cX11_copyFrom 24 = .ok (.aload_n 0, 1) := by decide +kernel
theorem dX11_copyFrom_25 : decode cX11_copyFrom 25 = .ok (.aload_n 1, 1) := by decide +kernel
theorem dX11_copyFrom_26 : decode cX11_copyFrom 26 = .ok (.getfield 25, 3) := by decide +kernel
theorem dX11_copyFrom_29 : decode cX11_copyFrom 29 = .ok (.putfield 25, 3) := by decide +kernel
theorem dX11_copyFrom_32 : decode cX11_copyFrom 32 = .ok (.aload_n 0, 1) := by decide +kernel
theorem dX11_copyFrom_33 : decode cX11_copyFrom 33 = .ok (.aload_n 1, 1) := by decide +kernel
theorem dX11_copyFrom_34 : decode cX11_copyFrom 34 = .ok (.getfield 29, 3) := by decide +kernel
theorem dX11_copyFrom_37 : decode cX11_copyFrom 37 = .ok (.putfield 29, 3) := by decide +kernel
theorem dX11_copyFrom_40 : decode cX11_copyFrom 40 = .ok (.aload_n 0, 1) := by decide +kernel
theorem dX11_copyFrom_41 : decode cX11_copyFrom 41 = .ok (.aload_n 1, 1) := by decide +kernel
theorem dX11_copyFrom_42 : decode cX11_copyFrom 42 = .ok (.getfield 32, 3) := by decide +kernel
theorem dX11_copyFrom_45 : decode cX11_copyFrom 45 = .ok (.putfield 32, 3) := by decide +kernel
theorem dX11_copyFrom_48 : decode cX11_copyFrom 48 = .ok (.aload_n 0, 1) := by decide +kernel
theorem dX11_copyFrom_49 : decode cX11_copyFrom 49 = .ok (.aload_n 1, 1) := by decide +kernel
theorem dX11_copyFrom_50 : decode cX11_copyFrom 50 = .ok (.getfield 35, 3) := by decide +kernel
theorem dX11_copyFrom_53 : decode cX11_copyFrom 53 = .ok (.putfield 35, 3) := by decide +kernel
theorem dX11_copyFrom_56 : decode cX11_copyFrom 56 = .ok (.aload_n 0, 1) := by decide +kernel
theorem dX11_copyFrom_57 : decode cX11_copyFrom 57 = .ok (.aload_n 1, 1) := by decide +kernel
theorem dX11_copyFrom_58 : decode cX11_copyFrom 58 = .ok (.getfield 38, 3) := by decide +kernel
theorem dX11_copyFrom_61 : decode cX11_copyFrom 61 = .ok (.putfield 38, 3) := by decide +kernel
theorem dX11_copyFrom_64 : decode cX11_copyFrom 64 = .ok (.aload_n 1, 1) := by decide +kernel
theorem dX11_copyFrom_65 : decode cX11_copyFrom 65 = .ok (.getfield 9, 3) := by decide +kernel
theorem dX11_copyFrom_68 : decode cX11_copyFrom 68 = .ok (.iconst 0, 1) := by decide +kernel
theorem dX11_copyFrom_69 : decode cX11_copyFrom 69 = .ok (.aload_n 0, 1) := by decide +kernel
theorem dX11_copyFrom_70 : decode cX11_copyFrom 70 = .ok (.getfield 9, 3) := by decide +kernel
theorem dX11_copyFrom_73 : decode cX11_copyFrom 73 = .ok (.iconst 0, 1) := by decide +kernel
theorem dX11_copyFrom_74 : decode cX11_copyFrom 74 = .ok (.bipush 10, 2) := by decide +kernel
theorem dX11_copyFrom_76 : decode cX11_copyFrom 76 = .ok (.invokestatic 41, 3) := by decide +kernel
theorem dX11_copyFrom_79 : decode cX11_copyFrom 79 = .ok (.return_, 1) := by decide +kernel
def sX11_copyFrom (w : Wl) (o0 : Nat) (o1 : Nat) : Option Wl := if ((wst (wst (wst w o0 0 (w o1 0)) o0 1 ((wst w o0 0 (w o1 0)) o1 1)) o0 2 ((wst (wst w o0 0 (w o1 0)) o0 1 ((wst w o0 0 (w o1 0)) o1 1)) o1 2)) o1 3) = 0 ∨ ((wst (wst (wst w o0 0 (w o1 0)) o0 1 ((wst w o0 0 (w o1 0)) o1 1)) o0 2 ((wst (wst w o0 0 (w o1 0)) o0 1 ((wst w o0 0 (w o1 0)) o1 1)) o1 2)) o1 3) = 1 then some (wrow (wst (wst (wst (wst (wst (wst (wst (wst w o0 0 (w o1 0)) o0 1 ((wst w o0 0 (w o1 0)) o1 1)) o0 2 ((wst (wst w o0 0 (w o1 0)) o0 1 ((wst w o0 0 (w o1 0)) o1 1)) o1 2)) o0 3 ((wst (wst (wst w o0 0 (w o1 0)) o0 1 ((wst w o0 0 (w o1 0)) o1 1)) o0 2 ((wst (wst w o0 0 (w o1 0)) o0 1 ((wst w o0 0 (w o1 0)) o1 1)) o1 2)) o1 3)) o0 4 ((wst (wst (wst (wst w o0 0 (w o1 0)) o0 1 ((wst w o0 0 (w o1 0)) o1 1)) o0 2 ((wst (wst w o0 0 (w o1 0)) o0 1 ((wst w o0 0 (w o1 0)) o1 1)) o1 2)) o0 3 ((wst (wst (wst w o0 0 (w o1 0)) o0 1 ((wst w o0 0 (w o1 0)) o1 1)) o0 2 ((wst (wst w o0 0 (w o1 0)) o0 1 ((wst w o0 0 (w o1 0)) o1 1)) o1 2)) o1 3)) o1 4)) o0 5 ((wst (wst (wst (wst (wst w o0 0 (w o1 0)) o0 1 ((wst w o0 0 (w o1 0)) o1 1)) o0 2 ((wst (wst w o0 0 (w o1 0)) o0 1 ((wst w o0 0 (w o1 0)) o1 1)) o1 2)) o0 3 ((wst (wst (wst w o0 0 (w o1 0)) o0 1 ((wst w o0 0 (w o1 0)) o1 1)) o0 2 ((wst (wst w o0 0 (w o1 0)) o0 1 ((wst w o0 0 (w o1 0)) o1 1)) o1 2)) o1 3)) o0 4 ((wst (wst (wst (wst w o0 0 (w o1 0)) o0 1 ((wst w o0 0 (w o1 0)) o1 1)) o0 2 ((wst (wst w o0 0 (w o1 0)) o0 1 ((wst w o0 0 (w o1 0)) o1 1)) o1 2)) o0 3 ((wst (wst (wst w o0 0 (w o1 0)) o0 1 ((wst w o0 0 (w o1 0)) o1 1)) o0 2 ((wst (wst w o0 0 (w o1 0)) o0 1 ((wst w o0 0 (w o1 0)) o1 1)) o1 2)) o1 3)) o1 4)) o1 5)) o0 6 ((wst (wst (wst (wst (wst (wst w o0 0 (w o1 0)) o0 1 ((wst w o0 0 (w o1 0)) o1 1)) o0 2 ((wst (wst w o0 0 (w o1 0)) o0 1 ((wst w o0 0 (w o1 0)) o1 1)) o1 2)) o0 3 ((wst (wst (wst w o0 0 (w o1 0)) o0 1 ((wst w o0 0 (w o1 0)) o1 1)) o0 2 ((wst (wst w o0 0 (w o1 0)) o0 1 ((wst w o0 0 (w o1 0)) o1 1)) o1 2)) o1 3)) o0 4 ((wst (wst (wst (wst w o0 0 (w o1 0)) o0 1 ((wst w o0 0 (w o1 0)) o1 1)) o0 2 ((wst (wst w o0 0 (w o1 0)) o0 1 ((wst w o0 0 (w o1 0)) o1 1)) o1 2)) o0 3 ((wst (wst (wst w o0 0 (w o1 0)) o0 1 ((wst w o0 0 (w o1 0)) o1 1)) o0 2 ((wst (wst w o0 0 (w o1 0)) o0 1 ((wst w o0 0 (w o1 0)) o1 1)) o1 2)) o1 3)) o1 4)) o0 5 ((wst (wst (wst (wst (wst w o0 0 (w o1 0)) o0 1 ((wst w o0 0 (w o1 0)) o1 1)) o0 2 ((wst (wst w o0 0 (w o1 0)) o0 1 ((wst w o0 0 (w o1 0)) o1 1)) o1 2)) o0 3 ((wst (wst (wst w o0 0 (w o1 0)) o0 1 ((wst w o0 0 (w o1 0)) o1 1)) o0 2 ((wst (wst w o0 0 (w o1 0)) o0 1 ((wst w o0 0 (w o1 0)) o1 1)) o1 2)) o1 3)) o0 4 ((wst (wst (wst (wst w o0 0 (w o1 0)) o0 1 ((wst w o0 0 (w o1 0)) o1 1)) o0 2 ((wst (wst w o0 0 (w o1 0)) o0 1 ((wst w o0 0 (w o1 0)) o1 1)) o1 2)) o0 3 ((wst (wst (wst w o0 0 (w o1 0)) o0 1 ((wst w o0 0 (w o1 0)) o1 1)) o0 2 ((wst (wst w o0 0 (w o1 0)) o0 1 ((wst w o0 0 (w o1 0)) o1 1)) o1 2)) o1 3)) o1 4)) o1 5)) o1 6)) o0 7 ((wst (wst (wst (wst (wst (wst (wst w o0 0 (w o1 0)) o0 1 ((wst w o0 0 (w o1 0)) o1 1)) o0 2 ((wst (wst w o0 0 (w o1 0)) o0 1 ((wst w o0 0 (w o1 0)) o1 1)) o1 2)) o0 3 ((wst (wst (wst w o0 0 (w o1 0)) o0 1 ((wst w o0 0 (w o1 0)) o1 1)) o0 2 ((wst (wst w o0 0 (w o1 0)) o0 1 ((wst w o0 0 (w o1 0)) o1 1)) o1 2)) o1 3)) o0 4 ((wst (wst (wst (wst w o0 0 (w o1 0)) o0 1 ((wst w o0 0 (w o1 0)) o1 1)) o0 2 ((wst (wst w o0 0 (w o1 0)) o0 1 ((wst w o0 0 (w o1 0)) o1 1)) o1 2)) o0 3 ((wst (wst (wst w o0 0 (w o1 0)) o0 1 ((wst w o0 0 (w o1 0)) o1 1)) o0 2 ((wst (wst w o0 0 (w o1 0)) o0 1 ((wst w o0 0 (w o1 0)) o1 1)) o1 2)) o1 3)) o1 4)) o0 5 ((wst (wst (wst (wst (wst w o0 0 (w o1 0)) o0 1 ((wst w o0 0 (w o1 0)) o1 1)) o0 2 ((wst (wst w o0 0 (w o1 0)) o0 1 ((wst w o0 0 (w o1 0)) o1 1)) o1 2)) o0 3 ((wst (wst (wst w o0 0 (w o1 0)) o0 1 ((wst w o0 0 (w o1 0)) o1 1)) o0 2 ((wst (wst w o0 0 (w o1 0)) o0 1 ((wst w o0 0 (w o1 0)) o1 1)) o1 2)) o1 3)) o0 4 ((wst (wst (wst (wst w o0 0 (w o1 0)) o0 1 ((wst w o0 0 (w o1 0)) o1 1)) o0 2 ((wst (wst w o0 0 (w o1 0)) o0 1 ((wst w o0 0 (w o1 0)) o1 1)) o1 2)) o0 3 ((wst (wst (wst w o0 0 (w o1 0)) o0 1 ((wst w o0 0 (w o1 0)) o1 1)) o0 2 ((wst (wst w o0 0 (w o1 0)) o0 1 ((wst w o0 0 (w o1 0)) o1 1)) o1 2)) o1 3)) o1 4)) o1 5)) o0 6 ((wst (wst (wst (wst (wst (wst w o0 0 (w o1 0)) o0 1 ((wst w o0 0 (w o1 0)) o1 1)) o0 2 ((wst (wst w o0 0 (w o1 0)) o0 1 ((wst w o0 0 (w o1 0)) o1 1)) o1 2)) o0 3 ((wst (wst (wst w o0 0 (w o1 0)) o0 1 ((wst w o0 0 (w o1 0)) o1 1)) o0 2 ((wst (wst w o0 0 (w o1 0)) o0 1 ((wst w o0 0 (w o1 0)) o1 1)) o1 2)) o1 3)) o0 4 ((wst (wst (wst (wst w o0 0 (w o1 0)) o0 1 ((wst w o0 0 (w o1 0)) o1 1)) o0 2 ((wst (wst w o0 0 (w o1 0)) o0 1 ((wst w o0 0 (w o1 0)) o1 1)) o1 2)) o0 3 ((wst (wst (wst w o0 0 (w o1 0)) o0 1 ((wst w o0 0 (w o1 0)) o1 1)) o0 2 ((wst (wst w o0 0 (w o1 0)) o0 1 ((wst w o0 0 (w o1 0)) o1 1)) o1 2)) o1 3)) o1 4)) o0 5 ((wst (wst (wst (wst (wst w o0 0 (w o1 0)) o0 1 ((wst w o0 0 (w o1 0)) o1 1)) o0 2 ((wst (wst w o0 0 (w o1 0)) o0 1 ((wst w o0 0 (w o1 0)) o1 1)) o1 2)) o0 3 ((wst (wst (wst w o0 0 (w o1 0)) o0 1 ((wst w o0 0 (w o1 0)) o1 1)) o0 2 ((wst (wst w o0 0 (w o1 0)) o0 1 ((wst w o0 0 (w o1 0)) o1 1)) o1 2)) o1 3)) o0 4 ((wst (wst (wst (wst w o0 0 (w o1 0)) o0 1 ((wst w o0 0 (w o1 0)) o1 1)) o0 2 ((wst (wst w o0 0 (w o1 0)) o0 1 ((wst w o0 0 (w o1 0)) o1 1)) o1 2)) o0 3 ((wst (wst (wst w o0 0 (w o1 0)) o0 1 ((wst w o0 0 (w o1 0)) o1 1)) o0 2 ((wst (wst w o0 0 (w o1 0)) o0 1 ((wst w o0 0 (w o1 0)) o1 1)) o1 2)) o1 3)) o1 4)) o1 5)) o1 6)) o1 7)) (o0 + 1) (va_cpy ((wst (wst (wst (wst (wst (wst (wst (wst w o0 0 (w o1 0)) o0 1 ((wst w o0 0 (w o1 0)) o1 1)) o0 2 ((wst (wst w o0 0 (w o1 0)) o0 1 ((wst w o0 0 (w o1 0)) o1 1)) o1 2)) o0 3 ((wst (wst (wst w o0 0 (w o1 0)) o0 1 ((wst w o0 0 (w o1 0)) o1 1)) o0 2 ((wst (wst w o0 0 (w o1 0)) o0 1 ((wst w o0 0 (w o1 0)) o1 1)) o1 2)) o1 3)) o0 4 ((wst (wst (wst (wst w o0 0 (w o1 0)) o0 1 ((wst w o0 0 (w o1 0)) o1 1)) o0 2 ((wst (wst w o0 0 (w o1 0)) o0 1 ((wst w o0 0 (w o1 0)) o1 1)) o1 2)) o0 3 ((wst (wst (wst w o0 0 (w o1 0)) o0 1 ((wst w o0 0 (w o1 0)) o1 1)) o0 2 ((wst (wst w o0 0 (w o1 0)) o0 1 ((wst w o0 0 (w o1 0)) o1 1)) o1 2)) o1 3)) o1 4)) o0 5 ((wst (wst (wst (wst (wst w o0 0 (w o1 0)) o0 1 ((wst w o0 0 (w o1 0)) o1 1)) o0 2 ((wst (wst w o0 0 (w o1 0)) o0 1 ((wst w o0 0 (w o1 0)) o1 1)) o1 2)) o0 3 ((wst (wst (wst w o0 0 (w o1 0)) o0 1 ((wst w o0 0 (w o1 0)) o1 1)) o0 2 ((wst (wst w o0 0 (w o1 0)) o0 1 ((wst w o0 0 (w o1 0)) o1 1)) o1 2)) o1 3)) o0 4 ((wst (wst (wst (wst w o0 0 (w o1 0)) o0 1 ((wst w o0 0 (w o1 0)) o1 1)) o0 2 ((wst (wst w o0 0 (w o1 0)) o0 1 ((wst w o0 0 (w o1 0)) o1 1)) o1 2)) o0 3 ((wst (wst (wst w o0 0 (w o1 0)) o0 1 ((wst w o0 0 (w o1 0)) o1 1)) o0 2 ((wst (wst w o0 0 (w o1 0)) o0 1 ((wst w o0 0 (w o1 0)) o1 1)) o1 2)) o1 3)) o1 4)) o1 5)) o0 6 ((wst (wst (wst (wst (wst (wst w o0 0 (w o1 0)) o0 1 ((wst w o0 0 (w o1 0)) o1 1)) o0 2 ((wst (wst w o0 0 (w o1 0)) o0 1 ((wst w o0 0 (w o1 0)) o1 1)) o1 2)) o0 3 ((wst (wst (wst w o0 0 (w o1 0)) o0 1 ((wst w o0 0 (w o1 0)) o1 1)) o0 2 ((wst (wst w o0 0 (w o1 0)) o0 1 ((wst w o0 0 (w o1 0)) o1 1)) o1 2)) o1 3)) o0 4 ((wst (wst (wst (wst w o0 0 (w o1 0)) o0 1 ((wst w o0 0 (w o1 0)) o1 1)) o0 2 ((wst (wst w o0 0 (w o1 0)) o0 1 ((wst w o0 0 (w o1 0)) o1 1)) o1 2)) o0 3 ((wst (wst (wst w o0 0 (w o1 0)) o0 1 ((wst w o0 0 (w o1 0)) o1 1)) o0 2 ((wst (wst w o0 0 (w o1 0)) o0 1 ((wst w o0 0 (w o1 0)) o1 1)) o1 2)) o1 3)) o1 4)) o0 5 ((wst (wst (wst (wst (wst w o0 0 (w o1 0)) o0 1 ((wst w o0 0 (w o1 0)) o1 1)) o0 2 ((wst (wst w o0 0 (w o1 0)) o0 1 ((wst w o0 0 (w o1 0)) o1 1)) o1 2)) o0 3 ((wst (wst (wst w o0 0 (w o1 0)) o0 1 ((wst w o0 0 (w o1 0)) o1 1)) o0 2 ((wst (wst w o0 0 (w o1 0)) o0 1 ((wst w o0 0 (w o1 0)) o1 1)) o1 2)) o1 3)) o0 4 ((wst (wst (wst (wst w o0 0 (w o1 0)) o0 1 ((wst w o0 0 (w o1 0)) o1 1)) o0 2 ((wst (wst w o0 0 (w o1 0)) o0 1 ((wst w o0 0 (w o1 0)) o1 1)) o1 2)) o0 3 ((wst (wst (wst w o0 0 (w o1 0)) o0 1 ((wst w o0 0 (w o1 0)) o1 1)) o0 2 ((wst (wst w o0 0 (w o1 0)) o0 1 ((wst w o0 0 (w o1 0)) o1 1)) o1 2)) o1 3)) o1 4)) o1 5)) o1 6)) o0 7 ((wst (wst (wst (wst (wst (wst (wst w o0 0 (w o1 0)) o0 1 ((wst w o0 0 (w o1 0)) o1 1)) o0 2 ((wst (wst w o0 0 (w o1 0)) o0 1 ((wst w o0 0 (w o1 0)) o1 1)) o1 2)) o0 3 ((wst (wst (wst w o0 0 (w o1 0)) o0 1 ((wst w o0 0 (w o1 0)) o1 1)) o0 2 ((wst (wst w o0 0 (w o1 0)) o0 1 ((wst w o0 0 (w o1 0)) o1 1)) o1 2)) o1 3)) o0 4 ((wst (wst (wst (wst w o0 0 (w o1 0)) o0 1 ((wst w o0 0 (w o1 0)) o1 1)) o0 2 ((wst (wst w o0 0 (w o1 0)) o0 1 ((wst w o0 0 (w o1 0)) o1 1)) o1 2)) o0 3 ((wst (wst (wst w o0 0 (w o1 0)) o0 1 ((wst w o0 0 (w o1 0)) o1 1)) o0 2 ((wst (wst w o0 0 (w o1 0)) o0 1 ((wst w o0 0 (w o1 0)) o1 1)) o1 2)) o1 3)) o1 4)) o0 5 ((wst (wst (wst (wst (wst w o0 0 (w o1 0)) o0 1 ((wst w o0 0 (w o1 0)) o1 1)) o0 2 ((wst (wst w o0 0 (w o1 0)) o0 1 ((wst w o0 0 (w o1 0)) o1 1)) o1 2)) o0 3 ((wst (wst (wst w o0 0 (w o1 0)) o0 1 ((wst w o0 0 (w o1 0)) o1 1)) o0 2 ((wst (wst w o0 0 (w o1 0)) o0 1 ((wst w o0 0 (w o1 0)) o1 1)) o1 2)) o1 3)) o0 4 ((wst (wst (wst (wst w o0 0 (w o1 0)) o0 1 ((wst w o0 0 (w o1 0)) o1 1)) o0 2 ((wst (wst w o0 0 (w o1 0)) o0 1 ((wst w o0 0 (w o1 0)) o1 1)) o1 2)) o0 3 ((wst (wst (wst w o0 0 (w o1 0)) o0 1 ((wst w o0 0 (w o1 0)) o1 1)) o0 2 ((wst (wst w o0 0 (w o1 0)) o0 1 ((wst w o0 0 (w o1 0)) o1 1)) o1 2)) o1 3)) o1 4)) o1 5)) o0 6 ((wst (wst (wst (wst (wst (wst w o0 0 (w o1 0)) o0 1 ((wst w o0 0 (w o1 0)) o1 1)) o0 2 ((wst (wst w o0 0 (w o1 0)) o0 1 ((wst w o0 0 (w o1 0)) o1 1)) o1 2)) o0 3 ((wst (wst (wst w o0 0 (w o1 0)) o0 1 ((wst w o0 0 (w o1 0)) o1 1)) o0 2 ((wst (wst w o0 0 (w o1 0)) o0 1 ((wst w o0 0 (w o1 0)) o1 1)) o1 2)) o1 3)) o0 4 ((wst (wst (wst (wst w o0 0 (w o1 0)) o0 1 ((wst w o0 0 (w o1 0)) o1 1)) o0 2 ((wst (wst w o0 0 (w o1 0)) o0 1 ((wst w o0 0 (w o1 0)) o1 1)) o1 2)) o0 3 ((wst (wst (wst w o0 0 (w o1 0)) o0 1 ((wst w o0 0 (w o1 0)) o1 1)) o0 2 ((wst (wst w o0 0 (w o1 0)) o0 1 ((wst w o0 0 (w o1 0)) o1 1)) o1 2)) o1 3)) o1 4)) o0 5 ((wst (wst (wst (wst (wst w o0 0 (w o1 0)) o0 1 ((wst w o0 0 (w o1 0)) o1 1)) o0 2 ((wst (wst w o0 0 (w o1 0)) o0 1 ((wst w o0 0 (w o1 0)) o1 1)) o1 2)) o0 3 ((wst (wst (wst w o0 0 (w o1 0)) o0 1 ((wst w o0 0 (w o1 0)) o1 1)) o0 2 ((wst (wst w o0 0 (w o1 0)) o0 1 ((wst w o0 0 (w o1 0)) o1 1)) o1 2)) o1 3)) o0 4 ((wst (wst (wst (wst w o0 0 (w o1 0)) o0 1 ((wst w o0 0 (w o1 0)) o1 1)) o0 2 ((wst (wst w o0 0 (w o1 0)) o0 1 ((wst w o0 0 (w o1 0)) o1 1)) o1 2)) o0 3 ((wst (wst (wst w o0 0 (w o1 0)) o0 1 ((wst w o0 0 (w o1 0)) o1 1)) o0 2 ((wst (wst w o0 0 (w o1 0)) o0 1 ((wst w o0 0 (w o1 0)) o1 1)) o1 2)) o1 3)) o1 4)) o1 5)) o1 6)) o1 7)) (o1 + 1)) ((wst (wst (wst (wst (wst (wst (wst (wst w o0 0 (w o1 0)) o0 1 ((wst w o0 0 (w o1 0)) o1 1)) o0 2 ((wst (wst w o0 0 (w o1 0)) o0 1 ((wst w o0 0 (w o1 0)) o1 1)) o1 2)) o0 3 ((wst (wst (wst w o0 0 (w o1 0)) o0 1 ((wst w o0 0 (w o1 0)) o1 1)) o0 2 ((wst (wst w o0 0 (w o1 0)) o0 1 ((wst w o0 0 (w o1 0)) o1 1)) o1 2)) o1 3)) o0 4 ((wst (wst (wst (wst w o0 0 (w o1 0)) o0 1 ((wst w o0 0 (w o1 0)) o1 1)) o0 2 ((wst (wst w o0 0 (w o1 0)) o0 1 ((wst w o0 0 (w o1 0)) o1 1)) o1 2)) o0 3 ((wst (wst (wst w o0 0 (w o1 0)) o0 1 ((wst w o0 0 (w o1 0)) o1 1)) o0 2 ((wst (wst w o0 0 (w o1 0)) o0 1 ((wst w o0 0 (w o1 0)) o1 1)) o1 2)) o1 3)) o1 4)) o0 5 ((wst (wst (wst (wst (wst w o0 0 (w o1 0)) o0 1 ((wst w o0 0 (w o1 0)) o1 1)) o0 2 ((wst (wst w o0 0 (w o1 0)) o0 1 ((wst w o0 0 (w o1 0)) o1 1)) o1 2)) o0 3 ((wst (wst (wst w o0 0 (w o1 0)) o0 1 ((wst w o0 0 (w o1 0)) o1 1)) o0 2 ((wst (wst w o0 0 (w o1 0)) o0 1 ((wst w o0 0 (w o1 0)) o1 1)) o1 2)) o1 3)) o0 4 ((wst (wst (wst (wst w o0 0 (w o1 0)) o0 1 ((wst w o0 0 (w o1 0)) o1 1)) o0 2 ((wst (wst w o0 0 (w o1 0)) o0 1 ((wst w o0 0 (w o1 0)) o1 1)) o1 2)) o0 3 ((wst (wst (wst w o0 0 (w o1 0)) o0 1 ((wst w o0 0 (w o1 0)) o1 1)) o0 2 ((wst (wst w o0 0 (w o1 0)) o0 1 ((wst w o0 0 (w o1 0)) o1 1)) o1 2)) o1 3)) o1 4)) o1 5)) o0 6 ((wst (wst (wst (wst (wst (wst w o0 0 (w o1 0)) o0 1 ((wst w o0 0 (w o1 0)) o1 1)) o0 2 ((wst (wst w o0 0 (w o1 0)) o0 1 ((wst w o0 0 (w o1 0)) o1 1)) o1 2)) o0 3 ((wst (wst (wst w o0 0 (w o1 0)) o0 1 ((wst w o0 0 (w o1 0)) o1 1)) o0 2 ((wst (wst w o0 0 (w o1 0)) o0 1 ((wst w o0 0 (w o1 0)) o1 1)) o1 2)) o1 3)) o0 4 ((wst (wst (wst (wst w o0 0 (w o1 0)) o0 1 ((wst w o0 0 (w o1 0)) o1 1)) o0 2 ((wst (wst w o0 0 (w o1 0)) o0 1 ((wst w o0 0 (w o1 0)) o1 1)) o1 2)) o0 3 ((wst (wst (wst w o0 0 (w o1 0)) o0 1 ((wst w o0 0 (w o1 0)) o1 1)) o0 2 ((wst (wst w o0 0 (w o1 0)) o0 1 ((wst w o0 0 (w o1 0)) o1 1)) o1 2)) o1 3)) o1 4)) o0 5 ((wst (wst (wst (wst (wst w o0 0 (w o1 0)) o0 1 ((wst w o0 0 (w o1 0)) o1 1)) o0 2 ((wst (wst w o0 0 (w o1 0)) o0 1 ((wst w o0 0 (w o1 0)) o1 1)) o1 2)) o0 3 ((wst (wst (wst w o0 0 (w o1 0)) o0 1 ((wst w o0 0 (w o1 0)) o1 1)) o0 2 ((wst (wst w o0 0 (w o1 0)) o0 1 ((wst w o0 0 (w o1 0)) o1 1)) o1 2)) o1 3)) o0 4 ((wst (wst (wst (wst w o0 0 (w o1 0)) o0 1 ((wst w o0 0 (w o1 0)) o1 1)) o0 2 ((wst (wst w o0 0 (w o1 0)) o0 1 ((wst w o0 0 (w o1 0)) o1 1)) o1 2)) o0 3 ((wst (wst (wst w o0 0 (w o1 0)) o0 1 ((wst w o0 0 (w o1 0)) o1 1)) o0 2 ((wst (wst w o0 0 (w o1 0)) o0 1 ((wst w o0 0 (w o1 0)) o1 1)) o1 2)) o1 3)) o1 4)) o1 5)) o1 6)) o0 7 ((wst (wst (wst (wst (wst (wst (wst w o0 0 (w o1 0)) o0 1 ((wst w o0 0 (w o1 0)) o1 1)) o0 2 ((wst (wst w o0 0 (w o1 0)) o0 1 ((wst w o0 0 (w o1 0)) o1 1)) o1 2)) o0 3 ((wst (wst (wst w o0 0 (w o1 0)) o0 1 ((wst w o0 0 (w o1 0)) o1 1)) o0 2 ((wst (wst w o0 0 (w o1 0)) o0 1 ((wst w o0 0 (w o1 0)) o1 1)) o1 2)) o1 3)) o0 4 ((wst (wst (wst (wst w o0 0 (w o1 0)) o0 1 ((wst w o0 0 (w o1 0)) o1 1)) o0 2 ((wst (wst w o0 0 (w o1 0)) o0 1 ((wst w o0 0 (w o1 0)) o1 1)) o1 2)) o0 3 ((wst (wst (wst w o0 0 (w o1 0)) o0 1 ((wst w o0 0 (w o1 0)) o1 1)) o0 2 ((wst (wst w o0 0 (w o1 0)) o0 1 ((wst w o0 0 (w o1 0)) o1 1)) o1 2)) o1 3)) o1 4)) o0 5 ((wst (wst (wst (wst (wst w o0 0 (w o1 0)) o0 1 ((wst w o0 0 (w o1 0)) o1 1)) o0 2 ((wst (wst w o0 0 (w o1 0)) o0 1 ((wst w o0 0 (w o1 0)) o1 1)) o1 2)) o0 3 ((wst (wst (wst w o0 0 (w o1 0)) o0 1 ((wst w o0 0 (w o1 0)) o1 1)) o0 2 ((wst (wst w o0 0 (w o1 0)) o0 1 ((wst w o0 0 (w o1 0)) o1 1)) o1 2)) o1 3)) o0 4 ((wst (wst (wst (wst w o0 0 (w o1 0)) o0 1 ((wst w o0 0 (w o1 0)) o1 1)) o0 2 ((wst (wst w o0 0 (w o1 0)) o0 1 ((wst w o0 0 (w o1 0)) o1 1)) o1 2)) o0 3 ((wst (wst (wst w o0 0 (w o1 0)) o0 1 ((wst w o0 0 (w o1 0)) o1 1)) o0 2 ((wst (wst w o0 0 (w o1 0)) o0 1 ((wst w o0 0 (w o1 0)) o1 1)) o1 2)) o1 3)) o1 4)) o1 5)) o0 6 ((wst (wst (wst (wst (wst (wst w o0 0 (w o1 0)) o0 1 ((wst w o0 0 (w o1 0)) o1 1)) o0 2 ((wst (wst w o0 0 (w o1 0)) o0 1 ((wst w o0 0 (w o1 0)) o1 1)) o1 2)) o0 3 ((wst (wst (wst w o0 0 (w o1 0)) o0 1 ((wst w o0 0 (w o1 0)) o1 1)) o0 2 ((wst (wst w o0 0 (w o1 0)) o0 1 ((wst w o0 0 (w o1 0)) o1 1)) o1 2)) o1 3)) o0 4 ((wst (wst (wst (wst w o0 0 (w o1 0)) o0 1 ((wst w o0 0 (w o1 0)) o1 1)) o0 2 ((wst (wst w o0 0 (w o1 0)) o0 1 ((wst w o0 0 (w o1 0)) o1 1)) o1 2)) o0 3 ((wst (wst (wst w o0 0 (w o1 0)) o0 1 ((wst w o0 0 (w o1 0)) o1 1)) o0 2 ((wst (wst w o0 0 (w o1 0)) o0 1 ((wst w o0 0 (w o1 0)) o1 1)) o1 2)) o1 3)) o1 4)) o0 5 ((wst (wst (wst (wst (wst w o0 0 (w o1 0)) o0 1 ((wst w o0 0 (w o1 0)) o1 1)) o0 2 ((wst (wst w o0 0 (w o1 0)) o0 1 ((wst w o0 0 (w o1 0)) o1 1)) o1 2)) o0 3 ((wst (wst (wst w o0 0 (w o1 0)) o0 1 ((wst w o0 0 (w o1 0)) o1 1)) o0 2 ((wst (wst w o0 0 (w o1 0)) o0 1 ((wst w o0 0 (w o1 0)) o1 1)) o1 2)) o1 3)) o0 4 ((wst (wst (wst (wst w o0 0 (w o1 0)) o0 1 ((wst w o0 0 (w o1 0)) o1 1)) o0 2 ((wst (wst w o0 0 (w o1 0)) o0 1 ((wst w o0 0 (w o1 0)) o1 1)) o1 2)) o0 3 ((wst (wst (wst w o0 0 (w o1 0)) o0 1 ((wst w o0 0 (w o1 0)) o1 1)) o0 2 ((wst (wst w o0 0 (w o1 0)) o0 1 ((wst w o0 0 (w o1 0)) o1 1)) o1 2)) o1 3)) o1 4)) o1 5)) o1 6)) o1 7)) (o0 + 1)) 0 0 10)) else none
theorem kX11_copyFrom {l : Launch} {Γ : Gl} {B : Bs} {w : Wl} {G : Gf} {sz : Nat} {o0 : Nat} {o1 : Nat} {r : Wl} (ho0 : kd o0 = 10) (ho1 : kd o1 = 10) (hW : Wd Γ B w G) (h : sX11_copyFrom w o0 o1 = some r) : CtW l Γ yX11_copyFrom cX11_copyFrom 2 none 1 [.ref (B.1 + o0), .ref (B.1 + o1)] G sz B none r := by
  refine Ct.of rfl (Nat.le_of_ble_eq_true rfl) fun X hx hr hl hΓ hnm => ?_
  subst hl hΓ
  show J X 2 G sz 0 0 0 [some (.ref (B.1 + o0)), some (.ref (B.1 + o1))] []
  unfold sX11_copyFrom at h
  refine J_al4 hx rfl rfl dX11_copyFrom_0 ?_
  refine J_al4 hx rfl rfl dX11_copyFrom_1 ?_
  refine g11_0 hx hW ho1 fl_X11_15 dX11_copyFrom_2 ?_
  refine p11_0 hx hW ho0 fl_X11_15 dX11_copyFrom_5 fun G1 hW2 => ?_
  refine J_al4 hx rfl rfl dX11_copyFrom_8 ?_
  refine J_al4 hx rfl rfl dX11_copyFrom_9 ?_
  refine g11_1 hx hW2 ho1 fl_X11_19 dX11_copyFrom_10 ?_
  refine p11_1 hx hW2 ho0 fl_X11_19 dX11_copyFrom_13 fun G3 hW4 => ?_
  refine J_al4 hx rfl rfl dX11_copyFrom_16 ?_
  refine J_al4 hx rfl rfl dX11_copyFrom_17 ?_
  refine g11_2 hx hW4 ho1 fl_X11_22 dX11_copyFrom_18 ?_
  refine p11_2 hx hW4 ho0 fl_X11_22 dX11_copyFrom_21 fun G5 hW6 => ?_
  refine J_al4 hx rfl rfl dX11_copyFrom_24 ?_
  refine J_al4 hx rfl rfl dX11_copyFrom_25 ?_
  refine g11_3 hx hW6 ho1 fl_X11_25 dX11_copyFrom_26 ?_
  obtain ⟨hz9, h⟩ := grd h
  refine p11_3 hx hW6 ho0 fl_X11_25 hz9 dX11_copyFrom_29 fun G7 hW8 => ?_
  refine J_al4 hx rfl rfl dX11_copyFrom_32 ?_
  refine J_al4 hx rfl rfl dX11_copyFrom_33 ?_
  refine g11_4 hx hW8 ho1 fl_X11_29 dX11_copyFrom_34 ?_
  refine p11_4 hx hW8 ho0 fl_X11_29 dX11_copyFrom_37 fun G10 hW11 => ?_
  refine J_al4 hx rfl rfl dX11_copyFrom_40 ?_
  refine J_al4 hx rfl rfl dX11_copyFrom_41 ?_
  refine g11_5 hx hW11 ho1 fl_X11_32 dX11_copyFrom_42 ?_
  refine p11_5 hx hW11 ho0 fl_X11_32 dX11_copyFrom_45 fun G12 hW13 => ?_
  refine J_al4 hx rfl rfl dX11_copyFrom_48 ?_
  refine J_al4 hx rfl rfl dX11_copyFrom_49 ?_
  refine g11_6 hx hW13 ho1 fl_X11_35 dX11_copyFrom_50 ?_
  refine p11_6 hx hW13 ho0 fl_X11_35 dX11_copyFrom_53 fun G14 hW15 => ?_
  refine J_al4 hx rfl rfl dX11_copyFrom_56 ?_
  refine J_al4 hx rfl rfl dX11_copyFrom_57 ?_
  refine g11_7 hx hW15 ho1 fl_X11_38 dX11_copyFrom_58 ?_
  refine p11_7 hx hW15 ho0 fl_X11_38 dX11_copyFrom_61 fun G16 hW17 => ?_
  refine J_al4 hx rfl rfl dX11_copyFrom_64 ?_
  refine g11_8 hx hW17 (o1 + 1) ho1 fl_X11_9 rfl dX11_copyFrom_65 ?_
  refine J_iconst hx (0 : Int32) dX11_copyFrom_68 rfl ?_
  refine J_al4 hx rfl rfl dX11_copyFrom_69 ?_
  refine g11_8 hx hW17 (o0 + 1) ho0 fl_X11_9 rfl dX11_copyFrom_70 ?_
  refine J_iconst hx (0 : Int32) dX11_copyFrom_73 rfl ?_
  refine J_bipush hx (10 : Int32) dX11_copyFrom_74 rfl ?_
  refine J_cpW hx hW17 ml_X11_41 (kd10 ho1) (kd10 ho0) 0 0 10 (by decide) (by decide) (by decide) rfl rfl rfl (by decide) (by decide) (by decide) (Nat.le_of_ble_eq_true rfl) dX11_copyFrom_76 fun G18 hW19 => ?_
  obtain rfl := Option.some.inj h
  exact J_vretW hx hr hW19 dX11_copyFrom_79 (Nat.le_refl 0) (Nat.le_refl 0)
theorem dX11_placeNoted_0 : decode cX11_placeNoted 0 = .ok (.iload_n 1, 1) := by decide +kernel
theorem dX11_placeNoted_1 : decode cX11_placeNoted 1 = .ok (.ifCond .lt 20, 3) := by decide +kernel
theorem dX11_placeNoted_4 : decode cX11_placeNoted 4 = .ok (.iload_n 1, 1) := by decide +kernel
theorem dX11_placeNoted_5 : decode cX11_placeNoted 5 = .ok (.aload_n 0, 1) := by decide +kernel
theorem dX11_placeNoted_6 : decode cX11_placeNoted 6 = .ok (.getfield 38, 3) := by decide +kernel
theorem dX11_placeNoted_9 : decode cX11_placeNoted 9 = .ok (.if_icmp .ge 12, 3) := by decide +kernel
theorem dX11_placeNoted_12 : decode cX11_placeNoted 12 = .ok (.aload_n 0, 1) := by decide +kernel
theorem dX11_placeNoted_13 : decode cX11_placeNoted 13 = .ok (.getfield 9, 3) := by decide +kernel
theorem dX11_placeNoted_16 : decode cX11_placeNoted 16 = .ok (.iload_n 1, 1) := by decide +kernel
theorem dX11_placeNoted_17 : decode cX11_placeNoted 17 = .ok (.iaload, 1) := by decide +kernel
theorem dX11_placeNoted_18 : decode cX11_placeNoted 18 = .ok (.goto 4, 3) := by decide +kernel
theorem dX11_placeNoted_21 : decode cX11_placeNoted 21 = .ok (.iconst (-1), 1) := by decide +kernel
theorem dX11_placeNoted_22 : decode cX11_placeNoted 22 = .ok (.ireturn, 1) := by decide +kernel
def sX11_placeNoted (w : Wl) (o0 : Nat) (l1 : Int32) : Option Int32 := (if l1 < 0 then some (-1 : Int32) else (if (w o0 7) ≤ l1 then some (-1 : Int32) else (idx l1 10).bind (fun c3 => some (w (o0 + 1) c3))))
theorem kX11_placeNoted {l : Launch} {Γ : Gl} {B : Bs} {w : Wl} {G : Gf} {sz : Nat} {o0 : Nat} {l1 : Int32} {r : Int32} (ho0 : kd o0 = 10) (hW : Wd Γ B w G) (h : sX11_placeNoted w o0 l1 = some r) : CtR l Γ yX11_placeNoted cX11_placeNoted 2 (some .int) 0 [.ref (B.1 + o0), .int l1] G sz (.int (r)) := by
  refine Ct.of rfl (Nat.le_of_ble_eq_true rfl) fun X hx hr hl hΓ hnm => ?_
  subst hl hΓ
  show J X 2 G sz 0 0 0 [some (.ref (B.1 + o0)), some (.int l1)] []
  unfold sX11_placeNoted at h
  refine J_il4 hx rfl rfl dX11_placeNoted_0 ?_
  refine J_if_lt hx 21 dX11_placeNoted_1 rfl (fun h1 => ?_) (fun h1 => ?_)
  · replace h := pos h h1
    refine J_iconst hx (-1 : Int32) dX11_placeNoted_21 rfl ?_
    exact J_iretR hx hr dX11_placeNoted_22 (Nat.le_refl 0) (Nat.le_refl 0) (Option.some.inj h)
  · replace h := neg h h1
    refine J_il4 hx rfl rfl dX11_placeNoted_4 ?_
    refine J_al4 hx rfl rfl dX11_placeNoted_5 ?_
    refine g11_7 hx hW ho0 fl_X11_38 dX11_placeNoted_6 ?_
    refine J_icmp_ge hx 21 dX11_placeNoted_9 rfl (fun h2 => ?_) (fun h2 => ?_)
    · replace h := pos h h2
      refine J_iconst hx (-1 : Int32) dX11_placeNoted_21 rfl ?_
      exact J_iretR hx hr dX11_placeNoted_22 (Nat.le_refl 0) (Nat.le_refl 0) (Option.some.inj h)
    · replace h := neg h h2
      refine J_al4 hx rfl rfl dX11_placeNoted_12 ?_
      refine g11_8 hx hW (o0 + 1) ho0 fl_X11_9 rfl dX11_placeNoted_13 ?_
      refine J_il4 hx rfl rfl dX11_placeNoted_16 ?_
      obtain ⟨c3, hc4, h⟩ := bnd h
      refine J_iaW hx hW (kd10 ho0) hc4 dX11_placeNoted_17 ?_
      refine J_goto hx 22 dX11_placeNoted_18 rfl ?_
      exact J_iretR hx hr dX11_placeNoted_22 (Nat.le_refl 0) (Nat.le_refl 0) (Option.some.inj h)
