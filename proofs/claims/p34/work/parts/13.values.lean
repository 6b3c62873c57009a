/-! Mirrors and walks, written by wip/whole/gen_walks.py -/
theorem dX8_asNumber_0 : decode cX8_asNumber 0 = .ok (.iload_n 0, 1) := by decide +kernel
theorem dX8_asNumber_1 : decode cX8_asNumber 1 = .ok (.ifCond .eq 7, 3) := by decide +kernel
theorem dX8_asNumber_4 : decode cX8_asNumber 4 = .ok (.iconst 1, 1) := by decide +kernel
theorem dX8_asNumber_5 : decode cX8_asNumber 5 = .ok (.goto 4, 3) := by decide +kernel
theorem dX8_asNumber_8 : decode cX8_asNumber 8 = .ok (.iconst 0, 1) := by decide +kernel
theorem dX8_asNumber_9 : decode cX8_asNumber 9 = .ok (.ireturn, 1) := by decide +kernel
def sX8_asNumber (w : Wl) (l0 : Int32) : Option Int32 := (if l0 = 0 then some (0 : Int32) else some (1 : Int32))
theorem kX8_asNumber {l : Launch} {Γ : Gl} {B : Bs} {w : Wl} {G : Gf} {sz : Nat} {l0 : Int32} {r : Int32} (hW : Wd Γ B w G) (h : sX8_asNumber w l0 = some r) : CtR l Γ yX8_asNumber cX8_asNumber 1 (some .int) 0 [.int l0] G sz (.int (r)) := by
  refine Ct.of rfl (Nat.le_of_ble_eq_true rfl) fun X hx hr hl hΓ hnm => ?_
  subst hl hΓ
  show J X 1 G sz 0 0 0 [some (.int l0)] []
  unfold sX8_asNumber at h
  refine J_il4 hx rfl rfl dX8_asNumber_0 ?_
  refine J_if_eq hx 8 dX8_asNumber_1 rfl (fun h1 => ?_) (fun h1 => ?_)
  · replace h := pos h h1
    refine J_iconst hx (0 : Int32) dX8_asNumber_8 rfl ?_
    exact J_iretR hx hr dX8_asNumber_9 (Nat.le_refl 0) (Nat.le_refl 0) (Option.some.inj h)
  · replace h := neg h h1
    refine J_iconst hx (1 : Int32) dX8_asNumber_4 rfl ?_
    refine J_goto hx 9 dX8_asNumber_5 rfl ?_
    exact J_iretR hx hr dX8_asNumber_9 (Nat.le_refl 0) (Nat.le_refl 0) (Option.some.inj h)
theorem dX8_temperatureIn_0 : decode cX8_temperatureIn 0 = .ok (.aload_n 1, 1) := by decide +kernel
theorem dX8_temperatureIn_1 : decode cX8_temperatureIn 1 = .ok (.getfield 31, 3) := by decide +kernel
theorem dX8_temperatureIn_4 : decode cX8_temperatureIn 4 = .ok (.ifCond .eq 18, 3) := by decide +kernel
theorem dX8_temperatureIn_7 : decode cX8_temperatureIn 7 = .ok (.aload_n 0, 1) := by decide +kernel
theorem dX8_temperatureIn_8 : decode cX8_temperatureIn 8 = .ok (.getfield 9, 3) := by decide +kernel
theorem dX8_temperatureIn_11 : decode cX8_temperatureIn 11 = .ok (.iload_n 2, 1) := by decide +kernel
theorem dX8_temperatureIn_12 : decode cX8_temperatureIn 12 = .ok (.invokevirtual 167, 3) := by decide +kernel
theorem dX8_temperatureIn_15 : decode cX8_temperatureIn 15 = .ok (.ifCond .eq 7, 3) := by decide +kernel
theorem dX8_temperatureIn_18 : decode cX8_temperatureIn 18 = .ok (.iconst 1, 1) := by decide +kernel
theorem dX8_temperatureIn_19 : decode cX8_temperatureIn 19 = .ok (.goto 4, 3) := by decide +kernel
theorem dX8_temperatureIn_22 : decode cX8_temperatureIn 22 = .ok (.iconst 0, 1) := by decide +kernel
theorem dX8_temperatureIn_23 : decode cX8_temperatureIn 23 = .ok (.istore_n 3, 1) := by decide +kernel
theorem dX8_temperatureIn_24 : decode cX8_temperatureIn 24 = .ok (.iload_n 3, 1) := by decide +kernel
theorem dX8_temperatureIn_25 : decode cX8_temperatureIn 25 = .ok (.ifCond .eq 18, 3) := by decide +kernel
theorem dX8_temperatureIn_28 : decode cX8_temperatureIn 28 = .ok (.aload_n 0, 1) := by decide +kernel
theorem dX8_temperatureIn_29 : decode cX8_temperatureIn 29 = .ok (.getfield 9, 3) := by decide +kernel
theorem dX8_temperatureIn_32 : decode cX8_temperatureIn 32 = .ok (.getfield 107, 3) := by decide +kernel
theorem dX8_temperatureIn_35 : decode cX8_temperatureIn 35 = .ok (.iload_n 2, 1) := by decide +kernel
theorem dX8_temperatureIn_36 : decode cX8_temperatureIn 36 = .ok (.aaload, 1) := by decide +kernel
theorem dX8_temperatureIn_37 : decode cX8_temperatureIn 37 = .ok (.getfield 111, 3) := by decide +kernel
theorem dX8_temperatureIn_40 : decode cX8_temperatureIn 40 = .ok (.goto 7, 3) := by decide +kernel
theorem dX8_temperatureIn_43 : decode cX8_temperatureIn 43 = .ok (.aload_n 1, 1) := by decide +kernel
theorem dX8_temperatureIn_44 : decode cX8_temperatureIn 44 = .ok (.getfield 170, 3) := by decide +kernel
theorem dX8_temperatureIn_47 : decode cX8_temperatureIn 47 = .ok (.ireturn, 1) := by decide +kernel
def sX8_temperatureIn_23 (w : Wl) (o1 : Nat) (l2 : Int32) (s0 : Int32) : Option Int32 := (if s0 = 0 then some (w o1 7) else (idx l2 8).bind (fun c2 => some (w (13 + 2 * c2) 0)))
theorem tX8_temperatureIn_23 {X : Cx} {B : Bs} {sz : Nat} {G : Gf} {r : Int32} (hx : Fx X cX8_temperatureIn 4 RX8 1 0 0) (hr : Rt X (some .int) 0 0 (RdΨ (.int (r)) G sz)) : ∀ (w : Wl) (o1 : Nat) (l2 : Int32) (s0 : Int32) (ho1 : kd o1 = 9) (hW : Wd (xΓ X) B w G) (h : sX8_temperatureIn_23  w o1 l2 s0 = some r), J X 4 G sz 0 0 23 [some (.ref (B.1 + 75)), some (.ref (B.1 + o1)), some (.int l2), none] [.int s0] := by
  intro w o1 l2 s0 ho1 hW h
  unfold sX8_temperatureIn_23 at h
  refine J_is4 hx rfl (by decide) (hc_of rfl) rfl dX8_temperatureIn_23 ?_
  refine J_il4 hx rfl rfl dX8_temperatureIn_24 ?_
  refine J_if_eq hx 43 dX8_temperatureIn_25 rfl (fun h1 => ?_) (fun h1 => ?_)
  · replace h := pos h h1
    refine J_al4 hx rfl rfl dX8_temperatureIn_43 ?_
    refine g3_7 hx hW ho1 fl_X8_170 dX8_temperatureIn_44 ?_
    exact J_iretR hx hr dX8_temperatureIn_47 (Nat.le_refl 0) (Nat.le_refl 0) (Option.some.inj h)
  · replace h := neg h h1
    refine J_al4 hx rfl rfl dX8_temperatureIn_28 ?_
    refine g8_0 hx hW 1 (rfl : kd 75 = 13) fl_X8_9 rfl dX8_temperatureIn_29 ?_
    refine g6_9 hx hW 2 (rfl : kd 1 = 2) fl_X8_107 rfl dX8_temperatureIn_32 ?_
    refine J_il4 hx rfl rfl dX8_temperatureIn_35 ?_
    obtain ⟨c2, hc3, h⟩ := bnd h
    refine J_a3 hx hW (13 + 2 * c2) (rfl : kd 2 = 3) hc3 rfl dX8_temperatureIn_36 fun hk4 => ?_
    refine g9_0 hx hW hk4 fl_X8_111 dX8_temperatureIn_37 ?_
    refine J_goto hx 47 dX8_temperatureIn_40 rfl ?_
    exact J_iretR hx hr dX8_temperatureIn_47 (Nat.le_refl 0) (Nat.le_refl 0) (Option.some.inj h)
def sX8_temperatureIn (w : Wl) (o1 : Nat) (l2 : Int32) : Option Int32 := (if (w o1 1) = 0 then sX8_temperatureIn_23 w o1 l2 (0 : Int32) else (sX6_hasVenue w l2).bind (fun r2 => (if r2 = true then sX8_temperatureIn_23 w o1 l2 (1 : Int32) else sX8_temperatureIn_23 w o1 l2 (0 : Int32))))
theorem kX8_temperatureIn {l : Launch} {Γ : Gl} {B : Bs} {w : Wl} {G : Gf} {sz : Nat} {o1 : Nat} {l2 : Int32} {r : Int32} (ho1 : kd o1 = 9) (hW : Wd Γ B w G) (h : sX8_temperatureIn w o1 l2 = some r) : CtR l Γ yX8_temperatureIn cX8_temperatureIn 4 (some .int) 1 [.ref (B.1 + 75), .ref (B.1 + o1), .int l2] G sz (.int (r)) := by
  refine Ct.of rfl (Nat.le_of_ble_eq_true rfl) fun X hx hr hl hΓ hnm => ?_
  subst hl hΓ
  show J X 4 G sz 0 0 0 [some (.ref (B.1 + 75)), some (.ref (B.1 + o1)), some (.int l2), none] []
  unfold sX8_temperatureIn at h
  refine J_al4 hx rfl rfl dX8_temperatureIn_0 ?_
  refine g3_1 hx hW ho1 fl_X8_31 dX8_temperatureIn_1 ?_
  refine J_if_eq hx 22 dX8_temperatureIn_4 rfl (fun h1 => ?_) (fun h1 => ?_)
  · replace h := pos h h1
    refine J_iconst hx (0 : Int32) dX8_temperatureIn_22 rfl ?_
    exact tX8_temperatureIn_23 hx hr _ _ _ _ ho1 hW h
  · replace h := neg h h1
    refine J_al4 hx rfl rfl dX8_temperatureIn_7 ?_
    refine g8_0 hx hW 1 (rfl : kd 75 = 13) fl_X8_9 rfl dX8_temperatureIn_8 ?_
    refine J_il4 hx rfl rfl dX8_temperatureIn_11 ?_
    obtain ⟨r2, hr3, h⟩ := bnd h
    refine J_rdV hx (kX6_hasVenue  hW hr3) ml_X8_167 lk_X6_hasVenue (ci := 5) rfl (hW.obj (rfl : kd 1 = 2) (by decide) (by decide)) (rest := []) rfl rfl (by decide) (by decide) (Nat.le_of_ble_eq_true rfl) (Nat.le_refl 0) (Nat.le_refl 0) dX8_temperatureIn_12 ?_
    refine J_bif_eq hx 22 dX8_temperatureIn_15 rfl (fun h4 => ?_) (fun h4 => ?_)
    · replace h := neg h (bft h4)
      refine J_iconst hx (0 : Int32) dX8_temperatureIn_22 rfl ?_
      exact tX8_temperatureIn_23 hx hr _ _ _ _ ho1 hW h
    · replace h := pos h h4
      refine J_iconst hx (1 : Int32) dX8_temperatureIn_18 rfl ?_
      refine J_goto hx 23 dX8_temperatureIn_19 rfl ?_
      exact tX8_temperatureIn_23 hx hr _ _ _ _ ho1 hW h
theorem dX8_humidityIn_0 : decode cX8_humidityIn 0 = .ok (.aload_n 1, 1) := by decide +kernel
theorem dX8_humidityIn_1 : decode cX8_humidityIn 1 = .ok (.getfield 31, 3) := by decide +kernel
theorem dX8_humidityIn_4 : decode cX8_humidityIn 4 = .ok (.ifCond .eq 18, 3) := by decide +kernel
theorem dX8_humidityIn_7 : decode cX8_humidityIn 7 = .ok (.aload_n 0, 1) := by decide +kernel
theorem dX8_humidityIn_8 : decode cX8_humidityIn 8 = .ok (.getfield 9, 3) := by decide +kernel
theorem dX8_humidityIn_11 : decode cX8_humidityIn 11 = .ok (.iload_n 2, 1) := by decide +kernel
theorem dX8_humidityIn_12 : decode cX8_humidityIn 12 = .ok (.invokevirtual 167, 3) := by decide +kernel
theorem dX8_humidityIn_15 : decode cX8_humidityIn 15 = .ok (.ifCond .eq 7, 3) := by decide +kernel
theorem dX8_humidityIn_18 : decode cX8_humidityIn 18 = .ok (.iconst 1, 1) := by decide +kernel
theorem dX8_humidityIn_19 : decode cX8_humidityIn 19 = .ok (.goto 4, 3) := by decide +kernel
theorem dX8_humidityIn_22 : decode cX8_humidityIn 22 = .ok (.iconst 0, 1) := by decide +kernel
theorem dX8_humidityIn_23 : decode cX8_humidityIn 23 = .ok (.istore_n 3, 1) := by decide +kernel
theorem dX8_humidityIn_24 : decode cX8_humidityIn 24 = .ok (.iload_n 3, 1) := by decide +kernel
theorem dX8_humidityIn_25 : decode cX8_humidityIn 25 = .ok (.ifCond .eq 18, 3) := by decide +kernel
theorem dX8_humidityIn_28 : decode cX8_humidityIn 28 = .ok (.aload_n 0, 1) := by decide +kernel
theorem dX8_humidityIn_29 : decode cX8_humidityIn 29 = .ok (.getfield 9, 3) := by decide +kernel
theorem dX8_humidityIn_32 : decode cX8_humidityIn 32 = .ok (.getfield 107, 3) := by decide +kernel
theorem dX8_humidityIn_35 : decode cX8_humidityIn 35 = .ok (.iload_n 2, 1) := by decide +kernel
theorem dX8_humidityIn_36 : decode cX8_humidityIn 36 = .ok (.aaload, 1) := by decide +kernel
theorem dX8_humidityIn_37 : decode cX8_humidityIn 37 = .ok (.getfield 116, 3) := by decide +kernel
theorem dX8_humidityIn_40 : decode cX8_humidityIn 40 = .ok (.goto 7, 3) := by decide +kernel
theorem dX8_humidityIn_43 : decode cX8_humidityIn 43 = .ok (.aload_n 1, 1) := by decide +kernel
theorem dX8_humidityIn_44 : decode cX8_humidityIn 44 = .ok (.getfield 171, 3) := by decide +kernel
theorem dX8_humidityIn_47 : decode cX8_humidityIn 47 = .ok (.ireturn, 1) := by decide +kernel
def sX8_humidityIn_23 (w : Wl) (o1 : Nat) (l2 : Int32) (s0 : Int32) : Option Int32 := (if s0 = 0 then some (w o1 8) else (idx l2 8).bind (fun c2 => some (w (13 + 2 * c2) 1)))
theorem tX8_humidityIn_23 {X : Cx} {B : Bs} {sz : Nat} {G : Gf} {r : Int32} (hx : Fx X cX8_humidityIn 4 RX8 1 0 0) (hr : Rt X (some .int) 0 0 (RdΨ (.int (r)) G sz)) : ∀ (w : Wl) (o1 : Nat) (l2 : Int32) (s0 : Int32) (ho1 : kd o1 = 9) (hW : Wd (xΓ X) B w G) (h : sX8_humidityIn_23  w o1 l2 s0 = some r), J X 4 G sz 0 0 23 [some (.ref (B.1 + 75)), some (.ref (B.1 + o1)), some (.int l2), none] [.int s0] := by
  intro w o1 l2 s0 ho1 hW h
  unfold sX8_humidityIn_23 at h
  refine J_is4 hx rfl (by decide) (hc_of rfl) rfl dX8_humidityIn_23 ?_
  refine J_il4 hx rfl rfl dX8_humidityIn_24 ?_
  refine J_if_eq hx 43 dX8_humidityIn_25 rfl (fun h1 => ?_) (fun h1 => ?_)
  · replace h := pos h h1
    refine J_al4 hx rfl rfl dX8_humidityIn_43 ?_
    refine g3_8 hx hW ho1 fl_X8_171 dX8_humidityIn_44 ?_
    exact J_iretR hx hr dX8_humidityIn_47 (Nat.le_refl 0) (Nat.le_refl 0) (Option.some.inj h)
  · replace h := neg h h1
    refine J_al4 hx rfl rfl dX8_humidityIn_28 ?_
    refine g8_0 hx hW 1 (rfl : kd 75 = 13) fl_X8_9 rfl dX8_humidityIn_29 ?_
    refine g6_9 hx hW 2 (rfl : kd 1 = 2) fl_X8_107 rfl dX8_humidityIn_32 ?_
    refine J_il4 hx rfl rfl dX8_humidityIn_35 ?_
    obtain ⟨c2, hc3, h⟩ := bnd h
    refine J_a3 hx hW (13 + 2 * c2) (rfl : kd 2 = 3) hc3 rfl dX8_humidityIn_36 fun hk4 => ?_
    refine g9_1 hx hW hk4 fl_X8_116 dX8_humidityIn_37 ?_
    refine J_goto hx 47 dX8_humidityIn_40 rfl ?_
    exact J_iretR hx hr dX8_humidityIn_47 (Nat.le_refl 0) (Nat.le_refl 0) (Option.some.inj h)
def sX8_humidityIn (w : Wl) (o1 : Nat) (l2 : Int32) : Option Int32 := (if (w o1 1) = 0 then sX8_humidityIn_23 w o1 l2 (0 : Int32) else (sX6_hasVenue w l2).bind (fun r2 => (if r2 = true then sX8_humidityIn_23 w o1 l2 (1 : Int32) else sX8_humidityIn_23 w o1 l2 (0 : Int32))))
theorem kX8_humidityIn {l : Launch} {Γ : Gl} {B : Bs} {w : Wl} {G : Gf} {sz : Nat} {o1 : Nat} {l2 : Int32} {r : Int32} (ho1 : kd o1 = 9) (hW : Wd Γ B w G) (h : sX8_humidityIn w o1 l2 = some r) : CtR l Γ yX8_humidityIn cX8_humidityIn 4 (some .int) 1 [.ref (B.1 + 75), .ref (B.1 + o1), .int l2] G sz (.int (r)) := by
  refine Ct.of rfl (Nat.le_of_ble_eq_true rfl) fun X hx hr hl hΓ hnm => ?_
  subst hl hΓ
  show J X 4 G sz 0 0 0 [some (.ref (B.1 + 75)), some (.ref (B.1 + o1)), some (.int l2), none] []
  unfold sX8_humidityIn at h
  refine J_al4 hx rfl rfl dX8_humidityIn_0 ?_
  refine g3_1 hx hW ho1 fl_X8_31 dX8_humidityIn_1 ?_
  refine J_if_eq hx 22 dX8_humidityIn_4 rfl (fun h1 => ?_) (fun h1 => ?_)
  · replace h := pos h h1
    refine J_iconst hx (0 : Int32) dX8_humidityIn_22 rfl ?_
    exact tX8_humidityIn_23 hx hr _ _ _ _ ho1 hW h
  · replace h := neg h h1
    refine J_al4 hx rfl rfl dX8_humidityIn_7 ?_
    refine g8_0 hx hW 1 (rfl : kd 75 = 13) fl_X8_9 rfl dX8_humidityIn_8 ?_
    refine J_il4 hx rfl rfl dX8_humidityIn_11 ?_
    obtain ⟨r2, hr3, h⟩ := bnd h
    refine J_rdV hx (kX6_hasVenue  hW hr3) ml_X8_167 lk_X6_hasVenue (ci := 5) rfl (hW.obj (rfl : kd 1 = 2) (by decide) (by decide)) (rest := []) rfl rfl (by decide) (by decide) (Nat.le_of_ble_eq_true rfl) (Nat.le_refl 0) (Nat.le_refl 0) dX8_humidityIn_12 ?_
    refine J_bif_eq hx 22 dX8_humidityIn_15 rfl (fun h4 => ?_) (fun h4 => ?_)
    · replace h := neg h (bft h4)
      refine J_iconst hx (0 : Int32) dX8_humidityIn_22 rfl ?_
      exact tX8_humidityIn_23 hx hr _ _ _ _ ho1 hW h
    · replace h := pos h h4
      refine J_iconst hx (1 : Int32) dX8_humidityIn_18 rfl ?_
      refine J_goto hx 23 dX8_humidityIn_19 rfl ?_
      exact tX8_humidityIn_23 hx hr _ _ _ _ ho1 hW h
theorem dX8_hoursNeeded_0 : decode cX8_hoursNeeded 0 = .ok (.aload_n 1, 1) := by decide +kernel
theorem dX8_hoursNeeded_1 : decode cX8_hoursNeeded 1 = .ok (.getfield 31, 3) := by decide +kernel
theorem dX8_hoursNeeded_4 : decode cX8_hoursNeeded 4 = .ok (.ifCond .ne 18, 3) := by decide +kernel
theorem dX8_hoursNeeded_7 : decode cX8_hoursNeeded 7 = .ok (.aload_n 0, 1) := by decide +kernel
theorem dX8_hoursNeeded_8 : decode cX8_hoursNeeded 8 = .ok (.getfield 9, 3) := by decide +kernel
theorem dX8_hoursNeeded_11 : decode cX8_hoursNeeded 11 = .ok (.iload_n 2, 1) := by decide +kernel
theorem dX8_hoursNeeded_12 : decode cX8_hoursNeeded 12 = .ok (.invokevirtual 167, 3) := by decide +kernel
theorem dX8_hoursNeeded_15 : decode cX8_hoursNeeded 15 = .ok (.ifCond .eq 7, 3) := by decide +kernel
theorem dX8_hoursNeeded_18 : decode cX8_hoursNeeded 18 = .ok (.iconst 1, 1) := by decide +kernel
theorem dX8_hoursNeeded_19 : decode cX8_hoursNeeded 19 = .ok (.goto 4, 3) := by decide +kernel
theorem dX8_hoursNeeded_22 : decode cX8_hoursNeeded 22 = .ok (.iconst 0, 1) := by decide +kernel
theorem dX8_hoursNeeded_23 : decode cX8_hoursNeeded 23 = .ok (.istore_n 3, 1) := by decide +kernel
theorem dX8_hoursNeeded_24 : decode cX8_hoursNeeded 24 = .ok (.iload_n 3, 1) := by decide +kernel
theorem dX8_hoursNeeded_25 : decode cX8_hoursNeeded 25 = .ok (.ifCond .eq 19, 3) := by decide +kernel
theorem dX8_hoursNeeded_28 : decode cX8_hoursNeeded 28 = .ok (.aload_n 1, 1) := by decide +kernel
theorem dX8_hoursNeeded_29 : decode cX8_hoursNeeded 29 = .ok (.aload_n 0, 1) := by decide +kernel
theorem dX8_hoursNeeded_30 : decode cX8_hoursNeeded 30 = .ok (.getfield 9, 3) := by decide +kernel
theorem dX8_hoursNeeded_33 : decode cX8_hoursNeeded 33 = .ok (.getfield 107, 3) := by decide +kernel
theorem dX8_hoursNeeded_36 : decode cX8_hoursNeeded 36 = .ok (.iload_n 2, 1) := by decide +kernel
theorem dX8_hoursNeeded_37 : decode cX8_hoursNeeded 37 = .ok (.aaload, 1) := by decide +kernel
theorem dX8_hoursNeeded_38 : decode cX8_hoursNeeded 38 = .ok (.invokevirtual 172, 3) := by decide +kernel
theorem dX8_hoursNeeded_41 : decode cX8_hoursNeeded 41 = .ok (.goto 4, 3) := by decide +kernel
theorem dX8_hoursNeeded_44 : decode cX8_hoursNeeded 44 = .ok (.iconst (-1), 1) := by decide +kernel
theorem dX8_hoursNeeded_45 : decode cX8_hoursNeeded 45 = .ok (.ireturn, 1) := by decide +kernel
def sX8_hoursNeeded_23 (w : Wl) (o1 : Nat) (l2 : Int32) (s0 : Int32) : Option Int32 := (if s0 = 0 then some (-1 : Int32) else (idx l2 8).bind (fun c2 => (sX3_hoursNeededAt w o1 (13 + 2 * c2)).bind (fun r5 => some r5)))
theorem tX8_hoursNeeded_23 {X : Cx} {B : Bs} {sz : Nat} {G : Gf} {r : Int32} (hx : Fx X cX8_hoursNeeded 4 RX8 2 0 0) (hr : Rt X (some .int) 0 0 (RdΨ (.int (r)) G sz)) : ∀ (w : Wl) (o1 : Nat) (l2 : Int32) (s0 : Int32) (ho1 : kd o1 = 9) (hW : Wd (xΓ X) B w G) (h : sX8_hoursNeeded_23  w o1 l2 s0 = some r), J X 4 G sz 0 0 23 [some (.ref (B.1 + 75)), some (.ref (B.1 + o1)), some (.int l2), none] [.int s0] := by
  intro w o1 l2 s0 ho1 hW h
  unfold sX8_hoursNeeded_23 at h
  refine J_is4 hx rfl (by decide) (hc_of rfl) rfl dX8_hoursNeeded_23 ?_
  refine J_il4 hx rfl rfl dX8_hoursNeeded_24 ?_
  refine J_if_eq hx 44 dX8_hoursNeeded_25 rfl (fun h1 => ?_) (fun h1 => ?_)
  · replace h := pos h h1
    refine J_iconst hx (-1 : Int32) dX8_hoursNeeded_44 rfl ?_
    exact J_iretR hx hr dX8_hoursNeeded_45 (Nat.le_refl 0) (Nat.le_refl 0) (Option.some.inj h)
  · replace h := neg h h1
    refine J_al4 hx rfl rfl dX8_hoursNeeded_28 ?_
    refine J_al4 hx rfl rfl dX8_hoursNeeded_29 ?_
    refine g8_0 hx hW 1 (rfl : kd 75 = 13) fl_X8_9 rfl dX8_hoursNeeded_30 ?_
    refine g6_9 hx hW 2 (rfl : kd 1 = 2) fl_X8_107 rfl dX8_hoursNeeded_33 ?_
    refine J_il4 hx rfl rfl dX8_hoursNeeded_36 ?_
    obtain ⟨c2, hc3, h⟩ := bnd h
    refine J_a3 hx hW (13 + 2 * c2) (rfl : kd 2 = 3) hc3 rfl dX8_hoursNeeded_37 fun hk4 => ?_
    obtain ⟨r5, hr6, h⟩ := bnd h
    refine J_rdV hx (kX3_hoursNeededAt ho1 hk4 hW hr6) ml_X8_172 lk_X3_hoursNeededAt (ci := 2) rfl (hW.obj ho1 (by decide) (by decide)) (rest := []) rfl rfl (by decide) (by decide) (Nat.le_of_ble_eq_true rfl) (Nat.le_refl 0) (Nat.le_refl 0) dX8_hoursNeeded_38 ?_
    refine J_goto hx 45 dX8_hoursNeeded_41 rfl ?_
    exact J_iretR hx hr dX8_hoursNeeded_45 (Nat.le_refl 0) (Nat.le_refl 0) (Option.some.inj h)
def sX8_hoursNeeded (w : Wl) (o1 : Nat) (l2 : Int32) : Option Int32 := (if (w o1 1) = 0 then (sX6_hasVenue w l2).bind (fun r2 => (if r2 = true then sX8_hoursNeeded_23 w o1 l2 (1 : Int32) else sX8_hoursNeeded_23 w o1 l2 (0 : Int32))) else sX8_hoursNeeded_23 w o1 l2 (0 : Int32))
theorem kX8_hoursNeeded {l : Launch} {Γ : Gl} {B : Bs} {w : Wl} {G : Gf} {sz : Nat} {o1 : Nat} {l2 : Int32} {r : Int32} (ho1 : kd o1 = 9) (hW : Wd Γ B w G) (h : sX8_hoursNeeded w o1 l2 = some r) : CtR l Γ yX8_hoursNeeded cX8_hoursNeeded 4 (some .int) 2 [.ref (B.1 + 75), .ref (B.1 + o1), .int l2] G sz (.int (r)) := by
  refine Ct.of rfl (Nat.le_of_ble_eq_true rfl) fun X hx hr hl hΓ hnm => ?_
  subst hl hΓ
  show J X 4 G sz 0 0 0 [some (.ref (B.1 + 75)), some (.ref (B.1 + o1)), some (.int l2), none] []
  unfold sX8_hoursNeeded at h
  refine J_al4 hx rfl rfl dX8_hoursNeeded_0 ?_
  refine g3_1 hx hW ho1 fl_X8_31 dX8_hoursNeeded_1 ?_
  refine J_if_ne hx 22 dX8_hoursNeeded_4 rfl (fun h1 => ?_) (fun h1 => ?_)
  · replace h := neg h h1
    refine J_iconst hx (0 : Int32) dX8_hoursNeeded_22 rfl ?_
    exact tX8_hoursNeeded_23 hx hr _ _ _ _ ho1 hW h
  · replace h := pos h h1
    refine J_al4 hx rfl rfl dX8_hoursNeeded_7 ?_
    refine g8_0 hx hW 1 (rfl : kd 75 = 13) fl_X8_9 rfl dX8_hoursNeeded_8 ?_
    refine J_il4 hx rfl rfl dX8_hoursNeeded_11 ?_
    obtain ⟨r2, hr3, h⟩ := bnd h
    refine J_rdV hx (kX6_hasVenue  hW hr3) ml_X8_167 lk_X6_hasVenue (ci := 5) rfl (hW.obj (rfl : kd 1 = 2) (by decide) (by decide)) (rest := []) rfl rfl (by decide) (by decide) (Nat.le_of_ble_eq_true rfl) (Nat.le_refl 0) (Nat.le_refl 0) dX8_hoursNeeded_12 ?_
    refine J_bif_eq hx 22 dX8_hoursNeeded_15 rfl (fun h4 => ?_) (fun h4 => ?_)
    · replace h := neg h (bft h4)
      refine J_iconst hx (0 : Int32) dX8_hoursNeeded_22 rfl ?_
      exact tX8_hoursNeeded_23 hx hr _ _ _ _ ho1 hW h
    · replace h := pos h h4
      refine J_iconst hx (1 : Int32) dX8_hoursNeeded_18 rfl ?_
      refine J_goto hx 23 dX8_hoursNeeded_19 rfl ?_
      exact tX8_hoursNeeded_23 hx hr _ _ _ _ ho1 hW h
theorem dX8_ofCrate_0 : decode cX8_ofCrate 0 = .ok (.aload_n 0, 1) := by decide +kernel
theorem dX8_ofCrate_1 : decode cX8_ofCrate 1 = .ok (.getfield 9, 3) := by decide +kernel
theorem dX8_ofCrate_4 : decode cX8_ofCrate 4 = .ok (.getfield 15, 3) := by decide +kernel
theorem dX8_ofCrate_7 : decode cX8_ofCrate 7 = .ok (.iload_n 1, 1) := by decide +kernel
theorem dX8_ofCrate_8 : decode cX8_ofCrate 8 = .ok (.aaload, 1) := by decide +kernel
theorem dX8_ofCrate_9 : decode cX8_ofCrate 9 = .ok (.astore_n 3, 1) := by decide +kernel
theorem dX8_ofCrate_10 : decode cX8_ofCrate 10 = .ok (.aload_n 0, 1) := by decide +kernel
theorem dX8_ofCrate_11 : decode cX8_ofCrate 11 = .ok (.getfield 9, 3) := by decide +kernel
theorem dX8_ofCrate_14 : decode cX8_ofCrate 14 = .ok (.getfield 15, 3) := by decide +kernel
theorem dX8_ofCrate_17 : decode cX8_ofCrate 17 = .ok (.aload_n 0, 1) := by decide +kernel
theorem dX8_ofCrate_18 : decode cX8_ofCrate 18 = .ok (.getfield 9, 3) := by decide +kernel
theorem dX8_ofCrate_21 : decode cX8_ofCrate 21 = .ok (.iload_n 1, 1) := by decide +kernel
theorem dX8_ofCrate_22 : decode cX8_ofCrate 22 = .ok (.invokevirtual 21, 3) := by decide +kernel
theorem dX8_ofCrate_25 : decode cX8_ofCrate 25 = .ok (.aaload, 1) := by decide +kernel
theorem dX8_ofCrate_26 : decode cX8_ofCrate 26 = .ok (.astore 4, 2) := by decide +kernel
theorem dX8_ofCrate_28 : decode cX8_ofCrate 28 = .ok (.iload_n 2, 1) := by decide +kernel
theorem dX8_ofCrate_29 : decode cX8_ofCrate 29 = .ok (.tableswitch 179 0 12 #[67, 72, 80, 85, 91, 97, 103, 114, 125, 141, 152, 161, 170], 67) := by decide +kernel
theorem dX8_ofCrate_96 : decode cX8_ofCrate 96 = .ok (.aload_n 3, 1) := by decide +kernel
theorem dX8_ofCrate_97 : decode cX8_ofCrate 97 = .ok (.getfield 25, 3) := by decide +kernel
theorem dX8_ofCrate_100 : decode cX8_ofCrate 100 = .ok (.ireturn, 1) := by decide +kernel
theorem dX8_ofCrate_101 : decode cX8_ofCrate 101 = .ok (.aload_n 3, 1) := by decide +kernel
theorem dX8_ofCrate_102 : decode cX8_ofCrate 102 = .ok (.getfield 31, 3) := by decide +kernel
theorem dX8_ofCrate_105 : decode cX8_ofCrate 105 = .ok (.invokestatic 35, 3) := by decide +kernel
theorem dX8_ofCrate_108 : decode cX8_ofCrate 108 = .ok (.ireturn, 1) := by decide +kernel
theorem dX8_ofCrate_109 : decode cX8_ofCrate 109 = .ok (.aload_n 3, 1) := by decide +kernel
theorem dX8_ofCrate_110 : decode cX8_ofCrate 110 = .ok (.getfield 39, 3) := by decide +kernel
theorem dX8_ofCrate_113 : decode cX8_ofCrate 113 = .ok (.ireturn, 1) := by decide +kernel
theorem dX8_ofCrate_114 : decode cX8_ofCrate 114 = .ok (.aload 4, 2) := by decide +kernel
theorem dX8_ofCrate_116 : decode cX8_ofCrate 116 = .ok (.getfield 42, 3) := by decide +kernel
theorem dX8_ofCrate_119 : decode cX8_ofCrate 119 = .ok (.ireturn, 1) := by decide +kernel
theorem dX8_ofCrate_120 : decode cX8_ofCrate 120 = .ok (.aload 4, 2) := by decide +kernel
theorem dX8_ofCrate_122 : decode cX8_ofCrate 122 = .ok (.getfield 45, 3) := by decide +kernel
theorem dX8_ofCrate_125 : decode cX8_ofCrate 125 = .ok (.ireturn, 1) := by decide +kernel
theorem dX8_ofCrate_126 : decode cX8_ofCrate 126 = .ok (.aload 4, 2) := by decide +kernel
theorem dX8_ofCrate_128 : decode cX8_ofCrate 128 = .ok (.getfield 48, 3) := by decide +kernel
theorem dX8_ofCrate_131 : decode cX8_ofCrate 131 = .ok (.ireturn, 1) := by decide +kernel
theorem dX8_ofCrate_132 : decode cX8_ofCrate 132 = .ok (.aload_n 0, 1) := by decide +kernel
theorem dX8_ofCrate_133 : decode cX8_ofCrate 133 = .ok (.aload_n 3, 1) := by decide +kernel
theorem dX8_ofCrate_134 : decode cX8_ofCrate 134 = .ok (.aload 4, 2) := by decide +kernel
theorem dX8_ofCrate_136 : decode cX8_ofCrate 136 = .ok (.getfield 42, 3) := by decide +kernel
theorem dX8_ofCrate_139 : decode cX8_ofCrate 139 = .ok (.invokevirtual 51, 3) := by decide +kernel
theorem dX8_ofCrate_142 : decode cX8_ofCrate 142 = .ok (.ireturn, 1) := by decide +kernel
theorem dX8_ofCrate_143 : decode cX8_ofCrate 143 = .ok (.aload_n 0, 1) := by decide +kernel
theorem dX8_ofCrate_144 : decode cX8_ofCrate 144 = .ok (.aload_n 3, 1) := by decide +kernel
theorem dX8_ofCrate_145 : decode cX8_ofCrate 145 = .ok (.aload 4, 2) := by decide +kernel
theorem dX8_ofCrate_147 : decode cX8_ofCrate 147 = .ok (.getfield 42, 3) := by decide +kernel
theorem dX8_ofCrate_150 : decode cX8_ofCrate 150 = .ok (.invokevirtual 55, 3) := by decide +kernel
theorem dX8_ofCrate_153 : decode cX8_ofCrate 153 = .ok (.ireturn, 1) := by decide +kernel
theorem dX8_ofCrate_154 : decode cX8_ofCrate 154 = .ok (.aload_n 3, 1) := by decide +kernel
theorem dX8_ofCrate_155 : decode cX8_ofCrate 155 = .ok (.getfield 31, 3) := by decide +kernel
theorem dX8_ofCrate_158 : decode cX8_ofCrate 158 = .ok (.ifCond .eq 7, 3) := by decide +kernel
theorem dX8_ofCrate_161 : decode cX8_ofCrate 161 = .ok (.iconst (-1), 1) := by decide +kernel
theorem dX8_ofCrate_162 : decode cX8_ofCrate 162 = .ok (.goto 7, 3) := by decide +kernel
theorem dX8_ofCrate_165 : decode cX8_ofCrate 165 = .ok (.aload_n 3, 1) := by decide +kernel
theorem dX8_ofCrate_166 : decode cX8_ofCrate 166 = .ok (.getfield 58, 3) := by decide +kernel
theorem dX8_ofCrate_169 : decode cX8_ofCrate 169 = .ok (.ireturn, 1) := by decide +kernel
theorem dX8_ofCrate_170 : decode cX8_ofCrate 170 = .ok (.aload_n 0, 1) := by decide +kernel
theorem dX8_ofCrate_171 : decode cX8_ofCrate 171 = .ok (.aload_n 3, 1) := by decide +kernel
theorem dX8_ofCrate_172 : decode cX8_ofCrate 172 = .ok (.aload 4, 2) := by decide +kernel
theorem dX8_ofCrate_174 : decode cX8_ofCrate 174 = .ok (.getfield 42, 3) := by decide +kernel
theorem dX8_ofCrate_177 : decode cX8_ofCrate 177 = .ok (.invokevirtual 61, 3) := by decide +kernel
theorem dX8_ofCrate_180 : decode cX8_ofCrate 180 = .ok (.ireturn, 1) := by decide +kernel
theorem dX8_ofCrate_181 : decode cX8_ofCrate 181 = .ok (.aload_n 0, 1) := by decide +kernel
theorem dX8_ofCrate_182 : decode cX8_ofCrate 182 = .ok (.getfield 9, 3) := by decide +kernel
theorem dX8_ofCrate_185 : decode cX8_ofCrate 185 = .ok (.iload_n 1, 1) := by decide +kernel
theorem dX8_ofCrate_186 : decode cX8_ofCrate 186 = .ok (.invokevirtual 64, 3) := by decide +kernel
theorem dX8_ofCrate_189 : decode cX8_ofCrate 189 = .ok (.ireturn, 1) := by decide +kernel
theorem dX8_ofCrate_190 : decode cX8_ofCrate 190 = .ok (.aload_n 0, 1) := by decide +kernel
theorem dX8_ofCrate_191 : decode cX8_ofCrate 191 = .ok (.getfield 9, 3) := by decide +kernel
theorem dX8_ofCrate_194 : decode cX8_ofCrate 194 = .ok (.iload_n 1, 1) := by decide +kernel
theorem dX8_ofCrate_195 : decode cX8_ofCrate 195 = .ok (.invokevirtual 67, 3) := by decide +kernel
theorem dX8_ofCrate_198 : decode cX8_ofCrate 198 = .ok (.ireturn, 1) := by decide +kernel
theorem dX8_ofCrate_199 : decode cX8_ofCrate 199 = .ok (.aload_n 0, 1) := by decide +kernel
theorem dX8_ofCrate_200 : decode cX8_ofCrate 200 = .ok (.getfield 9, 3) := by decide +kernel
theorem dX8_ofCrate_203 : decode cX8_ofCrate 203 = .ok (.iload_n 1, 1) := by decide +kernel
theorem dX8_ofCrate_204 : decode cX8_ofCrate 204 = .ok (.invokevirtual 70, 3) := by decide +kernel
theorem dX8_ofCrate_207 : decode cX8_ofCrate 207 = .ok (.ireturn, 1) := by decide +kernel
theorem dX8_ofCrate_208 : decode cX8_ofCrate 208 = .ok (.aload_n 0, 1) := by decide +kernel
theorem dX8_ofCrate_209 : decode cX8_ofCrate 209 = .ok (.getfield 9, 3) := by decide +kernel
theorem dX8_ofCrate_212 : decode cX8_ofCrate 212 = .ok (.iload_n 1, 1) := by decide +kernel
theorem dX8_ofCrate_213 : decode cX8_ofCrate 213 = .ok (.invokevirtual 73, 3) := by decide +kernel
theorem dX8_ofCrate_216 : decode cX8_ofCrate 216 = .ok (.invokestatic 35, 3) := by decide +kernel
theorem dX8_ofCrate_219 : decode cX8_ofCrate 219 = .ok (.ireturn, 1) := by decide +kernel
def sX8_ofCrate (w : Wl) (l1 : Int32) (l2 : Int32) : Option Int32 := (idx l1 12).bind (fun c1 => (sX6_outermost w l1).bind (fun r4 => (idx r4 12).bind (fun c6 => (if l2 = 0 then some (w (29 + c1) 0) else (if l2 = 1 then (sX8_asNumber w (w (29 + c1) 1)).bind (fun r11 => some r11) else (if l2 = 2 then some (w (29 + c1) 2) else (if l2 = 3 then some (w (29 + c6) 3) else (if l2 = 4 then some (w (29 + c6) 4) else (if l2 = 5 then some (w (29 + c6) 5) else (if l2 = 6 then (sX8_temperatureIn w (29 + c1) (w (29 + c6) 3)).bind (fun r18 => some r18) else (if l2 = 7 then (sX8_humidityIn w (29 + c1) (w (29 + c6) 3)).bind (fun r21 => some r21) else (if l2 = 8 then (if (w (29 + c1) 1) = 0 then some (w (29 + c1) 9) else some (-1 : Int32)) else (if l2 = 9 then (sX8_hoursNeeded w (29 + c1) (w (29 + c6) 3)).bind (fun r26 => some r26) else (if l2 = 10 then (sX6_worksInOrBelow w l1).bind (fun r29 => some r29) else (if l2 = 11 then (sX6_cratesBelow w l1).bind (fun r32 => some r32) else (if l2 = 12 then (sX6_valueInOrBelow w l1).bind (fun r35 => some r35) else (sX6_isWithinReach w l1).bind (fun r37 => (sX8_asNumber w (bI r37)).bind (fun r39 => some r39))))))))))))))))))
theorem kX8_ofCrate {l : Launch} {Γ : Gl} {B : Bs} {w : Wl} {G : Gf} {sz : Nat} {l1 : Int32} {l2 : Int32} {r : Int32} (hW : Wd Γ B w G) (h : sX8_ofCrate w l1 l2 = some r) : CtR l Γ yX8_ofCrate cX8_ofCrate 5 (some .int) 3 [.ref (B.1 + 75), .int l1, .int l2] G sz (.int (r)) := by
  refine Ct.of rfl (Nat.le_of_ble_eq_true rfl) fun X hx hr hl hΓ hnm => ?_
  subst hl hΓ
  show J X 5 G sz 0 0 0 [some (.ref (B.1 + 75)), some (.int l1), some (.int l2), none, none] []
  unfold sX8_ofCrate at h
  refine J_al4 hx rfl rfl dX8_ofCrate_0 ?_
  refine g8_0 hx hW 1 (rfl : kd 75 = 13) fl_X8_9 rfl dX8_ofCrate_1 ?_
  refine g6_10 hx hW 3 (rfl : kd 1 = 2) fl_X8_15 rfl dX8_ofCrate_4 ?_
  refine J_il4 hx rfl rfl dX8_ofCrate_7 ?_
  obtain ⟨c1, hc2, h⟩ := bnd h
  refine J_a4 hx hW (29 + c1) (rfl : kd 3 = 4) hc2 rfl dX8_ofCrate_8 fun hk3 => ?_
  refine J_as4 hx rfl (by decide) (hc_of rfl) rfl dX8_ofCrate_9 ?_
  refine J_al4 hx rfl rfl dX8_ofCrate_10 ?_
  refine g8_0 hx hW 1 (rfl : kd 75 = 13) fl_X8_9 rfl dX8_ofCrate_11 ?_
  refine g6_10 hx hW 3 (rfl : kd 1 = 2) fl_X8_15 rfl dX8_ofCrate_14 ?_
  refine J_al4 hx rfl rfl dX8_ofCrate_17 ?_
  refine g8_0 hx hW 1 (rfl : kd 75 = 13) fl_X8_9 rfl dX8_ofCrate_18 ?_
  refine J_il4 hx rfl rfl dX8_ofCrate_21 ?_
  obtain ⟨r4, hr5, h⟩ := bnd h
  refine J_rdV hx (kX6_outermost  hW hr5) ml_X8_21 lk_X6_outermost (ci := 5) rfl (hW.obj (rfl : kd 1 = 2) (by decide) (by decide)) (rest := [.ref (B.1 + 3)]) rfl rfl (by decide) (by decide) (Nat.le_of_ble_eq_true rfl) (Nat.le_refl 0) (Nat.le_refl 0) dX8_ofCrate_22 ?_
  obtain ⟨c6, hc7, h⟩ := bnd h
  refine J_a4 hx hW (29 + c6) (rfl : kd 3 = 4) hc7 rfl dX8_ofCrate_25 fun hk8 => ?_
  refine J_as hx (by decide) (hc_of rfl) rfl dX8_ofCrate_26 ?_
  refine J_il4 hx rfl rfl dX8_ofCrate_28 ?_
  by_cases h9 : l2 = 0
  · replace h := pos h h9
    refine J_swIn hx 96 dX8_ofCrate_29 (by rw [h9]; decide) (by rw [h9]; decide) (by rw [h9]; rfl) rfl ?_
    refine J_al4 hx rfl rfl dX8_ofCrate_96 ?_
    refine g3_0 hx hW hk3 fl_X8_25 dX8_ofCrate_97 ?_
    exact J_iretR hx hr dX8_ofCrate_100 (Nat.le_refl 0) (Nat.le_refl 0) (Option.some.inj h)
  replace h := neg h h9
  by_cases h10 : l2 = 1
  · replace h := pos h h10
    refine J_swIn hx 101 dX8_ofCrate_29 (by rw [h10]; decide) (by rw [h10]; decide) (by rw [h10]; rfl) rfl ?_
    refine J_al4 hx rfl rfl dX8_ofCrate_101 ?_
    refine g3_1 hx hW hk3 fl_X8_31 dX8_ofCrate_102 ?_
    obtain ⟨r11, hr12, h⟩ := bnd h
    refine J_rdS hx (kX8_asNumber  hW hr12) ml_X8_35 lk_X8_asNumber (rest := []) rfl rfl (by decide) (by decide) (Nat.le_of_ble_eq_true rfl) (Nat.le_refl 0) (Nat.le_refl 0) dX8_ofCrate_105 ?_
    exact J_iretR hx hr dX8_ofCrate_108 (Nat.le_refl 0) (Nat.le_refl 0) (Option.some.inj h)
  replace h := neg h h10
  by_cases h13 : l2 = 2
  · replace h := pos h h13
    refine J_swIn hx 109 dX8_ofCrate_29 (by rw [h13]; decide) (by rw [h13]; decide) (by rw [h13]; rfl) rfl ?_
    refine J_al4 hx rfl rfl dX8_ofCrate_109 ?_
    refine g3_2 hx hW hk3 fl_X8_39 dX8_ofCrate_110 ?_
    exact J_iretR hx hr dX8_ofCrate_113 (Nat.le_refl 0) (Nat.le_refl 0) (Option.some.inj h)
  replace h := neg h h13
  by_cases h14 : l2 = 3
  · replace h := pos h h14
    refine J_swIn hx 114 dX8_ofCrate_29 (by rw [h14]; decide) (by rw [h14]; decide) (by rw [h14]; rfl) rfl ?_
    refine J_al hx rfl dX8_ofCrate_114 ?_
    refine g3_3 hx hW hk8 fl_X8_42 dX8_ofCrate_116 ?_
    exact J_iretR hx hr dX8_ofCrate_119 (Nat.le_refl 0) (Nat.le_refl 0) (Option.some.inj h)
  replace h := neg h h14
  by_cases h15 : l2 = 4
  · replace h := pos h h15
    refine J_swIn hx 120 dX8_ofCrate_29 (by rw [h15]; decide) (by rw [h15]; decide) (by rw [h15]; rfl) rfl ?_
    refine J_al hx rfl dX8_ofCrate_120 ?_
    refine g3_4 hx hW hk8 fl_X8_45 dX8_ofCrate_122 ?_
    exact J_iretR hx hr dX8_ofCrate_125 (Nat.le_refl 0) (Nat.le_refl 0) (Option.some.inj h)
  replace h := neg h h15
  by_cases h16 : l2 = 5
  · replace h := pos h h16
    refine J_swIn hx 126 dX8_ofCrate_29 (by rw [h16]; decide) (by rw [h16]; decide) (by rw [h16]; rfl) rfl ?_
    refine J_al hx rfl dX8_ofCrate_126 ?_
    refine g3_5 hx hW hk8 fl_X8_48 dX8_ofCrate_128 ?_
    exact J_iretR hx hr dX8_ofCrate_131 (Nat.le_refl 0) (Nat.le_refl 0) (Option.some.inj h)
  replace h := neg h h16
  by_cases h17 : l2 = 6
  · replace h := pos h h17
    refine J_swIn hx 132 dX8_ofCrate_29 (by rw [h17]; decide) (by rw [h17]; decide) (by rw [h17]; rfl) rfl ?_
    refine J_al4 hx rfl rfl dX8_ofCrate_132 ?_
    refine J_al4 hx rfl rfl dX8_ofCrate_133 ?_
    refine J_al hx rfl dX8_ofCrate_134 ?_
    refine g3_3 hx hW hk8 fl_X8_42 dX8_ofCrate_136 ?_
    obtain ⟨r18, hr19, h⟩ := bnd h
    refine J_rdV hx (kX8_temperatureIn hk3 hW hr19) ml_X8_51 lk_X8_temperatureIn (ci := 7) rfl (hW.obj (rfl : kd 75 = 13) (by decide) (by decide)) (rest := []) rfl rfl (by decide) (by decide) (Nat.le_of_ble_eq_true rfl) (Nat.le_refl 0) (Nat.le_refl 0) dX8_ofCrate_139 ?_
    exact J_iretR hx hr dX8_ofCrate_142 (Nat.le_refl 0) (Nat.le_refl 0) (Option.some.inj h)
  replace h := neg h h17
  by_cases h20 : l2 = 7
  · replace h := pos h h20
    refine J_swIn hx 143 dX8_ofCrate_29 (by rw [h20]; decide) (by rw [h20]; decide) (by rw [h20]; rfl) rfl ?_
    refine J_al4 hx rfl rfl dX8_ofCrate_143 ?_
    refine J_al4 hx rfl rfl dX8_ofCrate_144 ?_
    refine J_al hx rfl dX8_ofCrate_145 ?_
    refine g3_3 hx hW hk8 fl_X8_42 dX8_ofCrate_147 ?_
    obtain ⟨r21, hr22, h⟩ := bnd h
    refine J_rdV hx (kX8_humidityIn hk3 hW hr22) ml_X8_55 lk_X8_humidityIn (ci := 7) rfl (hW.obj (rfl : kd 75 = 13) (by decide) (by decide)) (rest := []) rfl rfl (by decide) (by decide) (Nat.le_of_ble_eq_true rfl) (Nat.le_refl 0) (Nat.le_refl 0) dX8_ofCrate_150 ?_
    exact J_iretR hx hr dX8_ofCrate_153 (Nat.le_refl 0) (Nat.le_refl 0) (Option.some.inj h)
  replace h := neg h h20
  by_cases h23 : l2 = 8
  · replace h := pos h h23
    refine J_swIn hx 154 dX8_ofCrate_29 (by rw [h23]; decide) (by rw [h23]; decide) (by rw [h23]; rfl) rfl ?_
    refine J_al4 hx rfl rfl dX8_ofCrate_154 ?_
    refine g3_1 hx hW hk3 fl_X8_31 dX8_ofCrate_155 ?_
    refine J_if_eq hx 165 dX8_ofCrate_158 rfl (fun h24 => ?_) (fun h24 => ?_)
    · replace h := pos h h24
      refine J_al4 hx rfl rfl dX8_ofCrate_165 ?_
      refine g3_9 hx hW hk3 fl_X8_58 dX8_ofCrate_166 ?_
      exact J_iretR hx hr dX8_ofCrate_169 (Nat.le_refl 0) (Nat.le_refl 0) (Option.some.inj h)
    · replace h := neg h h24
      refine J_iconst hx (-1 : Int32) dX8_ofCrate_161 rfl ?_
      refine J_goto hx 169 dX8_ofCrate_162 rfl ?_
      exact J_iretR hx hr dX8_ofCrate_169 (Nat.le_refl 0) (Nat.le_refl 0) (Option.some.inj h)
  replace h := neg h h23
  by_cases h25 : l2 = 9
  · replace h := pos h h25
    refine J_swIn hx 170 dX8_ofCrate_29 (by rw [h25]; decide) (by rw [h25]; decide) (by rw [h25]; rfl) rfl ?_
    refine J_al4 hx rfl rfl dX8_ofCrate_170 ?_
    refine J_al4 hx rfl rfl dX8_ofCrate_171 ?_
    refine J_al hx rfl dX8_ofCrate_172 ?_
    refine g3_3 hx hW hk8 fl_X8_42 dX8_ofCrate_174 ?_
    obtain ⟨r26, hr27, h⟩ := bnd h
    refine J_rdV hx (kX8_hoursNeeded hk3 hW hr27) ml_X8_61 lk_X8_hoursNeeded (ci := 7) rfl (hW.obj (rfl : kd 75 = 13) (by decide) (by decide)) (rest := []) rfl rfl (by decide) (by decide) (Nat.le_of_ble_eq_true rfl) (Nat.le_refl 0) (Nat.le_refl 0) dX8_ofCrate_177 ?_
    exact J_iretR hx hr dX8_ofCrate_180 (Nat.le_refl 0) (Nat.le_refl 0) (Option.some.inj h)
  replace h := neg h h25
  by_cases h28 : l2 = 10
  · replace h := pos h h28
    refine J_swIn hx 181 dX8_ofCrate_29 (by rw [h28]; decide) (by rw [h28]; decide) (by rw [h28]; rfl) rfl ?_
    refine J_al4 hx rfl rfl dX8_ofCrate_181 ?_
    refine g8_0 hx hW 1 (rfl : kd 75 = 13) fl_X8_9 rfl dX8_ofCrate_182 ?_
    refine J_il4 hx rfl rfl dX8_ofCrate_185 ?_
    obtain ⟨r29, hr30, h⟩ := bnd h
    refine J_rdV hx (kX6_worksInOrBelow  hW hr30) ml_X8_64 lk_X6_worksInOrBelow (ci := 5) rfl (hW.obj (rfl : kd 1 = 2) (by decide) (by decide)) (rest := []) rfl rfl (by decide) (by decide) (Nat.le_of_ble_eq_true rfl) (Nat.le_refl 0) (Nat.le_refl 0) dX8_ofCrate_186 ?_
    exact J_iretR hx hr dX8_ofCrate_189 (Nat.le_refl 0) (Nat.le_refl 0) (Option.some.inj h)
  replace h := neg h h28
  by_cases h31 : l2 = 11
  · replace h := pos h h31
    refine J_swIn hx 190 dX8_ofCrate_29 (by rw [h31]; decide) (by rw [h31]; decide) (by rw [h31]; rfl) rfl ?_
    refine J_al4 hx rfl rfl dX8_ofCrate_190 ?_
    refine g8_0 hx hW 1 (rfl : kd 75 = 13) fl_X8_9 rfl dX8_ofCrate_191 ?_
    refine J_il4 hx rfl rfl dX8_ofCrate_194 ?_
    obtain ⟨r32, hr33, h⟩ := bnd h
    refine J_rdV hx (kX6_cratesBelow  hW hr33) ml_X8_67 lk_X6_cratesBelow (ci := 5) rfl (hW.obj (rfl : kd 1 = 2) (by decide) (by decide)) (rest := []) rfl rfl (by decide) (by decide) (Nat.le_of_ble_eq_true rfl) (Nat.le_refl 0) (Nat.le_refl 0) dX8_ofCrate_195 ?_
    exact J_iretR hx hr dX8_ofCrate_198 (Nat.le_refl 0) (Nat.le_refl 0) (Option.some.inj h)
  replace h := neg h h31
  by_cases h34 : l2 = 12
  · replace h := pos h h34
    refine J_swIn hx 199 dX8_ofCrate_29 (by rw [h34]; decide) (by rw [h34]; decide) (by rw [h34]; rfl) rfl ?_
    refine J_al4 hx rfl rfl dX8_ofCrate_199 ?_
    refine g8_0 hx hW 1 (rfl : kd 75 = 13) fl_X8_9 rfl dX8_ofCrate_200 ?_
    refine J_il4 hx rfl rfl dX8_ofCrate_203 ?_
    obtain ⟨r35, hr36, h⟩ := bnd h
    refine J_rdV hx (kX6_valueInOrBelow  hW hr36) ml_X8_70 lk_X6_valueInOrBelow (ci := 5) rfl (hW.obj (rfl : kd 1 = 2) (by decide) (by decide)) (rest := []) rfl rfl (by decide) (by decide) (Nat.le_of_ble_eq_true rfl) (Nat.le_refl 0) (Nat.le_refl 0) dX8_ofCrate_204 ?_
    exact J_iretR hx hr dX8_ofCrate_207 (Nat.le_refl 0) (Nat.le_refl 0) (Option.some.inj h)
  replace h := neg h h34
  refine J_swOut hx 208 dX8_ofCrate_29 (swD fun j jl jh e => by
      have hj : j = 0 ∨ j = 1 ∨ j = 2 ∨ j = 3 ∨ j = 4 ∨ j = 5 ∨ j = 6 ∨ j = 7 ∨ j = 8 ∨ j = 9 ∨ j = 10 ∨ j = 11 ∨ j = 12 := by omega
      rcases hj with rfl | rfl | rfl | rfl | rfl | rfl | rfl | rfl | rfl | rfl | rfl | rfl | rfl <;> first | exact h9 e | exact h10 e | exact h13 e | exact h14 e | exact h15 e | exact h16 e | exact h17 e | exact h20 e | exact h23 e | exact h25 e | exact h28 e | exact h31 e | exact h34 e) rfl ?_
  refine J_al4 hx rfl rfl dX8_ofCrate_208 ?_
  refine g8_0 hx hW 1 (rfl : kd 75 = 13) fl_X8_9 rfl dX8_ofCrate_209 ?_
  refine J_il4 hx rfl rfl dX8_ofCrate_212 ?_
  obtain ⟨r37, hr38, h⟩ := bnd h
  refine J_rdV hx (kX6_isWithinReach  hW hr38) ml_X8_73 lk_X6_isWithinReach (ci := 5) rfl (hW.obj (rfl : kd 1 = 2) (by decide) (by decide)) (rest := []) rfl rfl (by decide) (by decide) (Nat.le_of_ble_eq_true rfl) (Nat.le_refl 0) (Nat.le_refl 0) dX8_ofCrate_213 ?_
  obtain ⟨r39, hr40, h⟩ := bnd h
  refine J_rdS hx (kX8_asNumber  hW hr40) ml_X8_35 lk_X8_asNumber (rest := []) rfl rfl (by decide) (by decide) (Nat.le_of_ble_eq_true rfl) (Nat.le_refl 0) (Nat.le_refl 0) dX8_ofCrate_216 ?_
  exact J_iretR hx hr dX8_ofCrate_219 (Nat.le_refl 0) (Nat.le_refl 0) (Option.some.inj h)
theorem dX8_ofWork_0 : decode cX8_ofWork 0 = .ok (.aload_n 0, 1) := by decide +kernel
theorem dX8_ofWork_1 : decode cX8_ofWork 1 = .ok (.getfield 9, 3) := by decide +kernel
theorem dX8_ofWork_4 : decode cX8_ofWork 4 = .ok (.getfield 77, 3) := by decide +kernel
theorem dX8_ofWork_7 : decode cX8_ofWork 7 = .ok (.iload_n 1, 1) := by decide +kernel
theorem dX8_ofWork_8 : decode cX8_ofWork 8 = .ok (.aaload, 1) := by decide +kernel
theorem dX8_ofWork_9 : decode cX8_ofWork 9 = .ok (.astore_n 3, 1) := by decide +kernel
theorem dX8_ofWork_10 : decode cX8_ofWork 10 = .ok (.iload_n 2, 1) := by decide +kernel
theorem dX8_ofWork_11 : decode cX8_ofWork 11 = .ok (.tableswitch 90 0 6 #[41, 46, 51, 56, 64, 69, 78], 41) := by decide +kernel
theorem dX8_ofWork_52 : decode cX8_ofWork 52 = .ok (.aload_n 3, 1) := by decide +kernel
theorem dX8_ofWork_53 : decode cX8_ofWork 53 = .ok (.getfield 81, 3) := by decide +kernel
theorem dX8_ofWork_56 : decode cX8_ofWork 56 = .ok (.ireturn, 1) := by decide +kernel
theorem dX8_ofWork_57 : decode cX8_ofWork 57 = .ok (.aload_n 3, 1) := by decide +kernel
theorem dX8_ofWork_58 : decode cX8_ofWork 58 = .ok (.getfield 86, 3) := by decide +kernel
theorem dX8_ofWork_61 : decode cX8_ofWork 61 = .ok (.ireturn, 1) := by decide +kernel
theorem dX8_ofWork_62 : decode cX8_ofWork 62 = .ok (.aload_n 3, 1) := by decide +kernel
theorem dX8_ofWork_63 : decode cX8_ofWork 63 = .ok (.getfield 89, 3) := by decide +kernel
theorem dX8_ofWork_66 : decode cX8_ofWork 66 = .ok (.ireturn, 1) := by decide +kernel
theorem dX8_ofWork_67 : decode cX8_ofWork 67 = .ok (.aload_n 3, 1) := by decide +kernel
theorem dX8_ofWork_68 : decode cX8_ofWork 68 = .ok (.getfield 92, 3) := by decide +kernel
theorem dX8_ofWork_71 : decode cX8_ofWork 71 = .ok (.invokestatic 35, 3) := by decide +kernel
theorem dX8_ofWork_74 : decode cX8_ofWork 74 = .ok (.ireturn, 1) := by decide +kernel
theorem dX8_ofWork_75 : decode cX8_ofWork 75 = .ok (.aload_n 3, 1) := by decide +kernel
theorem dX8_ofWork_76 : decode cX8_ofWork 76 = .ok (.getfield 95, 3) := by decide +kernel
theorem dX8_ofWork_79 : decode cX8_ofWork 79 = .ok (.ireturn, 1) := by decide +kernel
theorem dX8_ofWork_80 : decode cX8_ofWork 80 = .ok (.aload_n 0, 1) := by decide +kernel
theorem dX8_ofWork_81 : decode cX8_ofWork 81 = .ok (.getfield 9, 3) := by decide +kernel
theorem dX8_ofWork_84 : decode cX8_ofWork 84 = .ok (.iload_n 1, 1) := by decide +kernel
theorem dX8_ofWork_85 : decode cX8_ofWork 85 = .ok (.invokevirtual 98, 3) := by decide +kernel
theorem dX8_ofWork_88 : decode cX8_ofWork 88 = .ok (.ireturn, 1) := by decide +kernel
theorem dX8_ofWork_89 : decode cX8_ofWork 89 = .ok (.aload_n 0, 1) := by decide +kernel
theorem dX8_ofWork_90 : decode cX8_ofWork 90 = .ok (.getfield 9, 3) := by decide +kernel
theorem dX8_ofWork_93 : decode cX8_ofWork 93 = .ok (.aload_n 3, 1) := by decide +kernel
theorem dX8_ofWork_94 : decode cX8_ofWork 94 = .ok (.getfield 95, 3) := by decide +kernel
theorem dX8_ofWork_97 : decode cX8_ofWork 97 = .ok (.invokevirtual 101, 3) := by decide +kernel
theorem dX8_ofWork_100 : decode cX8_ofWork 100 = .ok (.ireturn, 1) := by decide +kernel
theorem dX8_ofWork_101 : decode cX8_ofWork 101 = .ok (.aload_n 3, 1) := by decide +kernel
theorem dX8_ofWork_102 : decode cX8_ofWork 102 = .ok (.getfield 104, 3) := by decide +kernel
theorem dX8_ofWork_105 : decode cX8_ofWork 105 = .ok (.ireturn, 1) := by decide +kernel
def sX8_ofWork (w : Wl) (l1 : Int32) (l2 : Int32) : Option Int32 := (idx l1 16).bind (fun c1 => (if l2 = 0 then some (w (41 + 2 * c1) 0) else (if l2 = 1 then some (w (41 + 2 * c1) 1) else (if l2 = 2 then some (w (41 + 2 * c1) 2) else (if l2 = 3 then (sX8_asNumber w (w (41 + 2 * c1) 3)).bind (fun r8 => some r8) else (if l2 = 4 then some (w (41 + 2 * c1) 4) else (if l2 = 5 then (sX6_venueOfWork w l1).bind (fun r12 => some r12) else (if l2 = 6 then (sX6_cratesOutwards w (w (41 + 2 * c1) 4)).bind (fun r15 => some r15) else some (w (41 + 2 * c1) 6)))))))))
theorem kX8_ofWork {l : Launch} {Γ : Gl} {B : Bs} {w : Wl} {G : Gf} {sz : Nat} {l1 : Int32} {l2 : Int32} {r : Int32} (hW : Wd Γ B w G) (h : sX8_ofWork w l1 l2 = some r) : CtR l Γ yX8_ofWork cX8_ofWork 4 (some .int) 2 [.ref (B.1 + 75), .int l1, .int l2] G sz (.int (r)) := by
  refine Ct.of rfl (Nat.le_of_ble_eq_true rfl) fun X hx hr hl hΓ hnm => ?_
  subst hl hΓ
  show J X 4 G sz 0 0 0 [some (.ref (B.1 + 75)), some (.int l1), some (.int l2), none] []
  unfold sX8_ofWork at h
  refine J_al4 hx rfl rfl dX8_ofWork_0 ?_
  refine g8_0 hx hW 1 (rfl : kd 75 = 13) fl_X8_9 rfl dX8_ofWork_1 ?_
  refine g6_11 hx hW 4 (rfl : kd 1 = 2) fl_X8_77 rfl dX8_ofWork_4 ?_
  refine J_il4 hx rfl rfl dX8_ofWork_7 ?_
  obtain ⟨c1, hc2, h⟩ := bnd h
  refine J_a5 hx hW (41 + 2 * c1) (rfl : kd 4 = 5) hc2 rfl dX8_ofWork_8 fun hk3 => ?_
  refine J_as4 hx rfl (by decide) (hc_of rfl) rfl dX8_ofWork_9 ?_
  refine J_il4 hx rfl rfl dX8_ofWork_10 ?_
  by_cases h4 : l2 = 0
  · replace h := pos h h4
    refine J_swIn hx 52 dX8_ofWork_11 (by rw [h4]; decide) (by rw [h4]; decide) (by rw [h4]; rfl) rfl ?_
    refine J_al4 hx rfl rfl dX8_ofWork_52 ?_
    refine g11_0 hx hW hk3 fl_X8_81 dX8_ofWork_53 ?_
    exact J_iretR hx hr dX8_ofWork_56 (Nat.le_refl 0) (Nat.le_refl 0) (Option.some.inj h)
  replace h := neg h h4
  by_cases h5 : l2 = 1
  · replace h := pos h h5
    refine J_swIn hx 57 dX8_ofWork_11 (by rw [h5]; decide) (by rw [h5]; decide) (by rw [h5]; rfl) rfl ?_
    refine J_al4 hx rfl rfl dX8_ofWork_57 ?_
    refine g11_1 hx hW hk3 fl_X8_86 dX8_ofWork_58 ?_
    exact J_iretR hx hr dX8_ofWork_61 (Nat.le_refl 0) (Nat.le_refl 0) (Option.some.inj h)
  replace h := neg h h5
  by_cases h6 : l2 = 2
  · replace h := pos h h6
    refine J_swIn hx 62 dX8_ofWork_11 (by rw [h6]; decide) (by rw [h6]; decide) (by rw [h6]; rfl) rfl ?_
    refine J_al4 hx rfl rfl dX8_ofWork_62 ?_
    refine g11_2 hx hW hk3 fl_X8_89 dX8_ofWork_63 ?_
    exact J_iretR hx hr dX8_ofWork_66 (Nat.le_refl 0) (Nat.le_refl 0) (Option.some.inj h)
  replace h := neg h h6
  by_cases h7 : l2 = 3
  · replace h := pos h h7
    refine J_swIn hx 67 dX8_ofWork_11 (by rw [h7]; decide) (by rw [h7]; decide) (by rw [h7]; rfl) rfl ?_
    refine J_al4 hx rfl rfl dX8_ofWork_67 ?_
    refine g11_3 hx hW hk3 fl_X8_92 dX8_ofWork_68 ?_
    obtain ⟨r8, hr9, h⟩ := bnd h
    refine J_rdS hx (kX8_asNumber  hW hr9) ml_X8_35 lk_X8_asNumber (rest := []) rfl rfl (by decide) (by decide) (Nat.le_of_ble_eq_true rfl) (Nat.le_refl 0) (Nat.le_refl 0) dX8_ofWork_71 ?_
    exact J_iretR hx hr dX8_ofWork_74 (Nat.le_refl 0) (Nat.le_refl 0) (Option.some.inj h)
  replace h := neg h h7
  by_cases h10 : l2 = 4
  · replace h := pos h h10
    refine J_swIn hx 75 dX8_ofWork_11 (by rw [h10]; decide) (by rw [h10]; decide) (by rw [h10]; rfl) rfl ?_
    refine J_al4 hx rfl rfl dX8_ofWork_75 ?_
    refine g11_4 hx hW hk3 fl_X8_95 dX8_ofWork_76 ?_
    exact J_iretR hx hr dX8_ofWork_79 (Nat.le_refl 0) (Nat.le_refl 0) (Option.some.inj h)
  replace h := neg h h10
  by_cases h11 : l2 = 5
  · replace h := pos h h11
    refine J_swIn hx 80 dX8_ofWork_11 (by rw [h11]; decide) (by rw [h11]; decide) (by rw [h11]; rfl) rfl ?_
    refine J_al4 hx rfl rfl dX8_ofWork_80 ?_
    refine g8_0 hx hW 1 (rfl : kd 75 = 13) fl_X8_9 rfl dX8_ofWork_81 ?_
    refine J_il4 hx rfl rfl dX8_ofWork_84 ?_
    obtain ⟨r12, hr13, h⟩ := bnd h
    refine J_rdV hx (kX6_venueOfWork  hW hr13) ml_X8_98 lk_X6_venueOfWork (ci := 5) rfl (hW.obj (rfl : kd 1 = 2) (by decide) (by decide)) (rest := []) rfl rfl (by decide) (by decide) (Nat.le_of_ble_eq_true rfl) (Nat.le_refl 0) (Nat.le_refl 0) dX8_ofWork_85 ?_
    exact J_iretR hx hr dX8_ofWork_88 (Nat.le_refl 0) (Nat.le_refl 0) (Option.some.inj h)
  replace h := neg h h11
  by_cases h14 : l2 = 6
  · replace h := pos h h14
    refine J_swIn hx 89 dX8_ofWork_11 (by rw [h14]; decide) (by rw [h14]; decide) (by rw [h14]; rfl) rfl ?_
    refine J_al4 hx rfl rfl dX8_ofWork_89 ?_
    refine g8_0 hx hW 1 (rfl : kd 75 = 13) fl_X8_9 rfl dX8_ofWork_90 ?_
    refine J_al4 hx rfl rfl dX8_ofWork_93 ?_
    refine g11_4 hx hW hk3 fl_X8_95 dX8_ofWork_94 ?_
    obtain ⟨r15, hr16, h⟩ := bnd h
    refine J_rdV hx (kX6_cratesOutwards  hW hr16) ml_X8_101 lk_X6_cratesOutwards (ci := 5) rfl (hW.obj (rfl : kd 1 = 2) (by decide) (by decide)) (rest := []) rfl rfl (by decide) (by decide) (Nat.le_of_ble_eq_true rfl) (Nat.le_refl 0) (Nat.le_refl 0) dX8_ofWork_97 ?_
    exact J_iretR hx hr dX8_ofWork_100 (Nat.le_refl 0) (Nat.le_refl 0) (Option.some.inj h)
  replace h := neg h h14
  refine J_swOut hx 101 dX8_ofWork_11 (swD fun j jl jh e => by
      have hj : j = 0 ∨ j = 1 ∨ j = 2 ∨ j = 3 ∨ j = 4 ∨ j = 5 ∨ j = 6 := by omega
      rcases hj with rfl | rfl | rfl | rfl | rfl | rfl | rfl <;> first | exact h4 e | exact h5 e | exact h6 e | exact h7 e | exact h10 e | exact h11 e | exact h14 e) rfl ?_
  refine J_al4 hx rfl rfl dX8_ofWork_101 ?_
  refine g11_6 hx hW hk3 fl_X8_104 dX8_ofWork_102 ?_
  exact J_iretR hx hr dX8_ofWork_105 (Nat.le_refl 0) (Nat.le_refl 0) (Option.some.inj h)
theorem dX8_cratesAt_0 : decode cX8_cratesAt 0 = .ok (.iconst 0, 1) := by decide +kernel
theorem dX8_cratesAt_1 : decode cX8_cratesAt 1 = .ok (.istore_n 2, 1) := by decide +kernel
theorem dX8_cratesAt_2 : decode cX8_cratesAt 2 = .ok (.iconst 0, 1) := by decide +kernel
theorem dX8_cratesAt_3 : decode cX8_cratesAt 3 = .ok (.istore_n 3, 1) := by decide +kernel
theorem dX8_cratesAt_4 : decode cX8_cratesAt 4 = .ok (.iload_n 3, 1) := by decide +kernel
theorem dX8_cratesAt_5 : decode cX8_cratesAt 5 = .ok (.aload_n 0, 1) := by decide +kernel
theorem dX8_cratesAt_6 : decode cX8_cratesAt 6 = .ok (.getfield 9, 3) := by decide +kernel
theorem dX8_cratesAt_9 : decode cX8_cratesAt 9 = .ok (.getfield 144, 3) := by decide +kernel
theorem dX8_cratesAt_12 : decode cX8_cratesAt 12 = .ok (.if_icmp .ge 28, 3) := by decide +kernel
theorem dX8_cratesAt_15 : decode cX8_cratesAt 15 = .ok (.aload_n 0, 1) := by decide +kernel
theorem dX8_cratesAt_16 : decode cX8_cratesAt 16 = .ok (.getfield 9, 3) := by decide +kernel
theorem dX8_cratesAt_19 : decode cX8_cratesAt 19 = .ok (.getfield 15, 3) := by decide +kernel
theorem dX8_cratesAt_22 : decode cX8_cratesAt 22 = .ok (.iload_n 3, 1) := by decide +kernel
theorem dX8_cratesAt_23 : decode cX8_cratesAt 23 = .ok (.aaload, 1) := by decide +kernel
theorem dX8_cratesAt_24 : decode cX8_cratesAt 24 = .ok (.getfield 42, 3) := by decide +kernel
theorem dX8_cratesAt_27 : decode cX8_cratesAt 27 = .ok (.iload_n 1, 1) := by decide +kernel
theorem dX8_cratesAt_28 : decode cX8_cratesAt 28 = .ok (.if_icmp .ne 6, 3) := by decide +kernel
theorem dX8_cratesAt_31 : decode cX8_cratesAt 31 = .ok (.iinc 2 1, 3) := by decide +kernel
theorem dX8_cratesAt_34 : decode cX8_cratesAt 34 = .ok (.iinc 3 1, 3) := by decide +kernel
theorem dX8_cratesAt_37 : decode cX8_cratesAt 37 = .ok (.goto (-33), 3) := by decide +kernel
theorem dX8_cratesAt_40 : decode cX8_cratesAt 40 = .ok (.iload_n 2, 1) := by decide +kernel
theorem dX8_cratesAt_41 : decode cX8_cratesAt 41 = .ok (.ireturn, 1) := by decide +kernel
def sX8_cratesAt_4 : Nat → Wl → Int32 → Int32 → Int32 → Option Int32
  | 0, _, _, _, _ => none
  | n + 1, w, l1, l2, l3 => (if (w 1 6) ≤ l3 then some l2 else (idx l3 12).bind (fun c2 => (if (w (29 + c2) 3) = l1 then sX8_cratesAt_4 n w l1 (l2 + 1) (l3 + 1) else sX8_cratesAt_4 n w l1 l2 (l3 + 1))))
theorem tX8_cratesAt_4 {X : Cx} {B : Bs} {sz : Nat} {G : Gf} {r : Int32} (hx : Fx X cX8_cratesAt 4 RX8 0 0 0) (hr : Rt X (some .int) 0 0 (RdΨ (.int (r)) G sz)) : ∀ (n : Nat), ∀ (w : Wl) (l1 : Int32) (l2 : Int32) (l3 : Int32) (hW : Wd (xΓ X) B w G) (h : sX8_cratesAt_4 n w l1 l2 l3 = some r), J X 4 G sz 0 0 4 [some (.ref (B.1 + 75)), some (.int l1), some (.int l2), some (.int l3)] [] := by
  intro n
  induction n with
  | zero => intro w l1 l2 l3 hW h; rw [sX8_cratesAt_4.eq_1] at h; cases h
  | succ n ih =>
    intro w l1 l2 l3 hW h
    rw [sX8_cratesAt_4.eq_2] at h
    refine J_il4 hx rfl rfl dX8_cratesAt_4 ?_
    refine J_al4 hx rfl rfl dX8_cratesAt_5 ?_
    refine g8_0 hx hW 1 (rfl : kd 75 = 13) fl_X8_9 rfl dX8_cratesAt_6 ?_
    refine g6_6 hx hW (rfl : kd 1 = 2) fl_X8_144 dX8_cratesAt_9 ?_
    refine J_icmp_ge hx 40 dX8_cratesAt_12 rfl (fun h1 => ?_) (fun h1 => ?_)
    · replace h := pos h h1
      refine J_il4 hx rfl rfl dX8_cratesAt_40 ?_
      exact J_iretR hx hr dX8_cratesAt_41 (Nat.le_refl 0) (Nat.le_refl 0) (Option.some.inj h)
    · replace h := neg h h1
      refine J_al4 hx rfl rfl dX8_cratesAt_15 ?_
      refine g8_0 hx hW 1 (rfl : kd 75 = 13) fl_X8_9 rfl dX8_cratesAt_16 ?_
      refine g6_10 hx hW 3 (rfl : kd 1 = 2) fl_X8_15 rfl dX8_cratesAt_19 ?_
      refine J_il4 hx rfl rfl dX8_cratesAt_22 ?_
      obtain ⟨c2, hc3, h⟩ := bnd h
      refine J_a4 hx hW (29 + c2) (rfl : kd 3 = 4) hc3 rfl dX8_cratesAt_23 fun hk4 => ?_
      refine g3_3 hx hW hk4 fl_X8_42 dX8_cratesAt_24 ?_
      refine J_il4 hx rfl rfl dX8_cratesAt_27 ?_
      refine J_icmp_ne hx 34 dX8_cratesAt_28 rfl (fun h5 => ?_) (fun h5 => ?_)
      · replace h := neg h h5
        refine J_iinc hx (v' := (l3 + 1)) rfl rfl (by decide) (hc_of rfl) rfl dX8_cratesAt_34 ?_
        refine J_goto hx 4 dX8_cratesAt_37 rfl ?_
        exact ih _ _ _ _  hW h
      · replace h := pos h h5
        refine J_iinc hx (v' := (l2 + 1)) rfl rfl (by decide) (hc_of rfl) rfl dX8_cratesAt_31 ?_
        refine J_iinc hx (v' := (l3 + 1)) rfl rfl (by decide) (hc_of rfl) rfl dX8_cratesAt_34 ?_
        refine J_goto hx 4 dX8_cratesAt_37 rfl ?_
        exact ih _ _ _ _  hW h
def sX8_cratesAt (w : Wl) (l1 : Int32) : Option Int32 := sX8_cratesAt_4 FU w l1 (0 : Int32) (0 : Int32)
theorem kX8_cratesAt {l : Launch} {Γ : Gl} {B : Bs} {w : Wl} {G : Gf} {sz : Nat} {l1 : Int32} {r : Int32} (hW : Wd Γ B w G) (h : sX8_cratesAt w l1 = some r) : CtR l Γ yX8_cratesAt cX8_cratesAt 4 (some .int) 0 [.ref (B.1 + 75), .int l1] G sz (.int (r)) := by
  refine Ct.of rfl (Nat.le_of_ble_eq_true rfl) fun X hx hr hl hΓ hnm => ?_
  subst hl hΓ
  show J X 4 G sz 0 0 0 [some (.ref (B.1 + 75)), some (.int l1), none, none] []
  unfold sX8_cratesAt at h
  refine J_iconst hx (0 : Int32) dX8_cratesAt_0 rfl ?_
  refine J_is4 hx rfl (by decide) (hc_of rfl) rfl dX8_cratesAt_1 ?_
  refine J_iconst hx (0 : Int32) dX8_cratesAt_2 rfl ?_
  refine J_is4 hx rfl (by decide) (hc_of rfl) rfl dX8_cratesAt_3 ?_
  exact tX8_cratesAt_4 hx hr _ _ _ _ _  hW h
theorem dX8_couriersAt_0 : decode cX8_couriersAt 0 = .ok (.iconst 0, 1) := by decide +kernel
theorem dX8_couriersAt_1 : decode cX8_couriersAt 1 = .ok (.istore_n 2, 1) := by decide +kernel
theorem dX8_couriersAt_2 : decode cX8_couriersAt 2 = .ok (.iconst 0, 1) := by decide +kernel
theorem dX8_couriersAt_3 : decode cX8_couriersAt 3 = .ok (.istore_n 3, 1) := by decide +kernel
theorem dX8_couriersAt_4 : decode cX8_couriersAt 4 = .ok (.iload_n 3, 1) := by decide +kernel
theorem dX8_couriersAt_5 : decode cX8_couriersAt 5 = .ok (.aload_n 0, 1) := by decide +kernel
theorem dX8_couriersAt_6 : decode cX8_couriersAt 6 = .ok (.getfield 9, 3) := by decide +kernel
theorem dX8_couriersAt_9 : decode cX8_couriersAt 9 = .ok (.getfield 150, 3) := by decide +kernel
theorem dX8_couriersAt_12 : decode cX8_couriersAt 12 = .ok (.if_icmp .ge 25, 3) := by decide +kernel
theorem dX8_couriersAt_15 : decode cX8_couriersAt 15 = .ok (.aload_n 0, 1) := by decide +kernel
theorem dX8_couriersAt_16 : decode cX8_couriersAt 16 = .ok (.getfield 9, 3) := by decide +kernel
theorem dX8_couriersAt_19 : decode cX8_couriersAt 19 = .ok (.getfield 176, 3) := by decide +kernel
theorem dX8_couriersAt_22 : decode cX8_couriersAt 22 = .ok (.iload_n 3, 1) := by decide +kernel
theorem dX8_couriersAt_23 : decode cX8_couriersAt 23 = .ok (.iaload, 1) := by decide +kernel
theorem dX8_couriersAt_24 : decode cX8_couriersAt 24 = .ok (.iload_n 1, 1) := by decide +kernel
theorem dX8_couriersAt_25 : decode cX8_couriersAt 25 = .ok (.if_icmp .ne 6, 3) := by decide +kernel
theorem dX8_couriersAt_28 : decode cX8_couriersAt 28 = .ok (.iinc 2 1, 3) := by decide +kernel
theorem dX8_couriersAt_31 : decode cX8_couriersAt 31 = .ok (.iinc 3 1, 3) := by decide +kernel
theorem dX8_couriersAt_34 : decode cX8_couriersAt 34 = .ok (.goto (-30), 3) := by decide +kernel
theorem dX8_couriersAt_37 : decode cX8_couriersAt 37 = .ok (.iload_n 2, 1) := by decide +kernel
theorem dX8_couriersAt_38 : decode cX8_couriersAt 38 = .ok (.ireturn, 1) := by decide +kernel
def sX8_couriersAt_4 : Nat → Wl → Int32 → Int32 → Int32 → Option Int32
  | 0, _, _, _, _ => none
  | n + 1, w, l1, l2, l3 => (if (w 1 8) ≤ l3 then some l2 else (idx l3 4).bind (fun c2 => (if (w 5 c2) = l1 then sX8_couriersAt_4 n w l1 (l2 + 1) (l3 + 1) else sX8_couriersAt_4 n w l1 l2 (l3 + 1))))
theorem tX8_couriersAt_4 {X : Cx} {B : Bs} {sz : Nat} {G : Gf} {r : Int32} (hx : Fx X cX8_couriersAt 4 RX8 0 0 0) (hr : Rt X (some .int) 0 0 (RdΨ (.int (r)) G sz)) : ∀ (n : Nat), ∀ (w : Wl) (l1 : Int32) (l2 : Int32) (l3 : Int32) (hW : Wd (xΓ X) B w G) (h : sX8_couriersAt_4 n w l1 l2 l3 = some r), J X 4 G sz 0 0 4 [some (.ref (B.1 + 75)), some (.int l1), some (.int l2), some (.int l3)] [] := by
  intro n
  induction n with
  | zero => intro w l1 l2 l3 hW h; rw [sX8_couriersAt_4.eq_1] at h; cases h
  | succ n ih =>
    intro w l1 l2 l3 hW h
    rw [sX8_couriersAt_4.eq_2] at h
    refine J_il4 hx rfl rfl dX8_couriersAt_4 ?_
    refine J_al4 hx rfl rfl dX8_couriersAt_5 ?_
    refine g8_0 hx hW 1 (rfl : kd 75 = 13) fl_X8_9 rfl dX8_couriersAt_6 ?_
    refine g6_8 hx hW (rfl : kd 1 = 2) fl_X8_150 dX8_couriersAt_9 ?_
    refine J_icmp_ge hx 37 dX8_couriersAt_12 rfl (fun h1 => ?_) (fun h1 => ?_)
    · replace h := pos h h1
      refine J_il4 hx rfl rfl dX8_couriersAt_37 ?_
      exact J_iretR hx hr dX8_couriersAt_38 (Nat.le_refl 0) (Nat.le_refl 0) (Option.some.inj h)
    · replace h := neg h h1
      refine J_al4 hx rfl rfl dX8_couriersAt_15 ?_
      refine g8_0 hx hW 1 (rfl : kd 75 = 13) fl_X8_9 rfl dX8_couriersAt_16 ?_
      refine g6_12 hx hW 5 (rfl : kd 1 = 2) fl_X8_176 rfl dX8_couriersAt_19 ?_
      refine J_il4 hx rfl rfl dX8_couriersAt_22 ?_
      obtain ⟨c2, hc3, h⟩ := bnd h
      refine J_iaW hx hW (rfl : kd 5 = 104) hc3 dX8_couriersAt_23 ?_
      refine J_il4 hx rfl rfl dX8_couriersAt_24 ?_
      refine J_icmp_ne hx 31 dX8_couriersAt_25 rfl (fun h4 => ?_) (fun h4 => ?_)
      · replace h := neg h h4
        refine J_iinc hx (v' := (l3 + 1)) rfl rfl (by decide) (hc_of rfl) rfl dX8_couriersAt_31 ?_
        refine J_goto hx 4 dX8_couriersAt_34 rfl ?_
        exact ih _ _ _ _  hW h
      · replace h := pos h h4
        refine J_iinc hx (v' := (l2 + 1)) rfl rfl (by decide) (hc_of rfl) rfl dX8_couriersAt_28 ?_
        refine J_iinc hx (v' := (l3 + 1)) rfl rfl (by decide) (hc_of rfl) rfl dX8_couriersAt_31 ?_
        refine J_goto hx 4 dX8_couriersAt_34 rfl ?_
        exact ih _ _ _ _  hW h
def sX8_couriersAt (w : Wl) (l1 : Int32) : Option Int32 := sX8_couriersAt_4 FU w l1 (0 : Int32) (0 : Int32)
theorem kX8_couriersAt {l : Launch} {Γ : Gl} {B : Bs} {w : Wl} {G : Gf} {sz : Nat} {l1 : Int32} {r : Int32} (hW : Wd Γ B w G) (h : sX8_couriersAt w l1 = some r) : CtR l Γ yX8_couriersAt cX8_couriersAt 4 (some .int) 0 [.ref (B.1 + 75), .int l1] G sz (.int (r)) := by
  refine Ct.of rfl (Nat.le_of_ble_eq_true rfl) fun X hx hr hl hΓ hnm => ?_
  subst hl hΓ
  show J X 4 G sz 0 0 0 [some (.ref (B.1 + 75)), some (.int l1), none, none] []
  unfold sX8_couriersAt at h
  refine J_iconst hx (0 : Int32) dX8_couriersAt_0 rfl ?_
  refine J_is4 hx rfl (by decide) (hc_of rfl) rfl dX8_couriersAt_1 ?_
  refine J_iconst hx (0 : Int32) dX8_couriersAt_2 rfl ?_
  refine J_is4 hx rfl (by decide) (hc_of rfl) rfl dX8_couriersAt_3 ?_
  exact tX8_couriersAt_4 hx hr _ _ _ _ _  hW h
theorem dX8_ofVenue_0 : decode cX8_ofVenue 0 = .ok (.aload_n 0, 1) := by decide +kernel
theorem dX8_ofVenue_1 : decode cX8_ofVenue 1 = .ok (.getfield 9, 3) := by decide +kernel
theorem dX8_ofVenue_4 : decode cX8_ofVenue 4 = .ok (.getfield 107, 3) := by decide +kernel
theorem dX8_ofVenue_7 : decode cX8_ofVenue 7 = .ok (.iload_n 1, 1) := by decide +kernel
theorem dX8_ofVenue_8 : decode cX8_ofVenue 8 = .ok (.aaload, 1) := by decide +kernel
theorem dX8_ofVenue_9 : decode cX8_ofVenue 9 = .ok (.astore_n 3, 1) := by decide +kernel
theorem dX8_ofVenue_10 : decode cX8_ofVenue 10 = .ok (.iload_n 2, 1) := by decide +kernel
theorem dX8_ofVenue_11 : decode cX8_ofVenue 11 = .ok (.tableswitch 95 0 7 #[45, 50, 55, 60, 65, 74, 83, 89], 45) := by decide +kernel
theorem dX8_ofVenue_56 : decode cX8_ofVenue 56 = .ok (.aload_n 3, 1) := by decide +kernel
theorem dX8_ofVenue_57 : decode cX8_ofVenue 57 = .ok (.getfield 111, 3) := by decide +kernel
theorem dX8_ofVenue_60 : decode cX8_ofVenue 60 = .ok (.ireturn, 1) := by decide +kernel
theorem dX8_ofVenue_61 : decode cX8_ofVenue 61 = .ok (.aload_n 3, 1) := by decide +kernel
theorem dX8_ofVenue_62 : decode cX8_ofVenue 62 = .ok (.getfield 116, 3) := by decide +kernel
theorem dX8_ofVenue_65 : decode cX8_ofVenue 65 = .ok (.ireturn, 1) := by decide +kernel
theorem dX8_ofVenue_66 : decode cX8_ofVenue 66 = .ok (.aload_n 3, 1) := by decide +kernel
theorem dX8_ofVenue_67 : decode cX8_ofVenue 67 = .ok (.getfield 119, 3) := by decide +kernel
theorem dX8_ofVenue_70 : decode cX8_ofVenue 70 = .ok (.ireturn, 1) := by decide +kernel
theorem dX8_ofVenue_71 : decode cX8_ofVenue 71 = .ok (.aload_n 3, 1) := by decide +kernel
theorem dX8_ofVenue_72 : decode cX8_ofVenue 72 = .ok (.getfield 122, 3) := by decide +kernel
theorem dX8_ofVenue_75 : decode cX8_ofVenue 75 = .ok (.ireturn, 1) := by decide +kernel
theorem dX8_ofVenue_76 : decode cX8_ofVenue 76 = .ok (.aload_n 0, 1) := by decide +kernel
theorem dX8_ofVenue_77 : decode cX8_ofVenue 77 = .ok (.getfield 9, 3) := by decide +kernel
theorem dX8_ofVenue_80 : decode cX8_ofVenue 80 = .ok (.iload_n 1, 1) := by decide +kernel
theorem dX8_ofVenue_81 : decode cX8_ofVenue 81 = .ok (.invokevirtual 125, 3) := by decide +kernel
theorem dX8_ofVenue_84 : decode cX8_ofVenue 84 = .ok (.ireturn, 1) := by decide +kernel
theorem dX8_ofVenue_85 : decode cX8_ofVenue 85 = .ok (.aload_n 0, 1) := by decide +kernel
theorem dX8_ofVenue_86 : decode cX8_ofVenue 86 = .ok (.getfield 9, 3) := by decide +kernel
theorem dX8_ofVenue_89 : decode cX8_ofVenue 89 = .ok (.iload_n 1, 1) := by decide +kernel
theorem dX8_ofVenue_90 : decode cX8_ofVenue 90 = .ok (.invokevirtual 128, 3) := by decide +kernel
theorem dX8_ofVenue_93 : decode cX8_ofVenue 93 = .ok (.ireturn, 1) := by decide +kernel
theorem dX8_ofVenue_94 : decode cX8_ofVenue 94 = .ok (.aload_n 0, 1) := by decide +kernel
theorem dX8_ofVenue_95 : decode cX8_ofVenue 95 = .ok (.iload_n 1, 1) := by decide +kernel
theorem dX8_ofVenue_96 : decode cX8_ofVenue 96 = .ok (.invokevirtual 131, 3) := by decide +kernel
theorem dX8_ofVenue_99 : decode cX8_ofVenue 99 = .ok (.ireturn, 1) := by decide +kernel
theorem dX8_ofVenue_100 : decode cX8_ofVenue 100 = .ok (.aload_n 0, 1) := by decide +kernel
theorem dX8_ofVenue_101 : decode cX8_ofVenue 101 = .ok (.iload_n 1, 1) := by decide +kernel
theorem dX8_ofVenue_102 : decode cX8_ofVenue 102 = .ok (.invokevirtual 134, 3) := by decide +kernel
theorem dX8_ofVenue_105 : decode cX8_ofVenue 105 = .ok (.ireturn, 1) := by decide +kernel
theorem dX8_ofVenue_106 : decode cX8_ofVenue 106 = .ok (.aload_n 3, 1) := by decide +kernel
theorem dX8_ofVenue_107 : decode cX8_ofVenue 107 = .ok (.getfield 137, 3) := by decide +kernel
theorem dX8_ofVenue_110 : decode cX8_ofVenue 110 = .ok (.ireturn, 1) := by decide +kernel
def sX8_ofVenue (w : Wl) (l1 : Int32) (l2 : Int32) : Option Int32 := (idx l1 8).bind (fun c1 => (if l2 = 0 then some (w (13 + 2 * c1) 0) else (if l2 = 1 then some (w (13 + 2 * c1) 1) else (if l2 = 2 then some (w (13 + 2 * c1) 2) else (if l2 = 3 then some (w (13 + 2 * c1) 3) else (if l2 = 4 then (sX6_valueAt w l1).bind (fun r9 => some r9) else (if l2 = 5 then (sX6_valueOnTheWayTo w l1).bind (fun r12 => some r12) else (if l2 = 6 then (sX8_cratesAt w l1).bind (fun r15 => some r15) else (if l2 = 7 then (sX8_couriersAt w l1).bind (fun r18 => some r18) else some (w (13 + 2 * c1) 4))))))))))
theorem kX8_ofVenue {l : Launch} {Γ : Gl} {B : Bs} {w : Wl} {G : Gf} {sz : Nat} {l1 : Int32} {l2 : Int32} {r : Int32} (hW : Wd Γ B w G) (h : sX8_ofVenue w l1 l2 = some r) : CtR l Γ yX8_ofVenue cX8_ofVenue 4 (some .int) 3 [.ref (B.1 + 75), .int l1, .int l2] G sz (.int (r)) := by
  refine Ct.of rfl (Nat.le_of_ble_eq_true rfl) fun X hx hr hl hΓ hnm => ?_
  subst hl hΓ
  show J X 4 G sz 0 0 0 [some (.ref (B.1 + 75)), some (.int l1), some (.int l2), none] []
  unfold sX8_ofVenue at h
  refine J_al4 hx rfl rfl dX8_ofVenue_0 ?_
  refine g8_0 hx hW 1 (rfl : kd 75 = 13) fl_X8_9 rfl dX8_ofVenue_1 ?_
  refine g6_9 hx hW 2 (rfl : kd 1 = 2) fl_X8_107 rfl dX8_ofVenue_4 ?_
  refine J_il4 hx rfl rfl dX8_ofVenue_7 ?_
  obtain ⟨c1, hc2, h⟩ := bnd h
  refine J_a3 hx hW (13 + 2 * c1) (rfl : kd 2 = 3) hc2 rfl dX8_ofVenue_8 fun hk3 => ?_
  refine J_as4 hx rfl (by decide) (hc_of rfl) rfl dX8_ofVenue_9 ?_
  refine J_il4 hx rfl rfl dX8_ofVenue_10 ?_
  by_cases h4 : l2 = 0
  · replace h := pos h h4
    refine J_swIn hx 56 dX8_ofVenue_11 (by rw [h4]; decide) (by rw [h4]; decide) (by rw [h4]; rfl) rfl ?_
    refine J_al4 hx rfl rfl dX8_ofVenue_56 ?_
    refine g9_0 hx hW hk3 fl_X8_111 dX8_ofVenue_57 ?_
    exact J_iretR hx hr dX8_ofVenue_60 (Nat.le_refl 0) (Nat.le_refl 0) (Option.some.inj h)
  replace h := neg h h4
  by_cases h5 : l2 = 1
  · replace h := pos h h5
    refine J_swIn hx 61 dX8_ofVenue_11 (by rw [h5]; decide) (by rw [h5]; decide) (by rw [h5]; rfl) rfl ?_
    refine J_al4 hx rfl rfl dX8_ofVenue_61 ?_
    refine g9_1 hx hW hk3 fl_X8_116 dX8_ofVenue_62 ?_
    exact J_iretR hx hr dX8_ofVenue_65 (Nat.le_refl 0) (Nat.le_refl 0) (Option.some.inj h)
  replace h := neg h h5
  by_cases h6 : l2 = 2
  · replace h := pos h h6
    refine J_swIn hx 66 dX8_ofVenue_11 (by rw [h6]; decide) (by rw [h6]; decide) (by rw [h6]; rfl) rfl ?_
    refine J_al4 hx rfl rfl dX8_ofVenue_66 ?_
    refine g9_2 hx hW hk3 fl_X8_119 dX8_ofVenue_67 ?_
    exact J_iretR hx hr dX8_ofVenue_70 (Nat.le_refl 0) (Nat.le_refl 0) (Option.some.inj h)
  replace h := neg h h6
  by_cases h7 : l2 = 3
  · replace h := pos h h7
    refine J_swIn hx 71 dX8_ofVenue_11 (by rw [h7]; decide) (by rw [h7]; decide) (by rw [h7]; rfl) rfl ?_
    refine J_al4 hx rfl rfl dX8_ofVenue_71 ?_
    refine g9_3 hx hW hk3 fl_X8_122 dX8_ofVenue_72 ?_
    exact J_iretR hx hr dX8_ofVenue_75 (Nat.le_refl 0) (Nat.le_refl 0) (Option.some.inj h)
  replace h := neg h h7
  by_cases h8 : l2 = 4
  · replace h := pos h h8
    refine J_swIn hx 76 dX8_ofVenue_11 (by rw [h8]; decide) (by rw [h8]; decide) (by rw [h8]; rfl) rfl ?_
    refine J_al4 hx rfl rfl dX8_ofVenue_76 ?_
    refine g8_0 hx hW 1 (rfl : kd 75 = 13) fl_X8_9 rfl dX8_ofVenue_77 ?_
    refine J_il4 hx rfl rfl dX8_ofVenue_80 ?_
    obtain ⟨r9, hr10, h⟩ := bnd h
    refine J_rdV hx (kX6_valueAt  hW hr10) ml_X8_125 lk_X6_valueAt (ci := 5) rfl (hW.obj (rfl : kd 1 = 2) (by decide) (by decide)) (rest := []) rfl rfl (by decide) (by decide) (Nat.le_of_ble_eq_true rfl) (Nat.le_refl 0) (Nat.le_refl 0) dX8_ofVenue_81 ?_
    exact J_iretR hx hr dX8_ofVenue_84 (Nat.le_refl 0) (Nat.le_refl 0) (Option.some.inj h)
  replace h := neg h h8
  by_cases h11 : l2 = 5
  · replace h := pos h h11
    refine J_swIn hx 85 dX8_ofVenue_11 (by rw [h11]; decide) (by rw [h11]; decide) (by rw [h11]; rfl) rfl ?_
    refine J_al4 hx rfl rfl dX8_ofVenue_85 ?_
    refine g8_0 hx hW 1 (rfl : kd 75 = 13) fl_X8_9 rfl dX8_ofVenue_86 ?_
    refine J_il4 hx rfl rfl dX8_ofVenue_89 ?_
    obtain ⟨r12, hr13, h⟩ := bnd h
    refine J_rdV hx (kX6_valueOnTheWayTo  hW hr13) ml_X8_128 lk_X6_valueOnTheWayTo (ci := 5) rfl (hW.obj (rfl : kd 1 = 2) (by decide) (by decide)) (rest := []) rfl rfl (by decide) (by decide) (Nat.le_of_ble_eq_true rfl) (Nat.le_refl 0) (Nat.le_refl 0) dX8_ofVenue_90 ?_
    exact J_iretR hx hr dX8_ofVenue_93 (Nat.le_refl 0) (Nat.le_refl 0) (Option.some.inj h)
  replace h := neg h h11
  by_cases h14 : l2 = 6
  · replace h := pos h h14
    refine J_swIn hx 94 dX8_ofVenue_11 (by rw [h14]; decide) (by rw [h14]; decide) (by rw [h14]; rfl) rfl ?_
    refine J_al4 hx rfl rfl dX8_ofVenue_94 ?_
    refine J_il4 hx rfl rfl dX8_ofVenue_95 ?_
    obtain ⟨r15, hr16, h⟩ := bnd h
    refine J_rdV hx (kX8_cratesAt  hW hr16) ml_X8_131 lk_X8_cratesAt (ci := 7) rfl (hW.obj (rfl : kd 75 = 13) (by decide) (by decide)) (rest := []) rfl rfl (by decide) (by decide) (Nat.le_of_ble_eq_true rfl) (Nat.le_refl 0) (Nat.le_refl 0) dX8_ofVenue_96 ?_
    exact J_iretR hx hr dX8_ofVenue_99 (Nat.le_refl 0) (Nat.le_refl 0) (Option.some.inj h)
  replace h := neg h h14
  by_cases h17 : l2 = 7
  · replace h := pos h h17
    refine J_swIn hx 100 dX8_ofVenue_11 (by rw [h17]; decide) (by rw [h17]; decide) (by rw [h17]; rfl) rfl ?_
    refine J_al4 hx rfl rfl dX8_ofVenue_100 ?_
    refine J_il4 hx rfl rfl dX8_ofVenue_101 ?_
    obtain ⟨r18, hr19, h⟩ := bnd h
    refine J_rdV hx (kX8_couriersAt  hW hr19) ml_X8_134 lk_X8_couriersAt (ci := 7) rfl (hW.obj (rfl : kd 75 = 13) (by decide) (by decide)) (rest := []) rfl rfl (by decide) (by decide) (Nat.le_of_ble_eq_true rfl) (Nat.le_refl 0) (Nat.le_refl 0) dX8_ofVenue_102 ?_
    exact J_iretR hx hr dX8_ofVenue_105 (Nat.le_refl 0) (Nat.le_refl 0) (Option.some.inj h)
  replace h := neg h h17
  refine J_swOut hx 106 dX8_ofVenue_11 (swD fun j jl jh e => by
      have hj : j = 0 ∨ j = 1 ∨ j = 2 ∨ j = 3 ∨ j = 4 ∨ j = 5 ∨ j = 6 ∨ j = 7 := by omega
      rcases hj with rfl | rfl | rfl | rfl | rfl | rfl | rfl | rfl <;> first | exact h4 e | exact h5 e | exact h6 e | exact h7 e | exact h8 e | exact h11 e | exact h14 e | exact h17 e) rfl ?_
  refine J_al4 hx rfl rfl dX8_ofVenue_106 ?_
  refine g9_4 hx hW hk3 fl_X8_137 dX8_ofVenue_107 ?_
  exact J_iretR hx hr dX8_ofVenue_110 (Nat.le_refl 0) (Nat.le_refl 0) (Option.some.inj h)
theorem dX8_worksOnTheirWay_0 : decode cX8_worksOnTheirWay 0 = .ok (.iconst 0, 1) := by decide +kernel
theorem dX8_worksOnTheirWay_1 : decode cX8_worksOnTheirWay 1 = .ok (.istore_n 1, 1) := by decide +kernel
theorem dX8_worksOnTheirWay_2 : decode cX8_worksOnTheirWay 2 = .ok (.iconst 0, 1) := by decide +kernel
theorem dX8_worksOnTheirWay_3 : decode cX8_worksOnTheirWay 3 = .ok (.istore_n 2, 1) := by decide +kernel
theorem dX8_worksOnTheirWay_4 : decode cX8_worksOnTheirWay 4 = .ok (.iload_n 2, 1) := by decide +kernel
theorem dX8_worksOnTheirWay_5 : decode cX8_worksOnTheirWay 5 = .ok (.aload_n 0, 1) := by decide +kernel
theorem dX8_worksOnTheirWay_6 : decode cX8_worksOnTheirWay 6 = .ok (.getfield 9, 3) := by decide +kernel
theorem dX8_worksOnTheirWay_9 : decode cX8_worksOnTheirWay 9 = .ok (.getfield 147, 3) := by decide +kernel
theorem dX8_worksOnTheirWay_12 : decode cX8_worksOnTheirWay 12 = .ok (.if_icmp .ge 24, 3) := by decide +kernel
theorem dX8_worksOnTheirWay_15 : decode cX8_worksOnTheirWay 15 = .ok (.aload_n 0, 1) := by decide +kernel
theorem dX8_worksOnTheirWay_16 : decode cX8_worksOnTheirWay 16 = .ok (.getfield 9, 3) := by decide +kernel
theorem dX8_worksOnTheirWay_19 : decode cX8_worksOnTheirWay 19 = .ok (.iload_n 2, 1) := by decide +kernel
theorem dX8_worksOnTheirWay_20 : decode cX8_worksOnTheirWay 20 = .ok (.invokevirtual 180, 3) := by decide +kernel
theorem dX8_worksOnTheirWay_23 : decode cX8_worksOnTheirWay 23 = .ok (.iconst (-1), 1) := by decide +kernel
theorem dX8_worksOnTheirWay_24 : decode cX8_worksOnTheirWay 24 = .ok (.if_icmp .eq 6, 3) := by decide +kernel
theorem dX8_worksOnTheirWay_27 : decode cX8_worksOnTheirWay 27 = .ok (.iinc 1 1, 3) := by decide +kernel
theorem dX8_worksOnTheirWay_30 : decode cX8_worksOnTheirWay 30 = .ok (.iinc 2 1, 3) := by decide +kernel
theorem dX8_worksOnTheirWay_33 : decode cX8_worksOnTheirWay 33 = .ok (.goto (-29), 3) := by decide +kernel
theorem dX8_worksOnTheirWay_36 : decode cX8_worksOnTheirWay 36 = .ok (.iload_n 1, 1) := by decide +kernel
theorem dX8_worksOnTheirWay_37 : decode cX8_worksOnTheirWay 37 = .ok (.ireturn, 1) := by decide +kernel
def sX8_worksOnTheirWay_4 : Nat → Wl → Int32 → Int32 → Option Int32
  | 0, _, _, _ => none
  | n + 1, w, l1, l2 => (if (w 1 7) ≤ l2 then some l1 else (sX6_goalOfWork w l2).bind (fun r2 => (if r2 = (-1 : Int32) then sX8_worksOnTheirWay_4 n w l1 (l2 + 1) else sX8_worksOnTheirWay_4 n w (l1 + 1) (l2 + 1))))
theorem tX8_worksOnTheirWay_4 {X : Cx} {B : Bs} {sz : Nat} {G : Gf} {r : Int32} (hx : Fx X cX8_worksOnTheirWay 3 RX8 2 0 0) (hr : Rt X (some .int) 0 0 (RdΨ (.int (r)) G sz)) : ∀ (n : Nat), ∀ (w : Wl) (l1 : Int32) (l2 : Int32) (hW : Wd (xΓ X) B w G) (h : sX8_worksOnTheirWay_4 n w l1 l2 = some r), J X 3 G sz 0 0 4 [some (.ref (B.1 + 75)), some (.int l1), some (.int l2)] [] := by
  intro n
  induction n with
  | zero => intro w l1 l2 hW h; rw [sX8_worksOnTheirWay_4.eq_1] at h; cases h
  | succ n ih =>
    intro w l1 l2 hW h
    rw [sX8_worksOnTheirWay_4.eq_2] at h
    refine J_il4 hx rfl rfl dX8_worksOnTheirWay_4 ?_
    refine J_al4 hx rfl rfl dX8_worksOnTheirWay_5 ?_
    refine g8_0 hx hW 1 (rfl : kd 75 = 13) fl_X8_9 rfl dX8_worksOnTheirWay_6 ?_
    refine g6_7 hx hW (rfl : kd 1 = 2) fl_X8_147 dX8_worksOnTheirWay_9 ?_
    refine J_icmp_ge hx 36 dX8_worksOnTheirWay_12 rfl (fun h1 => ?_) (fun h1 => ?_)
    · replace h := pos h h1
      refine J_il4 hx rfl rfl dX8_worksOnTheirWay_36 ?_
      exact J_iretR hx hr dX8_worksOnTheirWay_37 (Nat.le_refl 0) (Nat.le_refl 0) (Option.some.inj h)
    · replace h := neg h h1
      refine J_al4 hx rfl rfl dX8_worksOnTheirWay_15 ?_
      refine g8_0 hx hW 1 (rfl : kd 75 = 13) fl_X8_9 rfl dX8_worksOnTheirWay_16 ?_
      refine J_il4 hx rfl rfl dX8_worksOnTheirWay_19 ?_
      obtain ⟨r2, hr3, h⟩ := bnd h
      refine J_rdV hx (kX6_goalOfWork  hW hr3) ml_X8_180 lk_X6_goalOfWork (ci := 5) rfl (hW.obj (rfl : kd 1 = 2) (by decide) (by decide)) (rest := []) rfl rfl (by decide) (by decide) (Nat.le_of_ble_eq_true rfl) (Nat.le_refl 0) (Nat.le_refl 0) dX8_worksOnTheirWay_20 ?_
      refine J_iconst hx (-1 : Int32) dX8_worksOnTheirWay_23 rfl ?_
      refine J_icmp_eq hx 30 dX8_worksOnTheirWay_24 rfl (fun h4 => ?_) (fun h4 => ?_)
      · replace h := pos h h4
        refine J_iinc hx (v' := (l2 + 1)) rfl rfl (by decide) (hc_of rfl) rfl dX8_worksOnTheirWay_30 ?_
        refine J_goto hx 4 dX8_worksOnTheirWay_33 rfl ?_
        exact ih _ _ _  hW h
      · replace h := neg h h4
        refine J_iinc hx (v' := (l1 + 1)) rfl rfl (by decide) (hc_of rfl) rfl dX8_worksOnTheirWay_27 ?_
        refine J_iinc hx (v' := (l2 + 1)) rfl rfl (by decide) (hc_of rfl) rfl dX8_worksOnTheirWay_30 ?_
        refine J_goto hx 4 dX8_worksOnTheirWay_33 rfl ?_
        exact ih _ _ _  hW h
def sX8_worksOnTheirWay (w : Wl) : Option Int32 := sX8_worksOnTheirWay_4 FU w (0 : Int32) (0 : Int32)
theorem kX8_worksOnTheirWay {l : Launch} {Γ : Gl} {B : Bs} {w : Wl} {G : Gf} {sz : Nat} {r : Int32} (hW : Wd Γ B w G) (h : sX8_worksOnTheirWay w  = some r) : CtR l Γ yX8_worksOnTheirWay cX8_worksOnTheirWay 3 (some .int) 2 [.ref (B.1 + 75)] G sz (.int (r)) := by
  refine Ct.of rfl (Nat.le_of_ble_eq_true rfl) fun X hx hr hl hΓ hnm => ?_
  subst hl hΓ
  show J X 3 G sz 0 0 0 [some (.ref (B.1 + 75)), none, none] []
  unfold sX8_worksOnTheirWay at h
  refine J_iconst hx (0 : Int32) dX8_worksOnTheirWay_0 rfl ?_
  refine J_is4 hx rfl (by decide) (hc_of rfl) rfl dX8_worksOnTheirWay_1 ?_
  refine J_iconst hx (0 : Int32) dX8_worksOnTheirWay_2 rfl ?_
  refine J_is4 hx rfl (by decide) (hc_of rfl) rfl dX8_worksOnTheirWay_3 ?_
  exact tX8_worksOnTheirWay_4 hx hr _ _ _ _  hW h
theorem dX8_openCrates_0 : decode cX8_openCrates 0 = .ok (.iconst 0, 1) := by decide +kernel
theorem dX8_openCrates_1 : decode cX8_openCrates 1 = .ok (.istore_n 1, 1) := by decide +kernel
theorem dX8_openCrates_2 : decode cX8_openCrates 2 = .ok (.iconst 0, 1) := by decide +kernel
theorem dX8_openCrates_3 : decode cX8_openCrates 3 = .ok (.istore_n 2, 1) := by decide +kernel
theorem dX8_openCrates_4 : decode cX8_openCrates 4 = .ok (.iload_n 2, 1) := by decide +kernel
theorem dX8_openCrates_5 : decode cX8_openCrates 5 = .ok (.aload_n 0, 1) := by decide +kernel
theorem dX8_openCrates_6 : decode cX8_openCrates 6 = .ok (.getfield 9, 3) := by decide +kernel
theorem dX8_openCrates_9 : decode cX8_openCrates 9 = .ok (.getfield 144, 3) := by decide +kernel
theorem dX8_openCrates_12 : decode cX8_openCrates 12 = .ok (.if_icmp .ge 27, 3) := by decide +kernel
theorem dX8_openCrates_15 : decode cX8_openCrates 15 = .ok (.aload_n 0, 1) := by decide +kernel
theorem dX8_openCrates_16 : decode cX8_openCrates 16 = .ok (.getfield 9, 3) := by decide +kernel
theorem dX8_openCrates_19 : decode cX8_openCrates 19 = .ok (.getfield 15, 3) := by decide +kernel
theorem dX8_openCrates_22 : decode cX8_openCrates 22 = .ok (.iload_n 2, 1) := by decide +kernel
theorem dX8_openCrates_23 : decode cX8_openCrates 23 = .ok (.aaload, 1) := by decide +kernel
theorem dX8_openCrates_24 : decode cX8_openCrates 24 = .ok (.getfield 31, 3) := by decide +kernel
theorem dX8_openCrates_27 : decode cX8_openCrates 27 = .ok (.ifCond .eq 6, 3) := by decide +kernel
theorem dX8_openCrates_30 : decode cX8_openCrates 30 = .ok (.iinc 1 1, 3) := by decide +kernel
theorem dX8_openCrates_33 : decode cX8_openCrates 33 = .ok (.iinc 2 1, 3) := by decide +kernel
theorem dX8_openCrates_36 : decode cX8_openCrates 36 = .ok (.goto (-32), 3) := by decide +kernel
theorem dX8_openCrates_39 : decode cX8_openCrates 39 = .ok (.iload_n 1, 1) := by decide +kernel
theorem dX8_openCrates_40 : decode cX8_openCrates 40 = .ok (.ireturn, 1) := by decide +kernel
def sX8_openCrates_4 : Nat → Wl → Int32 → Int32 → Option Int32
  | 0, _, _, _ => none
  | n + 1, w, l1, l2 => (if (w 1 6) ≤ l2 then some l1 else (idx l2 12).bind (fun c2 => (if (w (29 + c2) 1) = 0 then sX8_openCrates_4 n w l1 (l2 + 1) else sX8_openCrates_4 n w (l1 + 1) (l2 + 1))))
theorem tX8_openCrates_4 {X : Cx} {B : Bs} {sz : Nat} {G : Gf} {r : Int32} (hx : Fx X cX8_openCrates 3 RX8 0 0 0) (hr : Rt X (some .int) 0 0 (RdΨ (.int (r)) G sz)) : ∀ (n : Nat), ∀ (w : Wl) (l1 : Int32) (l2 : Int32) (hW : Wd (xΓ X) B w G) (h : sX8_openCrates_4 n w l1 l2 = some r), J X 3 G sz 0 0 4 [some (.ref (B.1 + 75)), some (.int l1), some (.int l2)] [] := by
  intro n
  induction n with
  | zero => intro w l1 l2 hW h; rw [sX8_openCrates_4.eq_1] at h; cases h
  | succ n ih =>
    intro w l1 l2 hW h
    rw [sX8_openCrates_4.eq_2] at h
    refine J_il4 hx rfl rfl dX8_openCrates_4 ?_
    refine J_al4 hx rfl rfl dX8_openCrates_5 ?_
    refine g8_0 hx hW 1 (rfl : kd 75 = 13) fl_X8_9 rfl dX8_openCrates_6 ?_
    refine g6_6 hx hW (rfl : kd 1 = 2) fl_X8_144 dX8_openCrates_9 ?_
    refine J_icmp_ge hx 39 dX8_openCrates_12 rfl (fun h1 => ?_) (fun h1 => ?_)
    · replace h := pos h h1
      refine J_il4 hx rfl rfl dX8_openCrates_39 ?_
      exact J_iretR hx hr dX8_openCrates_40 (Nat.le_refl 0) (Nat.le_refl 0) (Option.some.inj h)
    · replace h := neg h h1
      refine J_al4 hx rfl rfl dX8_openCrates_15 ?_
      refine g8_0 hx hW 1 (rfl : kd 75 = 13) fl_X8_9 rfl dX8_openCrates_16 ?_
      refine g6_10 hx hW 3 (rfl : kd 1 = 2) fl_X8_15 rfl dX8_openCrates_19 ?_
      refine J_il4 hx rfl rfl dX8_openCrates_22 ?_
      obtain ⟨c2, hc3, h⟩ := bnd h
      refine J_a4 hx hW (29 + c2) (rfl : kd 3 = 4) hc3 rfl dX8_openCrates_23 fun hk4 => ?_
      refine g3_1 hx hW hk4 fl_X8_31 dX8_openCrates_24 ?_
      refine J_if_eq hx 33 dX8_openCrates_27 rfl (fun h5 => ?_) (fun h5 => ?_)
      · replace h := pos h h5
        refine J_iinc hx (v' := (l2 + 1)) rfl rfl (by decide) (hc_of rfl) rfl dX8_openCrates_33 ?_
        refine J_goto hx 4 dX8_openCrates_36 rfl ?_
        exact ih _ _ _  hW h
      · replace h := neg h h5
        refine J_iinc hx (v' := (l1 + 1)) rfl rfl (by decide) (hc_of rfl) rfl dX8_openCrates_30 ?_
        refine J_iinc hx (v' := (l2 + 1)) rfl rfl (by decide) (hc_of rfl) rfl dX8_openCrates_33 ?_
        refine J_goto hx 4 dX8_openCrates_36 rfl ?_
        exact ih _ _ _  hW h
def sX8_openCrates (w : Wl) : Option Int32 := sX8_openCrates_4 FU w (0 : Int32) (0 : Int32)
theorem kX8_openCrates {l : Launch} {Γ : Gl} {B : Bs} {w : Wl} {G : Gf} {sz : Nat} {r : Int32} (hW : Wd Γ B w G) (h : sX8_openCrates w  = some r) : CtR l Γ yX8_openCrates cX8_openCrates 3 (some .int) 0 [.ref (B.1 + 75)] G sz (.int (r)) := by
  refine Ct.of rfl (Nat.le_of_ble_eq_true rfl) fun X hx hr hl hΓ hnm => ?_
  subst hl hΓ
  show J X 3 G sz 0 0 0 [some (.ref (B.1 + 75)), none, none] []
  unfold sX8_openCrates at h
  refine J_iconst hx (0 : Int32) dX8_openCrates_0 rfl ?_
  refine J_is4 hx rfl (by decide) (hc_of rfl) rfl dX8_openCrates_1 ?_
  refine J_iconst hx (0 : Int32) dX8_openCrates_2 rfl ?_
  refine J_is4 hx rfl (by decide) (hc_of rfl) rfl dX8_openCrates_3 ?_
  exact tX8_openCrates_4 hx hr _ _ _ _  hW h
theorem dX8_ofWhole_0 : decode cX8_ofWhole 0 = .ok (.iload_n 1, 1) := by decide +kernel
theorem dX8_ofWhole_1 : decode cX8_ofWhole 1 = .ok (.tableswitch 120 0 8 #[51, 59, 67, 75, 83, 91, 99, 107, 115], 51) := by decide +kernel
theorem dX8_ofWhole_52 : decode cX8_ofWhole 52 = .ok (.aload_n 0, 1) := by decide +kernel
theorem dX8_ofWhole_53 : decode cX8_ofWhole 53 = .ok (.getfield 9, 3) := by decide +kernel
theorem dX8_ofWhole_56 : decode cX8_ofWhole 56 = .ok (.getfield 138, 3) := by decide +kernel
theorem dX8_ofWhole_59 : decode cX8_ofWhole 59 = .ok (.ireturn, 1) := by decide +kernel
theorem dX8_ofWhole_60 : decode cX8_ofWhole 60 = .ok (.aload_n 0, 1) := by decide +kernel
theorem dX8_ofWhole_61 : decode cX8_ofWhole 61 = .ok (.getfield 9, 3) := by decide +kernel
theorem dX8_ofWhole_64 : decode cX8_ofWhole 64 = .ok (.getfield 141, 3) := by decide +kernel
theorem dX8_ofWhole_67 : decode cX8_ofWhole 67 = .ok (.ireturn, 1) := by decide +kernel
theorem dX8_ofWhole_68 : decode cX8_ofWhole 68 = .ok (.aload_n 0, 1) := by decide +kernel
theorem dX8_ofWhole_69 : decode cX8_ofWhole 69 = .ok (.getfield 9, 3) := by decide +kernel
theorem dX8_ofWhole_72 : decode cX8_ofWhole 72 = .ok (.getfield 144, 3) := by decide +kernel
theorem dX8_ofWhole_75 : decode cX8_ofWhole 75 = .ok (.ireturn, 1) := by decide +kernel
theorem dX8_ofWhole_76 : decode cX8_ofWhole 76 = .ok (.aload_n 0, 1) := by decide +kernel
theorem dX8_ofWhole_77 : decode cX8_ofWhole 77 = .ok (.getfield 9, 3) := by decide +kernel
theorem dX8_ofWhole_80 : decode cX8_ofWhole 80 = .ok (.getfield 147, 3) := by decide +kernel
theorem dX8_ofWhole_83 : decode cX8_ofWhole 83 = .ok (.ireturn, 1) := by decide +kernel
theorem dX8_ofWhole_84 : decode cX8_ofWhole 84 = .ok (.aload_n 0, 1) := by decide +kernel
theorem dX8_ofWhole_85 : decode cX8_ofWhole 85 = .ok (.getfield 9, 3) := by decide +kernel
theorem dX8_ofWhole_88 : decode cX8_ofWhole 88 = .ok (.getfield 150, 3) := by decide +kernel
theorem dX8_ofWhole_91 : decode cX8_ofWhole 91 = .ok (.ireturn, 1) := by decide +kernel
theorem dX8_ofWhole_92 : decode cX8_ofWhole 92 = .ok (.aload_n 0, 1) := by decide +kernel
theorem dX8_ofWhole_93 : decode cX8_ofWhole 93 = .ok (.getfield 9, 3) := by decide +kernel
theorem dX8_ofWhole_96 : decode cX8_ofWhole 96 = .ok (.getfield 153, 3) := by decide +kernel
theorem dX8_ofWhole_99 : decode cX8_ofWhole 99 = .ok (.ireturn, 1) := by decide +kernel
theorem dX8_ofWhole_100 : decode cX8_ofWhole 100 = .ok (.aload_n 0, 1) := by decide +kernel
theorem dX8_ofWhole_101 : decode cX8_ofWhole 101 = .ok (.getfield 9, 3) := by decide +kernel
theorem dX8_ofWhole_104 : decode cX8_ofWhole 104 = .ok (.getfield 154, 3) := by decide +kernel
theorem dX8_ofWhole_107 : decode cX8_ofWhole 107 = .ok (.ireturn, 1) := by decide +kernel
theorem dX8_ofWhole_108 : decode cX8_ofWhole 108 = .ok (.aload_n 0, 1) := by decide +kernel
theorem dX8_ofWhole_109 : decode cX8_ofWhole 109 = .ok (.getfield 9, 3) := by decide +kernel
theorem dX8_ofWhole_112 : decode cX8_ofWhole 112 = .ok (.getfield 157, 3) := by decide +kernel
theorem dX8_ofWhole_115 : decode cX8_ofWhole 115 = .ok (.ireturn, 1) := by decide +kernel
theorem dX8_ofWhole_116 : decode cX8_ofWhole 116 = .ok (.aload_n 0, 1) := by decide +kernel
theorem dX8_ofWhole_117 : decode cX8_ofWhole 117 = .ok (.invokevirtual 160, 3) := by decide +kernel
theorem dX8_ofWhole_120 : decode cX8_ofWhole 120 = .ok (.ireturn, 1) := by decide +kernel
theorem dX8_ofWhole_121 : decode cX8_ofWhole 121 = .ok (.aload_n 0, 1) := by decide +kernel
theorem dX8_ofWhole_122 : decode cX8_ofWhole 122 = .ok (.invokevirtual 164, 3) := by decide +kernel
theorem dX8_ofWhole_125 : decode cX8_ofWhole 125 = .ok (.ireturn, 1) := by decide +kernel
def sX8_ofWhole (w : Wl) (l1 : Int32) : Option Int32 := (if l1 = 0 then some (w 1 0) else (if l1 = 1 then some (w 1 5) else (if l1 = 2 then some (w 1 6) else (if l1 = 3 then some (w 1 7) else (if l1 = 4 then some (w 1 8) else (if l1 = 5 then some (w 1 2) else (if l1 = 6 then some (w 1 3) else (if l1 = 7 then some (w 1 4) else (if l1 = 8 then (sX8_worksOnTheirWay w ).bind (fun r10 => some r10) else (sX8_openCrates w ).bind (fun r12 => some r12))))))))))
theorem kX8_ofWhole {l : Launch} {Γ : Gl} {B : Bs} {w : Wl} {G : Gf} {sz : Nat} {l1 : Int32} {r : Int32} (hW : Wd Γ B w G) (h : sX8_ofWhole w l1 = some r) : CtR l Γ yX8_ofWhole cX8_ofWhole 2 (some .int) 3 [.ref (B.1 + 75), .int l1] G sz (.int (r)) := by
  refine Ct.of rfl (Nat.le_of_ble_eq_true rfl) fun X hx hr hl hΓ hnm => ?_
  subst hl hΓ
  show J X 2 G sz 0 0 0 [some (.ref (B.1 + 75)), some (.int l1)] []
  unfold sX8_ofWhole at h
  refine J_il4 hx rfl rfl dX8_ofWhole_0 ?_
  by_cases h1 : l1 = 0
  · replace h := pos h h1
    refine J_swIn hx 52 dX8_ofWhole_1 (by rw [h1]; decide) (by rw [h1]; decide) (by rw [h1]; rfl) rfl ?_
    refine J_al4 hx rfl rfl dX8_ofWhole_52 ?_
    refine g8_0 hx hW 1 (rfl : kd 75 = 13) fl_X8_9 rfl dX8_ofWhole_53 ?_
    refine g6_0 hx hW (rfl : kd 1 = 2) fl_X8_138 dX8_ofWhole_56 ?_
    exact J_iretR hx hr dX8_ofWhole_59 (Nat.le_refl 0) (Nat.le_refl 0) (Option.some.inj h)
  replace h := neg h h1
  by_cases h2 : l1 = 1
  · replace h := pos h h2
    refine J_swIn hx 60 dX8_ofWhole_1 (by rw [h2]; decide) (by rw [h2]; decide) (by rw [h2]; rfl) rfl ?_
    refine J_al4 hx rfl rfl dX8_ofWhole_60 ?_
    refine g8_0 hx hW 1 (rfl : kd 75 = 13) fl_X8_9 rfl dX8_ofWhole_61 ?_
    refine g6_5 hx hW (rfl : kd 1 = 2) fl_X8_141 dX8_ofWhole_64 ?_
    exact J_iretR hx hr dX8_ofWhole_67 (Nat.le_refl 0) (Nat.le_refl 0) (Option.some.inj h)
  replace h := neg h h2
  by_cases h3 : l1 = 2
  · replace h := pos h h3
    refine J_swIn hx 68 dX8_ofWhole_1 (by rw [h3]; decide) (by rw [h3]; decide) (by rw [h3]; rfl) rfl ?_
    refine J_al4 hx rfl rfl dX8_ofWhole_68 ?_
    refine g8_0 hx hW 1 (rfl : kd 75 = 13) fl_X8_9 rfl dX8_ofWhole_69 ?_
    refine g6_6 hx hW (rfl : kd 1 = 2) fl_X8_144 dX8_ofWhole_72 ?_
    exact J_iretR hx hr dX8_ofWhole_75 (Nat.le_refl 0) (Nat.le_refl 0) (Option.some.inj h)
  replace h := neg h h3
  by_cases h4 : l1 = 3
  · replace h := pos h h4
    refine J_swIn hx 76 dX8_ofWhole_1 (by rw [h4]; decide) (by rw [h4]; decide) (by rw [h4]; rfl) rfl ?_
    refine J_al4 hx rfl rfl dX8_ofWhole_76 ?_
    refine g8_0 hx hW 1 (rfl : kd 75 = 13) fl_X8_9 rfl dX8_ofWhole_77 ?_
    refine g6_7 hx hW (rfl : kd 1 = 2) fl_X8_147 dX8_ofWhole_80 ?_
    exact J_iretR hx hr dX8_ofWhole_83 (Nat.le_refl 0) (Nat.le_refl 0) (Option.some.inj h)
  replace h := neg h h4
  by_cases h5 : l1 = 4
  · replace h := pos h h5
    refine J_swIn hx 84 dX8_ofWhole_1 (by rw [h5]; decide) (by rw [h5]; decide) (by rw [h5]; rfl) rfl ?_
    refine J_al4 hx rfl rfl dX8_ofWhole_84 ?_
    refine g8_0 hx hW 1 (rfl : kd 75 = 13) fl_X8_9 rfl dX8_ofWhole_85 ?_
    refine g6_8 hx hW (rfl : kd 1 = 2) fl_X8_150 dX8_ofWhole_88 ?_
    exact J_iretR hx hr dX8_ofWhole_91 (Nat.le_refl 0) (Nat.le_refl 0) (Option.some.inj h)
  replace h := neg h h5
  by_cases h6 : l1 = 5
  · replace h := pos h h6
    refine J_swIn hx 92 dX8_ofWhole_1 (by rw [h6]; decide) (by rw [h6]; decide) (by rw [h6]; rfl) rfl ?_
    refine J_al4 hx rfl rfl dX8_ofWhole_92 ?_
    refine g8_0 hx hW 1 (rfl : kd 75 = 13) fl_X8_9 rfl dX8_ofWhole_93 ?_
    refine g6_2 hx hW (rfl : kd 1 = 2) fl_X8_153 dX8_ofWhole_96 ?_
    exact J_iretR hx hr dX8_ofWhole_99 (Nat.le_refl 0) (Nat.le_refl 0) (Option.some.inj h)
  replace h := neg h h6
  by_cases h7 : l1 = 6
  · replace h := pos h h7
    refine J_swIn hx 100 dX8_ofWhole_1 (by rw [h7]; decide) (by rw [h7]; decide) (by rw [h7]; rfl) rfl ?_
    refine J_al4 hx rfl rfl dX8_ofWhole_100 ?_
    refine g8_0 hx hW 1 (rfl : kd 75 = 13) fl_X8_9 rfl dX8_ofWhole_101 ?_
    refine g6_3 hx hW (rfl : kd 1 = 2) fl_X8_154 dX8_ofWhole_104 ?_
    exact J_iretR hx hr dX8_ofWhole_107 (Nat.le_refl 0) (Nat.le_refl 0) (Option.some.inj h)
  replace h := neg h h7
  by_cases h8 : l1 = 7
  · replace h := pos h h8
    refine J_swIn hx 108 dX8_ofWhole_1 (by rw [h8]; decide) (by rw [h8]; decide) (by rw [h8]; rfl) rfl ?_
    refine J_al4 hx rfl rfl dX8_ofWhole_108 ?_
    refine g8_0 hx hW 1 (rfl : kd 75 = 13) fl_X8_9 rfl dX8_ofWhole_109 ?_
    refine g6_4 hx hW (rfl : kd 1 = 2) fl_X8_157 dX8_ofWhole_112 ?_
    exact J_iretR hx hr dX8_ofWhole_115 (Nat.le_refl 0) (Nat.le_refl 0) (Option.some.inj h)
  replace h := neg h h8
  by_cases h9 : l1 = 8
  · replace h := pos h h9
    refine J_swIn hx 116 dX8_ofWhole_1 (by rw [h9]; decide) (by rw [h9]; decide) (by rw [h9]; rfl) rfl ?_
    refine J_al4 hx rfl rfl dX8_ofWhole_116 ?_
    obtain ⟨r10, hr11, h⟩ := bnd h
    refine J_rdV hx (kX8_worksOnTheirWay  hW hr11) ml_X8_160 lk_X8_worksOnTheirWay (ci := 7) rfl (hW.obj (rfl : kd 75 = 13) (by decide) (by decide)) (rest := []) rfl rfl (by decide) (by decide) (Nat.le_of_ble_eq_true rfl) (Nat.le_refl 0) (Nat.le_refl 0) dX8_ofWhole_117 ?_
    exact J_iretR hx hr dX8_ofWhole_120 (Nat.le_refl 0) (Nat.le_refl 0) (Option.some.inj h)
  replace h := neg h h9
  refine J_swOut hx 121 dX8_ofWhole_1 (swD fun j jl jh e => by
      have hj : j = 0 ∨ j = 1 ∨ j = 2 ∨ j = 3 ∨ j = 4 ∨ j = 5 ∨ j = 6 ∨ j = 7 ∨ j = 8 := by omega
      rcases hj with rfl | rfl | rfl | rfl | rfl | rfl | rfl | rfl | rfl <;> first | exact h1 e | exact h2 e | exact h3 e | exact h4 e | exact h5 e | exact h6 e | exact h7 e | exact h8 e | exact h9 e) rfl ?_
  refine J_al4 hx rfl rfl dX8_ofWhole_121 ?_
  obtain ⟨r12, hr13, h⟩ := bnd h
  refine J_rdV hx (kX8_openCrates  hW hr13) ml_X8_164 lk_X8_openCrates (ci := 7) rfl (hW.obj (rfl : kd 75 = 13) (by decide) (by decide)) (rest := []) rfl rfl (by decide) (by decide) (Nat.le_of_ble_eq_true rfl) (Nat.le_refl 0) (Nat.le_refl 0) dX8_ofWhole_122 ?_
  exact J_iretR hx hr dX8_ofWhole_125 (Nat.le_refl 0) (Nat.le_refl 0) (Option.some.inj h)
