/-! Mirrors and walks, written by wip/whole/gen_walks.py -/
theorem dX5_listAround_0 : decode cX5_listAround 0 = .ok (.iconst 0, 1) := by decide +kernel
theorem dX5_listAround_1 : decode cX5_listAround 1 = .ok (.istore_n 2, 1) := by decide +kernel
theorem dX5_listAround_2 : decode cX5_listAround 2 = .ok (.iload_n 1, 1) := by decide +kernel
theorem dX5_listAround_3 : decode cX5_listAround 3 = .ok (.istore_n 3, 1) := by decide +kernel
theorem dX5_listAround_4 : decode cX5_listAround 4 = .ok (.iload_n 2, 1) := by decide +kernel
theorem dX5_listAround_5 : decode cX5_listAround 5 = .ok (.bipush 12, 2) := by decide +kernel
theorem dX5_listAround_7 : decode cX5_listAround 7 = .ok (.if_icmp .ge 40, 3) := by decide +kernel
theorem dX5_listAround_10 : decode cX5_listAround 10 = .ok (.aload_n 0, 1) := by decide +kernel
theorem dX5_listAround_11 : decode cX5_listAround 11 = .ok (.getfield 15, 3) := by decide +kernel
theorem dX5_listAround_14 : decode cX5_listAround 14 = .ok (.iload_n 3, 1) := by decide +kernel
theorem dX5_listAround_15 : decode cX5_listAround 15 = .ok (.invokevirtual 35, 3) := by decide +kernel
theorem dX5_listAround_18 : decode cX5_listAround 18 = .ok (.ifCond .eq 29, 3) := by decide +kernel
theorem dX5_listAround_21 : decode cX5_listAround 21 = .ok (.aload_n 0, 1) := by decide +kernel
theorem dX5_listAround_22 : decode cX5_listAround 22 = .ok (.getfield 9, 3) := by decide +kernel
theorem dX5_listAround_25 : decode cX5_listAround 25 = .ok (.iload_n 2, 1) := by decide +kernel
theorem dX5_listAround_26 : decode cX5_listAround 26 = .ok (.iload_n 3, 1) := by decide +kernel
theorem dX5_listAround_27 : decode cX5_listAround 27 = .ok (.iastore, 1) := by decide +kernel
theorem dX5_listAround_28 : decode cX5_listAround 28 = .ok (.aload_n 0, 1) := by decide +kernel
theorem dX5_listAround_29 : decode cX5_listAround 29 = .ok (.getfield 15, 3) := by decide +kernel
theorem dX5_listAround_32 : decode cX5_listAround 32 = .ok (.getfield 42, 3) := by decide +kernel
theorem dX5_listAround_35 : decode cX5_listAround 35 = .ok (.iload_n 3, 1) := by decide +kernel
theorem dX5_listAround_36 : decode cX5_listAround 36 = .ok (.aaload, 1) := by decide +kernel
theorem dX5_listAround_37 : decode cX5_listAround 37 = .ok (.getfield 116, 3) := by decide +kernel
theorem dX5_listAround_40 : decode cX5_listAround 40 = .ok (.istore_n 3, 1) := by decide +kernel
theorem dX5_listAround_41 : decode cX5_listAround 41 = .ok (.iinc 2 1, 3) := by decide +kernel
theorem dX5_listAround_44 : decode cX5_listAround 44 = .ok (.goto (-40), 3) := by decide +kernel
theorem dX5_listAround_47 : decode cX5_listAround 47 = .ok (.iload_n 2, 1) := by decide +kernel
theorem dX5_listAround_48 : decode cX5_listAround 48 = .ok (.ireturn, 1) := by decide +kernel
def sX5_listAround_4 : Nat → Wl → Int32 → Int32 → Option (Int32 × Wl)
  | 0, _, _, _ => none
  | n + 1, w, l2, l3 => (if (12 : Int32) ≤ l2 then some (l2, w) else (sX6_hasCrate w l3).bind (fun r2 => (if r2 = true then (idx l2 12).bind (fun c5 => (idx l3 12).bind (fun c9 => sX5_listAround_4 n (wst w 77 c5 l3) (l2 + 1) ((wst w 77 c5 l3) (29 + c9) 2))) else some (l2, w))))
theorem tX5_listAround_4 {X : Cx} {B : Bs} {sz : Nat} {r : (Int32 × Wl)} (hx : Fx X cX5_listAround 4 RX5 1 0 0) (hr : Rt X (some .int) 0 0 (WΨ (xΓ X) B (some (.int (r.1))) r.2 sz)) : ∀ (n : Nat), ∀ (w : Wl) (l2 : Int32) (l3 : Int32) {G : Gf} (hW : Wd (xΓ X) B w G) (h : sX5_listAround_4 n w l2 l3 = some r), J X 4 G sz 0 0 4 [some (.ref (B.1 + 76)), none, some (.int l2), some (.int l3)] [] := by
  intro n
  induction n with
  | zero => intro w l2 l3 G hW h; rw [sX5_listAround_4.eq_1] at h; cases h
  | succ n ih =>
    intro w l2 l3 G hW h
    rw [sX5_listAround_4.eq_2] at h
    refine J_il4 hx rfl rfl dX5_listAround_4 ?_
    refine J_bipush hx (12 : Int32) dX5_listAround_5 rfl ?_
    refine J_icmp_ge hx 47 dX5_listAround_7 rfl (fun h1 => ?_) (fun h1 => ?_)
    · replace h := pos h h1
      refine J_il4 hx rfl rfl dX5_listAround_47 ?_
      obtain rfl := Option.some.inj h
      exact J_iretW hx hr hW dX5_listAround_48 (Nat.le_refl 0) (Nat.le_refl 0)
    · replace h := neg h h1
      refine J_al4 hx rfl rfl dX5_listAround_10 ?_
      refine g5_0 hx hW 1 (rfl : kd 76 = 14) fl_X5_15 rfl dX5_listAround_11 ?_
      refine J_il4 hx rfl rfl dX5_listAround_14 ?_
      obtain ⟨r2, hr3, h⟩ := bnd h
      refine J_rdV hx (kX6_hasCrate  hW hr3) ml_X5_35 lk_X6_hasCrate (ci := 5) rfl (hW.obj (rfl : kd 1 = 2) (by decide) (by decide)) (rest := []) rfl rfl (by decide) (by decide) (Nat.le_of_ble_eq_true rfl) (Nat.le_refl 0) (Nat.le_refl 0) dX5_listAround_15 ?_
      refine J_bif_eq hx 47 dX5_listAround_18 rfl (fun h4 => ?_) (fun h4 => ?_)
      · replace h := neg h (bft h4)
        refine J_il4 hx rfl rfl dX5_listAround_47 ?_
        obtain rfl := Option.some.inj h
        exact J_iretW hx hr hW dX5_listAround_48 (Nat.le_refl 0) (Nat.le_refl 0)
      · replace h := pos h h4
        refine J_al4 hx rfl rfl dX5_listAround_21 ?_
        refine g5_2 hx hW 77 (rfl : kd 76 = 14) fl_X5_9 rfl dX5_listAround_22 ?_
        refine J_il4 hx rfl rfl dX5_listAround_25 ?_
        refine J_il4 hx rfl rfl dX5_listAround_26 ?_
        obtain ⟨c5, hc6, h⟩ := bnd h
        refine J_iaS hx hW (rfl : kd 77 = 112) hc6 dX5_listAround_27 fun G7 hW8 => ?_
        refine J_al4 hx rfl rfl dX5_listAround_28 ?_
        refine g5_0 hx hW8 1 (rfl : kd 76 = 14) fl_X5_15 rfl dX5_listAround_29 ?_
        refine g6_10 hx hW8 3 (rfl : kd 1 = 2) fl_X5_42 rfl dX5_listAround_32 ?_
        refine J_il4 hx rfl rfl dX5_listAround_35 ?_
        obtain ⟨c9, hc10, h⟩ := bnd h
        refine J_a4 hx hW8 (29 + c9) (rfl : kd 3 = 4) hc10 rfl dX5_listAround_36 fun hk11 => ?_
        refine g3_2 hx hW8 hk11 fl_X5_116 dX5_listAround_37 ?_
        refine J_is4 hx rfl (by decide) (hc_of rfl) rfl dX5_listAround_40 ?_
        refine J_iinc hx (v' := (l2 + 1)) rfl rfl (by decide) (hc_of rfl) rfl dX5_listAround_41 ?_
        refine J_goto hx 4 dX5_listAround_44 rfl ?_
        exact ih _ _ _  hW8 h
def sX5_listAround (w : Wl) (l1 : Int32) : Option (Int32 × Wl) := sX5_listAround_4 FU w (0 : Int32) l1
theorem kX5_listAround {l : Launch} {Γ : Gl} {B : Bs} {w : Wl} {G : Gf} {sz : Nat} {l1 : Int32} {r : (Int32 × Wl)} (hW : Wd Γ B w G) (h : sX5_listAround w l1 = some r) : CtW l Γ yX5_listAround cX5_listAround 4 (some .int) 1 [.ref (B.1 + 76), .int l1] G sz B (some (.int (r.1))) r.2 := by
  refine Ct.of rfl (Nat.le_of_ble_eq_true rfl) fun X hx hr hl hΓ hnm => ?_
  subst hl hΓ
  show J X 4 G sz 0 0 0 [some (.ref (B.1 + 76)), some (.int l1), none, none] []
  unfold sX5_listAround at h
  refine J_iconst hx (0 : Int32) dX5_listAround_0 rfl ?_
  refine J_is4 hx rfl (by decide) (hc_of rfl) rfl dX5_listAround_1 ?_
  refine J_il4 hx rfl rfl dX5_listAround_2 ?_
  refine J_is4 hx rfl (by decide) (hc_of rfl) rfl dX5_listAround_3 ?_
  refine J_lw (ls' := [some (.ref (B.1 + 76)), none, some (.int (0 : Int32)), some (.int l1)]) (lwS (lwN (lwS (lwS lwZ)))) ?_
  exact tX5_listAround_4 hx hr _ _ _ _  hW h
theorem dX5_timeThrough_0 : decode cX5_timeThrough 0 = .ok (.aload_n 0, 1) := by decide +kernel
theorem dX5_timeThrough_1 : decode cX5_timeThrough 1 = .ok (.getfield 15, 3) := by decide +kernel
theorem dX5_timeThrough_4 : decode cX5_timeThrough 4 = .ok (.iload_n 2, 1) := by decide +kernel
theorem dX5_timeThrough_5 : decode cX5_timeThrough 5 = .ok (.invokevirtual 95, 3) := by decide +kernel
theorem dX5_timeThrough_8 : decode cX5_timeThrough 8 = .ok (.ifCond .ne 11, 3) := by decide +kernel
theorem dX5_timeThrough_11 : decode cX5_timeThrough 11 = .ok (.aload_n 0, 1) := by decide +kernel
theorem dX5_timeThrough_12 : decode cX5_timeThrough 12 = .ok (.getfield 15, 3) := by decide +kernel
theorem dX5_timeThrough_15 : decode cX5_timeThrough 15 = .ok (.getfield 39, 3) := by decide +kernel
theorem dX5_timeThrough_18 : decode cX5_timeThrough 18 = .ok (.ireturn, 1) := by decide +kernel
theorem dX5_timeThrough_19 : decode cX5_timeThrough 19 = .ok (.aload_n 0, 1) := by decide +kernel
theorem dX5_timeThrough_20 : decode cX5_timeThrough 20 = .ok (.iload_n 1, 1) := by decide +kernel
theorem dX5_timeThrough_21 : decode cX5_timeThrough 21 = .ok (.invokevirtual 98, 3) := by decide +kernel
theorem dX5_timeThrough_24 : decode cX5_timeThrough 24 = .ok (.istore 4, 2) := by decide +kernel
theorem dX5_timeThrough_26 : decode cX5_timeThrough 26 = .ok (.iload_n 3, 1) := by decide +kernel
theorem dX5_timeThrough_27 : decode cX5_timeThrough 27 = .ok (.iconst (-1), 1) := by decide +kernel
theorem dX5_timeThrough_28 : decode cX5_timeThrough 28 = .ok (.if_icmp .ne 13, 3) := by decide +kernel
theorem dX5_timeThrough_31 : decode cX5_timeThrough 31 = .ok (.aload_n 0, 1) := by decide +kernel
theorem dX5_timeThrough_32 : decode cX5_timeThrough 32 = .ok (.getfield 15, 3) := by decide +kernel
theorem dX5_timeThrough_35 : decode cX5_timeThrough 35 = .ok (.getfield 39, 3) := by decide +kernel
theorem dX5_timeThrough_38 : decode cX5_timeThrough 38 = .ok (.goto 4, 3) := by decide +kernel
theorem dX5_timeThrough_41 : decode cX5_timeThrough 41 = .ok (.iload_n 3, 1) := by decide +kernel
theorem dX5_timeThrough_42 : decode cX5_timeThrough 42 = .ok (.istore 5, 2) := by decide +kernel
theorem dX5_timeThrough_44 : decode cX5_timeThrough 44 = .ok (.iload_n 3, 1) := by decide +kernel
theorem dX5_timeThrough_45 : decode cX5_timeThrough 45 = .ok (.iconst (-1), 1) := by decide +kernel
theorem dX5_timeThrough_46 : decode cX5_timeThrough 46 = .ok (.if_icmp .eq 7, 3) := by decide +kernel
theorem dX5_timeThrough_49 : decode cX5_timeThrough 49 = .ok (.iconst 1, 1) := by decide +kernel
theorem dX5_timeThrough_50 : decode cX5_timeThrough 50 = .ok (.goto 4, 3) := by decide +kernel
theorem dX5_timeThrough_53 : decode cX5_timeThrough 53 = .ok (.iconst 0, 1) := by decide +kernel
theorem dX5_timeThrough_54 : decode cX5_timeThrough 54 = .ok (.istore 6, 2) := by decide +kernel
theorem dX5_timeThrough_56 : decode cX5_timeThrough 56 = .ok (.iload 4, 2) := by decide +kernel
theorem dX5_timeThrough_58 : decode cX5_timeThrough 58 = .ok (.iconst 1, 1) := by decide +kernel
theorem dX5_timeThrough_59 : decode cX5_timeThrough 59 = .ok (.isub, 1) := by decide +kernel
theorem dX5_timeThrough_60 : decode cX5_timeThrough 60 = .ok (.istore 7, 2) := by decide +kernel
theorem dX5_timeThrough_62 : decode cX5_timeThrough 62 = .ok (.iload 7, 2) := by decide +kernel
theorem dX5_timeThrough_64 : decode cX5_timeThrough 64 = .ok (.ifCond .lt 90, 3) := by decide +kernel
theorem dX5_timeThrough_67 : decode cX5_timeThrough 67 = .ok (.aload_n 0, 1) := by decide +kernel
theorem dX5_timeThrough_68 : decode cX5_timeThrough 68 = .ok (.getfield 15, 3) := by decide +kernel
theorem dX5_timeThrough_71 : decode cX5_timeThrough 71 = .ok (.getfield 42, 3) := by decide +kernel
theorem dX5_timeThrough_74 : decode cX5_timeThrough 74 = .ok (.aload_n 0, 1) := by decide +kernel
theorem dX5_timeThrough_75 : decode cX5_timeThrough 75 = .ok (.getfield 9, 3) := by decide +kernel
theorem dX5_timeThrough_78 : decode cX5_timeThrough 78 = .ok (.iload 7, 2) := by decide +kernel
theorem dX5_timeThrough_80 : decode cX5_timeThrough 80 = .ok (.iaload, 1) := by decide +kernel
theorem dX5_timeThrough_81 : decode cX5_timeThrough 81 = .ok (.aaload, 1) := by decide +kernel
theorem dX5_timeThrough_82 : decode cX5_timeThrough 82 = .ok (.astore 8, 2) := by decide +kernel
theorem dX5_timeThrough_84 : decode cX5_timeThrough 84 = .ok (.aload 8, 2) := by decide +kernel
theorem dX5_timeThrough_86 : decode cX5_timeThrough 86 = .ok (.getfield 101, 3) := by decide +kernel
theorem dX5_timeThrough_89 : decode cX5_timeThrough 89 = .ok (.ifCond .ne 44, 3) := by decide +kernel
theorem dX5_timeThrough_92 : decode cX5_timeThrough 92 = .ok (.iload 6, 2) := by decide +kernel
theorem dX5_timeThrough_94 : decode cX5_timeThrough 94 = .ok (.ifCond .eq 8, 3) := by decide +kernel
theorem dX5_timeThrough_97 : decode cX5_timeThrough 97 = .ok (.iload 5, 2) := by decide +kernel
theorem dX5_timeThrough_99 : decode cX5_timeThrough 99 = .ok (.goto 8, 3) := by decide +kernel
theorem dX5_timeThrough_102 : decode cX5_timeThrough 102 = .ok (.aload 8, 2) := by decide +kernel
theorem dX5_timeThrough_104 : decode cX5_timeThrough 104 = .ok (.getfield 105, 3) := by decide +kernel
theorem dX5_timeThrough_107 : decode cX5_timeThrough 107 = .ok (.istore 9, 2) := by decide +kernel
theorem dX5_timeThrough_109 : decode cX5_timeThrough 109 = .ok (.iload 5, 2) := by decide +kernel
theorem dX5_timeThrough_111 : decode cX5_timeThrough 111 = .ok (.iload 9, 2) := by decide +kernel
theorem dX5_timeThrough_113 : decode cX5_timeThrough 113 = .ok (.aload 8, 2) := by decide +kernel
theorem dX5_timeThrough_115 : decode cX5_timeThrough 115 = .ok (.aload_n 0, 1) := by decide +kernel
theorem dX5_timeThrough_116 : decode cX5_timeThrough 116 = .ok (.getfield 15, 3) := by decide +kernel
theorem dX5_timeThrough_119 : decode cX5_timeThrough 119 = .ok (.getfield 108, 3) := by decide +kernel
theorem dX5_timeThrough_122 : decode cX5_timeThrough 122 = .ok (.iload_n 2, 1) := by decide +kernel
theorem dX5_timeThrough_123 : decode cX5_timeThrough 123 = .ok (.aaload, 1) := by decide +kernel
theorem dX5_timeThrough_124 : decode cX5_timeThrough 124 = .ok (.invokevirtual 112, 3) := by decide +kernel
theorem dX5_timeThrough_127 : decode cX5_timeThrough 127 = .ok (.iadd, 1) := by decide +kernel
theorem dX5_timeThrough_128 : decode cX5_timeThrough 128 = .ok (.invokestatic 75, 3) := by decide +kernel
theorem dX5_timeThrough_131 : decode cX5_timeThrough 131 = .ok (.istore 5, 2) := by decide +kernel
theorem dX5_timeThrough_133 : decode cX5_timeThrough 133 = .ok (.aload 8, 2) := by decide +kernel
theorem dX5_timeThrough_135 : decode cX5_timeThrough 135 = .ok (.getfield 101, 3) := by decide +kernel
theorem dX5_timeThrough_138 : decode cX5_timeThrough 138 = .ok (.ifCond .ne 7, 3) := by decide +kernel
theorem dX5_timeThrough_141 : decode cX5_timeThrough 141 = .ok (.iconst 1, 1) := by decide +kernel
theorem dX5_timeThrough_142 : decode cX5_timeThrough 142 = .ok (.goto 4, 3) := by decide +kernel
theorem dX5_timeThrough_145 : decode cX5_timeThrough 145 = .ok (.iconst 0, 1) := by decide +kernel
theorem dX5_timeThrough_146 : decode cX5_timeThrough 146 = .ok (.istore 6, 2) := by decide +kernel
theorem dX5_timeThrough_148 : decode cX5_timeThrough 148 = .ok (.iinc 7 (-1), 3) := by decide +kernel
theorem dX5_timeThrough_151 : decode cX5_timeThrough 151 = .ok (.goto (-89), 3) := by decide +kernel
theorem dX5_timeThrough_154 : decode cX5_timeThrough 154 = .ok (.iload 5, 2) := by decide +kernel
theorem dX5_timeThrough_156 : decode cX5_timeThrough 156 = .ok (.ireturn, 1) := by decide +kernel
def sX5_timeThrough_133 (k62 : Wl → Int32 → Int32 → Int32 → Int32 → Option (Int32 × Wl)) (w : Wl) (l2 : Int32) (l5 : Int32) (l7 : Int32) (o8 : Nat) : Option (Int32 × Wl) := (if (w o8 1) = 0 then k62 w l2 l5 (1 : Int32) (l7 + (-1)) else k62 w l2 l5 (0 : Int32) (l7 + (-1)))
theorem tX5_timeThrough_133 {X : Cx} {B : Bs} {sz : Nat} {r : (Int32 × Wl)} (hx : Fx X cX5_timeThrough 10 RX5 2 0 0) (hr : Rt X (some .int) 0 0 (WΨ (xΓ X) B (some (.int (r.1))) r.2 sz)) (k62 : Wl → Int32 → Int32 → Int32 → Int32 → Option (Int32 × Wl)) (hk62 : ∀ (w : Wl) (l2 : Int32) (l5 : Int32) (l6 : Int32) (l7 : Int32) {G : Gf} (hW : Wd (xΓ X) B w G) (h : k62 w l2 l5 l6 l7 = some r), J X 10 G sz 0 0 62 [some (.ref (B.1 + 76)), none, some (.int l2), none, none, some (.int l5), some (.int l6), some (.int l7), none, none] []) : ∀ (w : Wl) (l2 : Int32) (l5 : Int32) (l7 : Int32) (o8 : Nat) (ho8 : kd o8 = 9) {G : Gf} (hW : Wd (xΓ X) B w G) (h : sX5_timeThrough_133 k62  w l2 l5 l7 o8 = some r), J X 10 G sz 0 0 133 [some (.ref (B.1 + 76)), none, some (.int l2), none, none, some (.int l5), none, some (.int l7), some (.ref (B.1 + o8)), none] [] := by
  intro w l2 l5 l7 o8 ho8 G hW h
  unfold sX5_timeThrough_133 at h
  refine J_al hx rfl dX5_timeThrough_133 ?_
  refine g3_1 hx hW ho8 fl_X5_101 dX5_timeThrough_135 ?_
  refine J_if_ne hx 145 dX5_timeThrough_138 rfl (fun h1 => ?_) (fun h1 => ?_)
  · replace h := neg h h1
    refine J_iconst hx (0 : Int32) dX5_timeThrough_145 rfl ?_
    refine J_is hx (by decide) (hc_of rfl) rfl dX5_timeThrough_146 ?_
    refine J_iinc hx (v' := (l7 + (-1))) rfl (iinc_m1 _) (by decide) (hc_of rfl) rfl dX5_timeThrough_148 ?_
    refine J_goto hx 62 dX5_timeThrough_151 rfl ?_
    refine J_lw (ls' := [some (.ref (B.1 + 76)), none, some (.int l2), none, none, some (.int l5), some (.int (0 : Int32)), some (.int (l7 + (-1))), none, none]) (lwS (lwN (lwS (lwN (lwN (lwS (lwS (lwS (lwN (lwN lwZ)))))))))) ?_
    exact hk62 _ _ _ _ _  hW h
  · replace h := pos h h1
    refine J_iconst hx (1 : Int32) dX5_timeThrough_141 rfl ?_
    refine J_goto hx 146 dX5_timeThrough_142 rfl ?_
    refine J_is hx (by decide) (hc_of rfl) rfl dX5_timeThrough_146 ?_
    refine J_iinc hx (v' := (l7 + (-1))) rfl (iinc_m1 _) (by decide) (hc_of rfl) rfl dX5_timeThrough_148 ?_
    refine J_goto hx 62 dX5_timeThrough_151 rfl ?_
    refine J_lw (ls' := [some (.ref (B.1 + 76)), none, some (.int l2), none, none, some (.int l5), some (.int (1 : Int32)), some (.int (l7 + (-1))), none, none]) (lwS (lwN (lwS (lwN (lwN (lwS (lwS (lwS (lwN (lwN lwZ)))))))))) ?_
    exact hk62 _ _ _ _ _  hW h
def sX5_timeThrough_107 (k62 : Wl → Int32 → Int32 → Int32 → Int32 → Option (Int32 × Wl)) (w : Wl) (l2 : Int32) (l5 : Int32) (l7 : Int32) (o8 : Nat) (s0 : Int32) : Option (Int32 × Wl) := (idx l2 8).bind (fun c1 => (sX3_hoursNeededAt w o8 (13 + 2 * c1)).bind (fun r4 => sX5_timeThrough_133 k62 w l2 (if l5 < (s0 + r4) then (s0 + r4) else l5) l7 o8))
theorem tX5_timeThrough_107 {X : Cx} {B : Bs} {sz : Nat} {r : (Int32 × Wl)} (hx : Fx X cX5_timeThrough 10 RX5 2 0 0) (hr : Rt X (some .int) 0 0 (WΨ (xΓ X) B (some (.int (r.1))) r.2 sz)) (k62 : Wl → Int32 → Int32 → Int32 → Int32 → Option (Int32 × Wl)) (hk62 : ∀ (w : Wl) (l2 : Int32) (l5 : Int32) (l6 : Int32) (l7 : Int32) {G : Gf} (hW : Wd (xΓ X) B w G) (h : k62 w l2 l5 l6 l7 = some r), J X 10 G sz 0 0 62 [some (.ref (B.1 + 76)), none, some (.int l2), none, none, some (.int l5), some (.int l6), some (.int l7), none, none] []) : ∀ (w : Wl) (l2 : Int32) (l5 : Int32) (l7 : Int32) (o8 : Nat) (s0 : Int32) (ho8 : kd o8 = 9) {G : Gf} (hW : Wd (xΓ X) B w G) (h : sX5_timeThrough_107 k62  w l2 l5 l7 o8 s0 = some r), J X 10 G sz 0 0 107 [some (.ref (B.1 + 76)), none, some (.int l2), none, none, some (.int l5), none, some (.int l7), some (.ref (B.1 + o8)), none] [.int s0] := by
  intro w l2 l5 l7 o8 s0 ho8 G hW h
  unfold sX5_timeThrough_107 at h
  refine J_is hx (by decide) (hc_of rfl) rfl dX5_timeThrough_107 ?_
  refine J_il hx rfl dX5_timeThrough_109 ?_
  refine J_il hx rfl dX5_timeThrough_111 ?_
  refine J_al hx rfl dX5_timeThrough_113 ?_
  refine J_al4 hx rfl rfl dX5_timeThrough_115 ?_
  refine g5_0 hx hW 1 (rfl : kd 76 = 14) fl_X5_15 rfl dX5_timeThrough_116 ?_
  refine g6_9 hx hW 2 (rfl : kd 1 = 2) fl_X5_108 rfl dX5_timeThrough_119 ?_
  refine J_il4 hx rfl rfl dX5_timeThrough_122 ?_
  obtain ⟨c1, hc2, h⟩ := bnd h
  refine J_a3 hx hW (13 + 2 * c1) (rfl : kd 2 = 3) hc2 rfl dX5_timeThrough_123 fun hk3 => ?_
  obtain ⟨r4, hr5, h⟩ := bnd h
  refine J_rdV hx (kX3_hoursNeededAt ho8 hk3 hW hr5) ml_X5_112 lk_X3_hoursNeededAt (ci := 2) rfl (hW.obj ho8 (by decide) (by decide)) (rest := [.int s0, .int l5]) rfl rfl (by decide) (by decide) (Nat.le_of_ble_eq_true rfl) (Nat.le_refl 0) (Nat.le_refl 0) dX5_timeThrough_124 ?_
  refine J_iadd hx dX5_timeThrough_127 ?_
  refine J_max hx ml_X5_75 jd_max (by decide) (Nat.le_of_ble_eq_true rfl) (Nat.le_refl 0) (Nat.le_refl 0) dX5_timeThrough_128 ?_
  refine J_is hx (by decide) (hc_of rfl) rfl dX5_timeThrough_131 ?_
  refine J_lw (ls' := [some (.ref (B.1 + 76)), none, some (.int l2), none, none, some (.int (if l5 < (s0 + r4) then (s0 + r4) else l5)), none, some (.int l7), some (.ref (B.1 + o8)), none]) (lwS (lwN (lwS (lwN (lwN (lwS (lwN (lwS (lwS (lwN lwZ)))))))))) ?_
  exact tX5_timeThrough_133 hx hr _ hk62 _ _ _ _ _ ho8 hW h
def sX5_timeThrough_62 : Nat → Wl → Int32 → Int32 → Int32 → Int32 → Option (Int32 × Wl)
  | 0, _, _, _, _, _ => none
  | n + 1, w, l2, l5, l6, l7 => (if l7 < 0 then some (l5, w) else (idx l7 12).bind (fun c2 => (idx (w 77 c2) 12).bind (fun c4 => (if (w (29 + c4) 1) = 0 then (if l6 = 0 then sX5_timeThrough_107 (fun w l2 l5 l6 l7 => sX5_timeThrough_62 n w l2 l5 l6 l7) w l2 l5 l7 (29 + c4) (w (29 + c4) 9) else sX5_timeThrough_107 (fun w l2 l5 l6 l7 => sX5_timeThrough_62 n w l2 l5 l6 l7) w l2 l5 l7 (29 + c4) l5) else sX5_timeThrough_133 (fun w l2 l5 l6 l7 => sX5_timeThrough_62 n w l2 l5 l6 l7) w l2 l5 l7 (29 + c4)))))
theorem tX5_timeThrough_62 {X : Cx} {B : Bs} {sz : Nat} {r : (Int32 × Wl)} (hx : Fx X cX5_timeThrough 10 RX5 2 0 0) (hr : Rt X (some .int) 0 0 (WΨ (xΓ X) B (some (.int (r.1))) r.2 sz)) : ∀ (n : Nat), ∀ (w : Wl) (l2 : Int32) (l5 : Int32) (l6 : Int32) (l7 : Int32) {G : Gf} (hW : Wd (xΓ X) B w G) (h : sX5_timeThrough_62 n w l2 l5 l6 l7 = some r), J X 10 G sz 0 0 62 [some (.ref (B.1 + 76)), none, some (.int l2), none, none, some (.int l5), some (.int l6), some (.int l7), none, none] [] := by
  intro n
  induction n with
  | zero => intro w l2 l5 l6 l7 G hW h; rw [sX5_timeThrough_62.eq_1] at h; cases h
  | succ n ih =>
    intro w l2 l5 l6 l7 G hW h
    rw [sX5_timeThrough_62.eq_2] at h
    refine J_il hx rfl dX5_timeThrough_62 ?_
    refine J_if_lt hx 154 dX5_timeThrough_64 rfl (fun h1 => ?_) (fun h1 => ?_)
    · replace h := pos h h1
      refine J_il hx rfl dX5_timeThrough_154 ?_
      obtain rfl := Option.some.inj h
      exact J_iretW hx hr hW dX5_timeThrough_156 (Nat.le_refl 0) (Nat.le_refl 0)
    · replace h := neg h h1
      refine J_al4 hx rfl rfl dX5_timeThrough_67 ?_
      refine g5_0 hx hW 1 (rfl : kd 76 = 14) fl_X5_15 rfl dX5_timeThrough_68 ?_
      refine g6_10 hx hW 3 (rfl : kd 1 = 2) fl_X5_42 rfl dX5_timeThrough_71 ?_
      refine J_al4 hx rfl rfl dX5_timeThrough_74 ?_
      refine g5_2 hx hW 77 (rfl : kd 76 = 14) fl_X5_9 rfl dX5_timeThrough_75 ?_
      refine J_il hx rfl dX5_timeThrough_78 ?_
      obtain ⟨c2, hc3, h⟩ := bnd h
      refine J_iaW hx hW (rfl : kd 77 = 112) hc3 dX5_timeThrough_80 ?_
      obtain ⟨c4, hc5, h⟩ := bnd h
      refine J_a4 hx hW (29 + c4) (rfl : kd 3 = 4) hc5 rfl dX5_timeThrough_81 fun hk6 => ?_
      refine J_as hx (by decide) (hc_of rfl) rfl dX5_timeThrough_82 ?_
      refine J_al hx rfl dX5_timeThrough_84 ?_
      refine g3_1 hx hW hk6 fl_X5_101 dX5_timeThrough_86 ?_
      refine J_if_ne hx 133 dX5_timeThrough_89 rfl (fun h7 => ?_) (fun h7 => ?_)
      · replace h := neg h h7
        refine J_lw (ls' := [some (.ref (B.1 + 76)), none, some (.int l2), none, none, some (.int l5), none, some (.int l7), some (.ref (B.1 + (29 + c4))), none]) (lwS (lwN (lwS (lwN (lwN (lwS (lwN (lwS (lwS (lwN lwZ)))))))))) ?_
        exact tX5_timeThrough_133 hx hr _ ih _ _ _ _ _ hk6 hW h
      · replace h := pos h h7
        refine J_il hx rfl dX5_timeThrough_92 ?_
        refine J_if_eq hx 102 dX5_timeThrough_94 rfl (fun h8 => ?_) (fun h8 => ?_)
        · replace h := pos h h8
          refine J_al hx rfl dX5_timeThrough_102 ?_
          refine g3_9 hx hW hk6 fl_X5_105 dX5_timeThrough_104 ?_
          refine J_lw (ls' := [some (.ref (B.1 + 76)), none, some (.int l2), none, none, some (.int l5), none, some (.int l7), some (.ref (B.1 + (29 + c4))), none]) (lwS (lwN (lwS (lwN (lwN (lwS (lwN (lwS (lwS (lwN lwZ)))))))))) ?_
          exact tX5_timeThrough_107 hx hr _ ih _ _ _ _ _ _ hk6 hW h
        · replace h := neg h h8
          refine J_il hx rfl dX5_timeThrough_97 ?_
          refine J_goto hx 107 dX5_timeThrough_99 rfl ?_
          refine J_lw (ls' := [some (.ref (B.1 + 76)), none, some (.int l2), none, none, some (.int l5), none, some (.int l7), some (.ref (B.1 + (29 + c4))), none]) (lwS (lwN (lwS (lwN (lwN (lwS (lwN (lwS (lwS (lwN lwZ)))))))))) ?_
          exact tX5_timeThrough_107 hx hr _ ih _ _ _ _ _ _ hk6 hW h
def sX5_timeThrough_42 (w : Wl) (l2 : Int32) (l3 : Int32) (l4 : Int32) (s0 : Int32) : Option (Int32 × Wl) := (if l3 = (-1 : Int32) then sX5_timeThrough_62 FU w l2 s0 (0 : Int32) (l4 - (1 : Int32)) else sX5_timeThrough_62 FU w l2 s0 (1 : Int32) (l4 - (1 : Int32)))
theorem tX5_timeThrough_42 {X : Cx} {B : Bs} {sz : Nat} {r : (Int32 × Wl)} (hx : Fx X cX5_timeThrough 10 RX5 2 0 0) (hr : Rt X (some .int) 0 0 (WΨ (xΓ X) B (some (.int (r.1))) r.2 sz)) : ∀ (w : Wl) (l2 : Int32) (l3 : Int32) (l4 : Int32) (s0 : Int32) {G : Gf} (hW : Wd (xΓ X) B w G) (h : sX5_timeThrough_42  w l2 l3 l4 s0 = some r), J X 10 G sz 0 0 42 [some (.ref (B.1 + 76)), none, some (.int l2), some (.int l3), some (.int l4), none, none, none, none, none] [.int s0] := by
  intro w l2 l3 l4 s0 G hW h
  unfold sX5_timeThrough_42 at h
  refine J_is hx (by decide) (hc_of rfl) rfl dX5_timeThrough_42 ?_
  refine J_il4 hx rfl rfl dX5_timeThrough_44 ?_
  refine J_iconst hx (-1 : Int32) dX5_timeThrough_45 rfl ?_
  refine J_icmp_eq hx 53 dX5_timeThrough_46 rfl (fun h1 => ?_) (fun h1 => ?_)
  · replace h := pos h h1
    refine J_iconst hx (0 : Int32) dX5_timeThrough_53 rfl ?_
    refine J_is hx (by decide) (hc_of rfl) rfl dX5_timeThrough_54 ?_
    refine J_il hx rfl dX5_timeThrough_56 ?_
    refine J_iconst hx (1 : Int32) dX5_timeThrough_58 rfl ?_
    refine J_isub hx dX5_timeThrough_59 ?_
    refine J_is hx (by decide) (hc_of rfl) rfl dX5_timeThrough_60 ?_
    refine J_lw (ls' := [some (.ref (B.1 + 76)), none, some (.int l2), none, none, some (.int s0), some (.int (0 : Int32)), some (.int (l4 - (1 : Int32))), none, none]) (lwS (lwN (lwS (lwN (lwN (lwS (lwS (lwS (lwN (lwN lwZ)))))))))) ?_
    exact tX5_timeThrough_62 hx hr _ _ _ _ _ _  hW h
  · replace h := neg h h1
    refine J_iconst hx (1 : Int32) dX5_timeThrough_49 rfl ?_
    refine J_goto hx 54 dX5_timeThrough_50 rfl ?_
    refine J_is hx (by decide) (hc_of rfl) rfl dX5_timeThrough_54 ?_
    refine J_il hx rfl dX5_timeThrough_56 ?_
    refine J_iconst hx (1 : Int32) dX5_timeThrough_58 rfl ?_
    refine J_isub hx dX5_timeThrough_59 ?_
    refine J_is hx (by decide) (hc_of rfl) rfl dX5_timeThrough_60 ?_
    refine J_lw (ls' := [some (.ref (B.1 + 76)), none, some (.int l2), none, none, some (.int s0), some (.int (1 : Int32)), some (.int (l4 - (1 : Int32))), none, none]) (lwS (lwN (lwS (lwN (lwN (lwS (lwS (lwS (lwN (lwN lwZ)))))))))) ?_
    exact tX5_timeThrough_62 hx hr _ _ _ _ _ _  hW h
def sX5_timeThrough (w : Wl) (l1 : Int32) (l2 : Int32) (l3 : Int32) : Option (Int32 × Wl) := (sX6_hasVenue w l2).bind (fun r1 => (if r1 = true then (sX5_listAround w l1).bind (fun r4 => (if l3 = (-1 : Int32) then sX5_timeThrough_42 r4.2 l2 l3 r4.1 (r4.2 1 0) else sX5_timeThrough_42 r4.2 l2 l3 r4.1 l3)) else some ((w 1 0), w)))
theorem kX5_timeThrough {l : Launch} {Γ : Gl} {B : Bs} {w : Wl} {G : Gf} {sz : Nat} {l1 : Int32} {l2 : Int32} {l3 : Int32} {r : (Int32 × Wl)} (hW : Wd Γ B w G) (h : sX5_timeThrough w l1 l2 l3 = some r) : CtW l Γ yX5_timeThrough cX5_timeThrough 10 (some .int) 2 [.ref (B.1 + 76), .int l1, .int l2, .int l3] G sz B (some (.int (r.1))) r.2 := by
  refine Ct.of rfl (Nat.le_of_ble_eq_true rfl) fun X hx hr hl hΓ hnm => ?_
  subst hl hΓ
  show J X 10 G sz 0 0 0 [some (.ref (B.1 + 76)), some (.int l1), some (.int l2), some (.int l3), none, none, none, none, none, none] []
  unfold sX5_timeThrough at h
  refine J_al4 hx rfl rfl dX5_timeThrough_0 ?_
  refine g5_0 hx hW 1 (rfl : kd 76 = 14) fl_X5_15 rfl dX5_timeThrough_1 ?_
  refine J_il4 hx rfl rfl dX5_timeThrough_4 ?_
  obtain ⟨r1, hr2, h⟩ := bnd h
  refine J_rdV hx (kX6_hasVenue  hW hr2) ml_X5_95 lk_X6_hasVenue (ci := 5) rfl (hW.obj (rfl : kd 1 = 2) (by decide) (by decide)) (rest := []) rfl rfl (by decide) (by decide) (Nat.le_of_ble_eq_true rfl) (Nat.le_refl 0) (Nat.le_refl 0) dX5_timeThrough_5 ?_
  refine J_bif_ne hx 19 dX5_timeThrough_8 rfl (fun h3 => ?_) (fun h3 => ?_)
  · replace h := pos h h3
    refine J_al4 hx rfl rfl dX5_timeThrough_19 ?_
    refine J_il4 hx rfl rfl dX5_timeThrough_20 ?_
    obtain ⟨r4, hr5, h⟩ := bnd h
    refine J_wrV hx (kX5_listAround  hW hr5) ml_X5_98 lk_X5_listAround (ci := 4) rfl (hW.obj (rfl : kd 76 = 14) (by decide) (by decide)) (rest := []) rfl rfl (by decide) (by decide) (Nat.le_of_ble_eq_true rfl) (Nat.le_refl 0) (Nat.le_refl 0) dX5_timeThrough_21 fun G6 hW7 => ?_
    show J X 10 G6 sz 0 0 24 [some (.ref (B.1 + 76)), some (.int l1), some (.int l2), some (.int l3), none, none, none, none, none, none] [.int r4.1]
    refine J_is hx (by decide) (hc_of rfl) rfl dX5_timeThrough_24 ?_
    refine J_il4 hx rfl rfl dX5_timeThrough_26 ?_
    refine J_iconst hx (-1 : Int32) dX5_timeThrough_27 rfl ?_
    refine J_icmp_ne hx 41 dX5_timeThrough_28 rfl (fun h8 => ?_) (fun h8 => ?_)
    · replace h := neg h h8
      refine J_il4 hx rfl rfl dX5_timeThrough_41 ?_
      refine J_lw (ls' := [some (.ref (B.1 + 76)), none, some (.int l2), some (.int l3), some (.int r4.1), none, none, none, none, none]) (lwS (lwN (lwS (lwS (lwS (lwN (lwN (lwN (lwN (lwN lwZ)))))))))) ?_
      exact tX5_timeThrough_42 hx hr _ _ _ _ _  hW7 h
    · replace h := pos h h8
      refine J_al4 hx rfl rfl dX5_timeThrough_31 ?_
      refine g5_0 hx hW7 1 (rfl : kd 76 = 14) fl_X5_15 rfl dX5_timeThrough_32 ?_
      refine g6_0 hx hW7 (rfl : kd 1 = 2) fl_X5_39 dX5_timeThrough_35 ?_
      refine J_goto hx 42 dX5_timeThrough_38 rfl ?_
      refine J_lw (ls' := [some (.ref (B.1 + 76)), none, some (.int l2), some (.int l3), some (.int r4.1), none, none, none, none, none]) (lwS (lwN (lwS (lwS (lwS (lwN (lwN (lwN (lwN (lwN lwZ)))))))))) ?_
      exact tX5_timeThrough_42 hx hr _ _ _ _ _  hW7 h
  · replace h := neg h (bft h3)
    refine J_al4 hx rfl rfl dX5_timeThrough_11 ?_
    refine g5_0 hx hW 1 (rfl : kd 76 = 14) fl_X5_15 rfl dX5_timeThrough_12 ?_
    refine g6_0 hx hW (rfl : kd 1 = 2) fl_X5_39 dX5_timeThrough_15 ?_
    obtain rfl := Option.some.inj h
    exact J_iretW hx hr hW dX5_timeThrough_18 (Nat.le_refl 0) (Nat.le_refl 0)
theorem dX5_timeOfWork_0 : decode cX5_timeOfWork 0 = .ok (.aload_n 0, 1) := by decide +kernel
theorem dX5_timeOfWork_1 : decode cX5_timeOfWork 1 = .ok (.getfield 15, 3) := by decide +kernel
theorem dX5_timeOfWork_4 : decode cX5_timeOfWork 4 = .ok (.getfield 23, 3) := by decide +kernel
theorem dX5_timeOfWork_7 : decode cX5_timeOfWork 7 = .ok (.iload_n 1, 1) := by decide +kernel
theorem dX5_timeOfWork_8 : decode cX5_timeOfWork 8 = .ok (.aaload, 1) := by decide +kernel
theorem dX5_timeOfWork_9 : decode cX5_timeOfWork 9 = .ok (.getfield 29, 3) := by decide +kernel
theorem dX5_timeOfWork_12 : decode cX5_timeOfWork 12 = .ok (.istore_n 2, 1) := by decide +kernel
theorem dX5_timeOfWork_13 : decode cX5_timeOfWork 13 = .ok (.aload_n 0, 1) := by decide +kernel
theorem dX5_timeOfWork_14 : decode cX5_timeOfWork 14 = .ok (.getfield 15, 3) := by decide +kernel
theorem dX5_timeOfWork_17 : decode cX5_timeOfWork 17 = .ok (.iload_n 2, 1) := by decide +kernel
theorem dX5_timeOfWork_18 : decode cX5_timeOfWork 18 = .ok (.invokevirtual 35, 3) := by decide +kernel
theorem dX5_timeOfWork_21 : decode cX5_timeOfWork 21 = .ok (.ifCond .ne 11, 3) := by decide +kernel
theorem dX5_timeOfWork_24 : decode cX5_timeOfWork 24 = .ok (.aload_n 0, 1) := by decide +kernel
theorem dX5_timeOfWork_25 : decode cX5_timeOfWork 25 = .ok (.getfield 15, 3) := by decide +kernel
theorem dX5_timeOfWork_28 : decode cX5_timeOfWork 28 = .ok (.getfield 39, 3) := by decide +kernel
theorem dX5_timeOfWork_31 : decode cX5_timeOfWork 31 = .ok (.ireturn, 1) := by decide +kernel
theorem dX5_timeOfWork_32 : decode cX5_timeOfWork 32 = .ok (.aload_n 0, 1) := by decide +kernel
theorem dX5_timeOfWork_33 : decode cX5_timeOfWork 33 = .ok (.getfield 15, 3) := by decide +kernel
theorem dX5_timeOfWork_36 : decode cX5_timeOfWork 36 = .ok (.getfield 42, 3) := by decide +kernel
theorem dX5_timeOfWork_39 : decode cX5_timeOfWork 39 = .ok (.aload_n 0, 1) := by decide +kernel
theorem dX5_timeOfWork_40 : decode cX5_timeOfWork 40 = .ok (.getfield 15, 3) := by decide +kernel
theorem dX5_timeOfWork_43 : decode cX5_timeOfWork 43 = .ok (.iload_n 2, 1) := by decide +kernel
theorem dX5_timeOfWork_44 : decode cX5_timeOfWork 44 = .ok (.invokevirtual 46, 3) := by decide +kernel
theorem dX5_timeOfWork_47 : decode cX5_timeOfWork 47 = .ok (.aaload, 1) := by decide +kernel
theorem dX5_timeOfWork_48 : decode cX5_timeOfWork 48 = .ok (.astore_n 3, 1) := by decide +kernel
theorem dX5_timeOfWork_49 : decode cX5_timeOfWork 49 = .ok (.aload_n 3, 1) := by decide +kernel
theorem dX5_timeOfWork_50 : decode cX5_timeOfWork 50 = .ok (.getfield 50, 3) := by decide +kernel
theorem dX5_timeOfWork_53 : decode cX5_timeOfWork 53 = .ok (.iconst (-1), 1) := by decide +kernel
theorem dX5_timeOfWork_54 : decode cX5_timeOfWork 54 = .ok (.if_icmp .eq 17, 3) := by decide +kernel
theorem dX5_timeOfWork_57 : decode cX5_timeOfWork 57 = .ok (.aload_n 0, 1) := by decide +kernel
theorem dX5_timeOfWork_58 : decode cX5_timeOfWork 58 = .ok (.iload_n 2, 1) := by decide +kernel
theorem dX5_timeOfWork_59 : decode cX5_timeOfWork 59 = .ok (.aload_n 3, 1) := by decide +kernel
theorem dX5_timeOfWork_60 : decode cX5_timeOfWork 60 = .ok (.getfield 50, 3) := by decide +kernel
theorem dX5_timeOfWork_63 : decode cX5_timeOfWork 63 = .ok (.aload_n 3, 1) := by decide +kernel
theorem dX5_timeOfWork_64 : decode cX5_timeOfWork 64 = .ok (.getfield 55, 3) := by decide +kernel
theorem dX5_timeOfWork_67 : decode cX5_timeOfWork 67 = .ok (.invokevirtual 58, 3) := by decide +kernel
theorem dX5_timeOfWork_70 : decode cX5_timeOfWork 70 = .ok (.ireturn, 1) := by decide +kernel
theorem dX5_timeOfWork_71 : decode cX5_timeOfWork 71 = .ok (.aload_n 0, 1) := by decide +kernel
theorem dX5_timeOfWork_72 : decode cX5_timeOfWork 72 = .ok (.iload_n 2, 1) := by decide +kernel
theorem dX5_timeOfWork_73 : decode cX5_timeOfWork 73 = .ok (.aload_n 3, 1) := by decide +kernel
theorem dX5_timeOfWork_74 : decode cX5_timeOfWork 74 = .ok (.getfield 62, 3) := by decide +kernel
theorem dX5_timeOfWork_77 : decode cX5_timeOfWork 77 = .ok (.iconst (-1), 1) := by decide +kernel
theorem dX5_timeOfWork_78 : decode cX5_timeOfWork 78 = .ok (.invokevirtual 58, 3) := by decide +kernel
theorem dX5_timeOfWork_81 : decode cX5_timeOfWork 81 = .ok (.ireturn, 1) := by decide +kernel
def sX5_timeOfWork (w : Wl) (l1 : Int32) : Option (Int32 × Wl) := (idx l1 16).bind (fun c1 => (sX6_hasCrate w (w (41 + 2 * c1) 4)).bind (fun r4 => (if r4 = true then (sX6_outermost w (w (41 + 2 * c1) 4)).bind (fun r7 => (idx r7 12).bind (fun c9 => (if (w (29 + c9) 4) = (-1 : Int32) then (sX5_timeThrough w (w (41 + 2 * c1) 4) (w (29 + c9) 3) (-1 : Int32)).bind (fun r13 => some (r13.1, r13.2)) else (sX5_timeThrough w (w (41 + 2 * c1) 4) (w (29 + c9) 4) (w (29 + c9) 5)).bind (fun r17 => some (r17.1, r17.2))))) else some ((w 1 0), w))))
theorem kX5_timeOfWork {l : Launch} {Γ : Gl} {B : Bs} {w : Wl} {G : Gf} {sz : Nat} {l1 : Int32} {r : (Int32 × Wl)} (hW : Wd Γ B w G) (h : sX5_timeOfWork w l1 = some r) : CtW l Γ yX5_timeOfWork cX5_timeOfWork 4 (some .int) 3 [.ref (B.1 + 76), .int l1] G sz B (some (.int (r.1))) r.2 := by
  refine Ct.of rfl (Nat.le_of_ble_eq_true rfl) fun X hx hr hl hΓ hnm => ?_
  subst hl hΓ
  show J X 4 G sz 0 0 0 [some (.ref (B.1 + 76)), some (.int l1), none, none] []
  unfold sX5_timeOfWork at h
  refine J_al4 hx rfl rfl dX5_timeOfWork_0 ?_
  refine g5_0 hx hW 1 (rfl : kd 76 = 14) fl_X5_15 rfl dX5_timeOfWork_1 ?_
  refine g6_11 hx hW 4 (rfl : kd 1 = 2) fl_X5_23 rfl dX5_timeOfWork_4 ?_
  refine J_il4 hx rfl rfl dX5_timeOfWork_7 ?_
  obtain ⟨c1, hc2, h⟩ := bnd h
  refine J_a5 hx hW (41 + 2 * c1) (rfl : kd 4 = 5) hc2 rfl dX5_timeOfWork_8 fun hk3 => ?_
  refine g11_4 hx hW hk3 fl_X5_29 dX5_timeOfWork_9 ?_
  refine J_is4 hx rfl (by decide) (hc_of rfl) rfl dX5_timeOfWork_12 ?_
  refine J_al4 hx rfl rfl dX5_timeOfWork_13 ?_
  refine g5_0 hx hW 1 (rfl : kd 76 = 14) fl_X5_15 rfl dX5_timeOfWork_14 ?_
  refine J_il4 hx rfl rfl dX5_timeOfWork_17 ?_
  obtain ⟨r4, hr5, h⟩ := bnd h
  refine J_rdV hx (kX6_hasCrate  hW hr5) ml_X5_35 lk_X6_hasCrate (ci := 5) rfl (hW.obj (rfl : kd 1 = 2) (by decide) (by decide)) (rest := []) rfl rfl (by decide) (by decide) (Nat.le_of_ble_eq_true rfl) (Nat.le_refl 0) (Nat.le_refl 0) dX5_timeOfWork_18 ?_
  refine J_bif_ne hx 32 dX5_timeOfWork_21 rfl (fun h6 => ?_) (fun h6 => ?_)
  · replace h := pos h h6
    refine J_al4 hx rfl rfl dX5_timeOfWork_32 ?_
    refine g5_0 hx hW 1 (rfl : kd 76 = 14) fl_X5_15 rfl dX5_timeOfWork_33 ?_
    refine g6_10 hx hW 3 (rfl : kd 1 = 2) fl_X5_42 rfl dX5_timeOfWork_36 ?_
    refine J_al4 hx rfl rfl dX5_timeOfWork_39 ?_
    refine g5_0 hx hW 1 (rfl : kd 76 = 14) fl_X5_15 rfl dX5_timeOfWork_40 ?_
    refine J_il4 hx rfl rfl dX5_timeOfWork_43 ?_
    obtain ⟨r7, hr8, h⟩ := bnd h
    refine J_rdV hx (kX6_outermost  hW hr8) ml_X5_46 lk_X6_outermost (ci := 5) rfl (hW.obj (rfl : kd 1 = 2) (by decide) (by decide)) (rest := [.ref (B.1 + 3)]) rfl rfl (by decide) (by decide) (Nat.le_of_ble_eq_true rfl) (Nat.le_refl 0) (Nat.le_refl 0) dX5_timeOfWork_44 ?_
    obtain ⟨c9, hc10, h⟩ := bnd h
    refine J_a4 hx hW (29 + c9) (rfl : kd 3 = 4) hc10 rfl dX5_timeOfWork_47 fun hk11 => ?_
    refine J_as4 hx rfl (by decide) (hc_of rfl) rfl dX5_timeOfWork_48 ?_
    refine J_al4 hx rfl rfl dX5_timeOfWork_49 ?_
    refine g3_4 hx hW hk11 fl_X5_50 dX5_timeOfWork_50 ?_
    refine J_iconst hx (-1 : Int32) dX5_timeOfWork_53 rfl ?_
    refine J_icmp_eq hx 71 dX5_timeOfWork_54 rfl (fun h12 => ?_) (fun h12 => ?_)
    · replace h := pos h h12
      refine J_al4 hx rfl rfl dX5_timeOfWork_71 ?_
      refine J_il4 hx rfl rfl dX5_timeOfWork_72 ?_
      refine J_al4 hx rfl rfl dX5_timeOfWork_73 ?_
      refine g3_3 hx hW hk11 fl_X5_62 dX5_timeOfWork_74 ?_
      refine J_iconst hx (-1 : Int32) dX5_timeOfWork_77 rfl ?_
      obtain ⟨r13, hr14, h⟩ := bnd h
      refine J_wrV hx (kX5_timeThrough  hW hr14) ml_X5_58 lk_X5_timeThrough (ci := 4) rfl (hW.obj (rfl : kd 76 = 14) (by decide) (by decide)) (rest := []) rfl rfl (by decide) (by decide) (Nat.le_of_ble_eq_true rfl) (Nat.le_refl 0) (Nat.le_refl 0) dX5_timeOfWork_78 fun G15 hW16 => ?_
      show J X 4 G15 sz 0 0 81 [some (.ref (B.1 + 76)), some (.int l1), some (.int (w (41 + 2 * c1) 4)), some (.ref (B.1 + (29 + c9)))] [.int r13.1]
      obtain rfl := Option.some.inj h
      exact J_iretW hx hr hW16 dX5_timeOfWork_81 (Nat.le_refl 0) (Nat.le_refl 0)
    · replace h := neg h h12
      refine J_al4 hx rfl rfl dX5_timeOfWork_57 ?_
      refine J_il4 hx rfl rfl dX5_timeOfWork_58 ?_
      refine J_al4 hx rfl rfl dX5_timeOfWork_59 ?_
      refine g3_4 hx hW hk11 fl_X5_50 dX5_timeOfWork_60 ?_
      refine J_al4 hx rfl rfl dX5_timeOfWork_63 ?_
      refine g3_5 hx hW hk11 fl_X5_55 dX5_timeOfWork_64 ?_
      obtain ⟨r17, hr18, h⟩ := bnd h
      refine J_wrV hx (kX5_timeThrough  hW hr18) ml_X5_58 lk_X5_timeThrough (ci := 4) rfl (hW.obj (rfl : kd 76 = 14) (by decide) (by decide)) (rest := []) rfl rfl (by decide) (by decide) (Nat.le_of_ble_eq_true rfl) (Nat.le_refl 0) (Nat.le_refl 0) dX5_timeOfWork_67 fun G19 hW20 => ?_
      show J X 4 G19 sz 0 0 70 [some (.ref (B.1 + 76)), some (.int l1), some (.int (w (41 + 2 * c1) 4)), some (.ref (B.1 + (29 + c9)))] [.int r17.1]
      obtain rfl := Option.some.inj h
      exact J_iretW hx hr hW20 dX5_timeOfWork_70 (Nat.le_refl 0) (Nat.le_refl 0)
  · replace h := neg h (bft h6)
    refine J_al4 hx rfl rfl dX5_timeOfWork_24 ?_
    refine g5_0 hx hW 1 (rfl : kd 76 = 14) fl_X5_15 rfl dX5_timeOfWork_25 ?_
    refine g6_0 hx hW (rfl : kd 1 = 2) fl_X5_39 dX5_timeOfWork_28 ?_
    obtain rfl := Option.some.inj h
    exact J_iretW hx hr hW dX5_timeOfWork_31 (Nat.le_refl 0) (Nat.le_refl 0)
theorem dX5_timeOfCrate_0 : decode cX5_timeOfCrate 0 = .ok (.iconst (-1), 1) := by decide +kernel
theorem dX5_timeOfCrate_1 : decode cX5_timeOfCrate 1 = .ok (.istore_n 2, 1) := by decide +kernel
theorem dX5_timeOfCrate_2 : decode cX5_timeOfCrate 2 = .ok (.iconst 0, 1) := by decide +kernel
theorem dX5_timeOfCrate_3 : decode cX5_timeOfCrate 3 = .ok (.istore_n 3, 1) := by decide +kernel
theorem dX5_timeOfCrate_4 : decode cX5_timeOfCrate 4 = .ok (.iload_n 3, 1) := by decide +kernel
theorem dX5_timeOfCrate_5 : decode cX5_timeOfCrate 5 = .ok (.aload_n 0, 1) := by decide +kernel
theorem dX5_timeOfCrate_6 : decode cX5_timeOfCrate 6 = .ok (.getfield 15, 3) := by decide +kernel
theorem dX5_timeOfCrate_9 : decode cX5_timeOfCrate 9 = .ok (.getfield 65, 3) := by decide +kernel
theorem dX5_timeOfCrate_12 : decode cX5_timeOfCrate 12 = .ok (.if_icmp .ge 42, 3) := by decide +kernel
theorem dX5_timeOfCrate_15 : decode cX5_timeOfCrate 15 = .ok (.aload_n 0, 1) := by decide +kernel
theorem dX5_timeOfCrate_16 : decode cX5_timeOfCrate 16 = .ok (.getfield 15, 3) := by decide +kernel
theorem dX5_timeOfCrate_19 : decode cX5_timeOfCrate 19 = .ok (.aload_n 0, 1) := by decide +kernel
theorem dX5_timeOfCrate_20 : decode cX5_timeOfCrate 20 = .ok (.getfield 15, 3) := by decide +kernel
theorem dX5_timeOfCrate_23 : decode cX5_timeOfCrate 23 = .ok (.getfield 23, 3) := by decide +kernel
theorem dX5_timeOfCrate_26 : decode cX5_timeOfCrate 26 = .ok (.iload_n 3, 1) := by decide +kernel
theorem dX5_timeOfCrate_27 : decode cX5_timeOfCrate 27 = .ok (.aaload, 1) := by decide +kernel
theorem dX5_timeOfCrate_28 : decode cX5_timeOfCrate 28 = .ok (.getfield 29, 3) := by decide +kernel
theorem dX5_timeOfCrate_31 : decode cX5_timeOfCrate 31 = .ok (.iload_n 1, 1) := by decide +kernel
theorem dX5_timeOfCrate_32 : decode cX5_timeOfCrate 32 = .ok (.invokevirtual 68, 3) := by decide +kernel
theorem dX5_timeOfCrate_35 : decode cX5_timeOfCrate 35 = .ok (.ifCond .eq 13, 3) := by decide +kernel
theorem dX5_timeOfCrate_38 : decode cX5_timeOfCrate 38 = .ok (.iload_n 2, 1) := by decide +kernel
theorem dX5_timeOfCrate_39 : decode cX5_timeOfCrate 39 = .ok (.aload_n 0, 1) := by decide +kernel
theorem dX5_timeOfCrate_40 : decode cX5_timeOfCrate 40 = .ok (.iload_n 3, 1) := by decide +kernel
theorem dX5_timeOfCrate_41 : decode cX5_timeOfCrate 41 = .ok (.invokevirtual 72, 3) := by decide +kernel
theorem dX5_timeOfCrate_44 : decode cX5_timeOfCrate 44 = .ok (.invokestatic 75, 3) := by decide +kernel
theorem dX5_timeOfCrate_47 : decode cX5_timeOfCrate 47 = .ok (.istore_n 2, 1) := by decide +kernel
theorem dX5_timeOfCrate_48 : decode cX5_timeOfCrate 48 = .ok (.iinc 3 1, 3) := by decide +kernel
theorem dX5_timeOfCrate_51 : decode cX5_timeOfCrate 51 = .ok (.goto (-47), 3) := by decide +kernel
theorem dX5_timeOfCrate_54 : decode cX5_timeOfCrate 54 = .ok (.iload_n 2, 1) := by decide +kernel
theorem dX5_timeOfCrate_55 : decode cX5_timeOfCrate 55 = .ok (.ireturn, 1) := by decide +kernel
def sX5_timeOfCrate_4 : Nat → Wl → Int32 → Int32 → Int32 → Option (Int32 × Wl)
  | 0, _, _, _, _ => none
  | n + 1, w, l1, l2, l3 => (if (w 1 7) ≤ l3 then some (l2, w) else (idx l3 16).bind (fun c2 => (sX6_isInOrBelow w (w (41 + 2 * c2) 4) l1).bind (fun r5 => (if r5 = true then (sX5_timeOfWork w l3).bind (fun r8 => sX5_timeOfCrate_4 n r8.2 l1 (if l2 < r8.1 then r8.1 else l2) (l3 + 1)) else sX5_timeOfCrate_4 n w l1 l2 (l3 + 1)))))
theorem tX5_timeOfCrate_4 {X : Cx} {B : Bs} {sz : Nat} {r : (Int32 × Wl)} (hx : Fx X cX5_timeOfCrate 4 RX5 4 0 0) (hr : Rt X (some .int) 0 0 (WΨ (xΓ X) B (some (.int (r.1))) r.2 sz)) : ∀ (n : Nat), ∀ (w : Wl) (l1 : Int32) (l2 : Int32) (l3 : Int32) {G : Gf} (hW : Wd (xΓ X) B w G) (h : sX5_timeOfCrate_4 n w l1 l2 l3 = some r), J X 4 G sz 0 0 4 [some (.ref (B.1 + 76)), some (.int l1), some (.int l2), some (.int l3)] [] := by
  intro n
  induction n with
  | zero => intro w l1 l2 l3 G hW h; rw [sX5_timeOfCrate_4.eq_1] at h; cases h
  | succ n ih =>
    intro w l1 l2 l3 G hW h
    rw [sX5_timeOfCrate_4.eq_2] at h
    refine J_il4 hx rfl rfl dX5_timeOfCrate_4 ?_
    refine J_al4 hx rfl rfl dX5_timeOfCrate_5 ?_
    refine g5_0 hx hW 1 (rfl : kd 76 = 14) fl_X5_15 rfl dX5_timeOfCrate_6 ?_
    refine g6_7 hx hW (rfl : kd 1 = 2) fl_X5_65 dX5_timeOfCrate_9 ?_
    refine J_icmp_ge hx 54 dX5_timeOfCrate_12 rfl (fun h1 => ?_) (fun h1 => ?_)
    · replace h := pos h h1
      refine J_il4 hx rfl rfl dX5_timeOfCrate_54 ?_
      obtain rfl := Option.some.inj h
      exact J_iretW hx hr hW dX5_timeOfCrate_55 (Nat.le_refl 0) (Nat.le_refl 0)
    · replace h := neg h h1
      refine J_al4 hx rfl rfl dX5_timeOfCrate_15 ?_
      refine g5_0 hx hW 1 (rfl : kd 76 = 14) fl_X5_15 rfl dX5_timeOfCrate_16 ?_
      refine J_al4 hx rfl rfl dX5_timeOfCrate_19 ?_
      refine g5_0 hx hW 1 (rfl : kd 76 = 14) fl_X5_15 rfl dX5_timeOfCrate_20 ?_
      refine g6_11 hx hW 4 (rfl : kd 1 = 2) fl_X5_23 rfl dX5_timeOfCrate_23 ?_
      refine J_il4 hx rfl rfl dX5_timeOfCrate_26 ?_
      obtain ⟨c2, hc3, h⟩ := bnd h
      refine J_a5 hx hW (41 + 2 * c2) (rfl : kd 4 = 5) hc3 rfl dX5_timeOfCrate_27 fun hk4 => ?_
      refine g11_4 hx hW hk4 fl_X5_29 dX5_timeOfCrate_28 ?_
      refine J_il4 hx rfl rfl dX5_timeOfCrate_31 ?_
      obtain ⟨r5, hr6, h⟩ := bnd h
      refine J_rdV hx (kX6_isInOrBelow  hW hr6) ml_X5_68 lk_X6_isInOrBelow (ci := 5) rfl (hW.obj (rfl : kd 1 = 2) (by decide) (by decide)) (rest := []) rfl rfl (by decide) (by decide) (Nat.le_of_ble_eq_true rfl) (Nat.le_refl 0) (Nat.le_refl 0) dX5_timeOfCrate_32 ?_
      refine J_bif_eq hx 48 dX5_timeOfCrate_35 rfl (fun h7 => ?_) (fun h7 => ?_)
      · replace h := neg h (bft h7)
        refine J_iinc hx (v' := (l3 + 1)) rfl rfl (by decide) (hc_of rfl) rfl dX5_timeOfCrate_48 ?_
        refine J_goto hx 4 dX5_timeOfCrate_51 rfl ?_
        exact ih _ _ _ _  hW h
      · replace h := pos h h7
        refine J_il4 hx rfl rfl dX5_timeOfCrate_38 ?_
        refine J_al4 hx rfl rfl dX5_timeOfCrate_39 ?_
        refine J_il4 hx rfl rfl dX5_timeOfCrate_40 ?_
        obtain ⟨r8, hr9, h⟩ := bnd h
        refine J_wrV hx (kX5_timeOfWork  hW hr9) ml_X5_72 lk_X5_timeOfWork (ci := 4) rfl (hW.obj (rfl : kd 76 = 14) (by decide) (by decide)) (rest := [.int l2]) rfl rfl (by decide) (by decide) (Nat.le_of_ble_eq_true rfl) (Nat.le_refl 0) (Nat.le_refl 0) dX5_timeOfCrate_41 fun G10 hW11 => ?_
        show J X 4 G10 sz 0 0 44 [some (.ref (B.1 + 76)), some (.int l1), some (.int l2), some (.int l3)] [.int r8.1, .int l2]
        refine J_max hx ml_X5_75 jd_max (by decide) (Nat.le_of_ble_eq_true rfl) (Nat.le_refl 0) (Nat.le_refl 0) dX5_timeOfCrate_44 ?_
        refine J_is4 hx rfl (by decide) (hc_of rfl) rfl dX5_timeOfCrate_47 ?_
        refine J_iinc hx (v' := (l3 + 1)) rfl rfl (by decide) (hc_of rfl) rfl dX5_timeOfCrate_48 ?_
        refine J_goto hx 4 dX5_timeOfCrate_51 rfl ?_
        exact ih _ _ _ _  hW11 h
def sX5_timeOfCrate (w : Wl) (l1 : Int32) : Option (Int32 × Wl) := sX5_timeOfCrate_4 FU w l1 (-1 : Int32) (0 : Int32)
theorem kX5_timeOfCrate {l : Launch} {Γ : Gl} {B : Bs} {w : Wl} {G : Gf} {sz : Nat} {l1 : Int32} {r : (Int32 × Wl)} (hW : Wd Γ B w G) (h : sX5_timeOfCrate w l1 = some r) : CtW l Γ yX5_timeOfCrate cX5_timeOfCrate 4 (some .int) 4 [.ref (B.1 + 76), .int l1] G sz B (some (.int (r.1))) r.2 := by
  refine Ct.of rfl (Nat.le_of_ble_eq_true rfl) fun X hx hr hl hΓ hnm => ?_
  subst hl hΓ
  show J X 4 G sz 0 0 0 [some (.ref (B.1 + 76)), some (.int l1), none, none] []
  unfold sX5_timeOfCrate at h
  refine J_iconst hx (-1 : Int32) dX5_timeOfCrate_0 rfl ?_
  refine J_is4 hx rfl (by decide) (hc_of rfl) rfl dX5_timeOfCrate_1 ?_
  refine J_iconst hx (0 : Int32) dX5_timeOfCrate_2 rfl ?_
  refine J_is4 hx rfl (by decide) (hc_of rfl) rfl dX5_timeOfCrate_3 ?_
  exact tX5_timeOfCrate_4 hx hr _ _ _ _ _  hW h
theorem dX5_timeIfSent_0 : decode cX5_timeIfSent 0 = .ok (.aload_n 0, 1) := by decide +kernel
theorem dX5_timeIfSent_1 : decode cX5_timeIfSent 1 = .ok (.getfield 15, 3) := by decide +kernel
theorem dX5_timeIfSent_4 : decode cX5_timeIfSent 4 = .ok (.getfield 39, 3) := by decide +kernel
theorem dX5_timeIfSent_7 : decode cX5_timeIfSent 7 = .ok (.aload_n 0, 1) := by decide +kernel
theorem dX5_timeIfSent_8 : decode cX5_timeIfSent 8 = .ok (.getfield 15, 3) := by decide +kernel
theorem dX5_timeIfSent_11 : decode cX5_timeIfSent 11 = .ok (.aload_n 0, 1) := by decide +kernel
theorem dX5_timeIfSent_12 : decode cX5_timeIfSent 12 = .ok (.getfield 15, 3) := by decide +kernel
theorem dX5_timeIfSent_15 : decode cX5_timeIfSent 15 = .ok (.getfield 42, 3) := by decide +kernel
theorem dX5_timeIfSent_18 : decode cX5_timeIfSent 18 = .ok (.iload_n 1, 1) := by decide +kernel
theorem dX5_timeIfSent_19 : decode cX5_timeIfSent 19 = .ok (.aaload, 1) := by decide +kernel
theorem dX5_timeIfSent_20 : decode cX5_timeIfSent 20 = .ok (.getfield 62, 3) := by decide +kernel
theorem dX5_timeIfSent_23 : decode cX5_timeIfSent 23 = .ok (.iload_n 2, 1) := by decide +kernel
theorem dX5_timeIfSent_24 : decode cX5_timeIfSent 24 = .ok (.invokevirtual 92, 3) := by decide +kernel
theorem dX5_timeIfSent_27 : decode cX5_timeIfSent 27 = .ok (.iadd, 1) := by decide +kernel
theorem dX5_timeIfSent_28 : decode cX5_timeIfSent 28 = .ok (.istore_n 3, 1) := by decide +kernel
theorem dX5_timeIfSent_29 : decode cX5_timeIfSent 29 = .ok (.iload_n 3, 1) := by decide +kernel
theorem dX5_timeIfSent_30 : decode cX5_timeIfSent 30 = .ok (.istore 4, 2) := by decide +kernel
theorem dX5_timeIfSent_32 : decode cX5_timeIfSent 32 = .ok (.iconst 0, 1) := by decide +kernel
theorem dX5_timeIfSent_33 : decode cX5_timeIfSent 33 = .ok (.istore 5, 2) := by decide +kernel
theorem dX5_timeIfSent_35 : decode cX5_timeIfSent 35 = .ok (.iload 5, 2) := by decide +kernel
theorem dX5_timeIfSent_37 : decode cX5_timeIfSent 37 = .ok (.aload_n 0, 1) := by decide +kernel
theorem dX5_timeIfSent_38 : decode cX5_timeIfSent 38 = .ok (.getfield 15, 3) := by decide +kernel
theorem dX5_timeIfSent_41 : decode cX5_timeIfSent 41 = .ok (.getfield 65, 3) := by decide +kernel
theorem dX5_timeIfSent_44 : decode cX5_timeIfSent 44 = .ok (.if_icmp .ge 52, 3) := by decide +kernel
theorem dX5_timeIfSent_47 : decode cX5_timeIfSent 47 = .ok (.aload_n 0, 1) := by decide +kernel
theorem dX5_timeIfSent_48 : decode cX5_timeIfSent 48 = .ok (.getfield 15, 3) := by decide +kernel
theorem dX5_timeIfSent_51 : decode cX5_timeIfSent 51 = .ok (.getfield 23, 3) := by decide +kernel
theorem dX5_timeIfSent_54 : decode cX5_timeIfSent 54 = .ok (.iload 5, 2) := by decide +kernel
theorem dX5_timeIfSent_56 : decode cX5_timeIfSent 56 = .ok (.aaload, 1) := by decide +kernel
theorem dX5_timeIfSent_57 : decode cX5_timeIfSent 57 = .ok (.getfield 29, 3) := by decide +kernel
theorem dX5_timeIfSent_60 : decode cX5_timeIfSent 60 = .ok (.istore 6, 2) := by decide +kernel
theorem dX5_timeIfSent_62 : decode cX5_timeIfSent 62 = .ok (.aload_n 0, 1) := by decide +kernel
theorem dX5_timeIfSent_63 : decode cX5_timeIfSent 63 = .ok (.getfield 15, 3) := by decide +kernel
theorem dX5_timeIfSent_66 : decode cX5_timeIfSent 66 = .ok (.iload 6, 2) := by decide +kernel
theorem dX5_timeIfSent_68 : decode cX5_timeIfSent 68 = .ok (.iload_n 1, 1) := by decide +kernel
theorem dX5_timeIfSent_69 : decode cX5_timeIfSent 69 = .ok (.invokevirtual 68, 3) := by decide +kernel
theorem dX5_timeIfSent_72 : decode cX5_timeIfSent 72 = .ok (.ifCond .eq 18, 3) := by decide +kernel
theorem dX5_timeIfSent_75 : decode cX5_timeIfSent 75 = .ok (.iload 4, 2) := by decide +kernel
theorem dX5_timeIfSent_77 : decode cX5_timeIfSent 77 = .ok (.aload_n 0, 1) := by decide +kernel
theorem dX5_timeIfSent_78 : decode cX5_timeIfSent 78 = .ok (.iload 6, 2) := by decide +kernel
theorem dX5_timeIfSent_80 : decode cX5_timeIfSent 80 = .ok (.iload_n 2, 1) := by decide +kernel
theorem dX5_timeIfSent_81 : decode cX5_timeIfSent 81 = .ok (.iload_n 3, 1) := by decide +kernel
theorem dX5_timeIfSent_82 : decode cX5_timeIfSent 82 = .ok (.invokevirtual 58, 3) := by decide +kernel
theorem dX5_timeIfSent_85 : decode cX5_timeIfSent 85 = .ok (.invokestatic 75, 3) := by decide +kernel
theorem dX5_timeIfSent_88 : decode cX5_timeIfSent 88 = .ok (.istore 4, 2) := by decide +kernel
theorem dX5_timeIfSent_90 : decode cX5_timeIfSent 90 = .ok (.iinc 5 1, 3) := by decide +kernel
theorem dX5_timeIfSent_93 : decode cX5_timeIfSent 93 = .ok (.goto (-58), 3) := by decide +kernel
theorem dX5_timeIfSent_96 : decode cX5_timeIfSent 96 = .ok (.iload 4, 2) := by decide +kernel
theorem dX5_timeIfSent_98 : decode cX5_timeIfSent 98 = .ok (.ireturn, 1) := by decide +kernel
def sX5_timeIfSent_35 : Nat → Wl → Int32 → Int32 → Int32 → Int32 → Int32 → Option (Int32 × Wl)
  | 0, _, _, _, _, _, _ => none
  | n + 1, w, l1, l2, l3, l4, l5 => (if (w 1 7) ≤ l5 then some (l4, w) else (idx l5 16).bind (fun c2 => (sX6_isInOrBelow w (w (41 + 2 * c2) 4) l1).bind (fun r5 => (if r5 = true then (sX5_timeThrough w (w (41 + 2 * c2) 4) l2 l3).bind (fun r8 => sX5_timeIfSent_35 n r8.2 l1 l2 l3 (if l4 < r8.1 then r8.1 else l4) (l5 + 1)) else sX5_timeIfSent_35 n w l1 l2 l3 l4 (l5 + 1)))))
theorem tX5_timeIfSent_35 {X : Cx} {B : Bs} {sz : Nat} {r : (Int32 × Wl)} (hx : Fx X cX5_timeIfSent 7 RX5 3 0 0) (hr : Rt X (some .int) 0 0 (WΨ (xΓ X) B (some (.int (r.1))) r.2 sz)) : ∀ (n : Nat), ∀ (w : Wl) (l1 : Int32) (l2 : Int32) (l3 : Int32) (l4 : Int32) (l5 : Int32) {G : Gf} (hW : Wd (xΓ X) B w G) (h : sX5_timeIfSent_35 n w l1 l2 l3 l4 l5 = some r), J X 7 G sz 0 0 35 [some (.ref (B.1 + 76)), some (.int l1), some (.int l2), some (.int l3), some (.int l4), some (.int l5), none] [] := by
  intro n
  induction n with
  | zero => intro w l1 l2 l3 l4 l5 G hW h; rw [sX5_timeIfSent_35.eq_1] at h; cases h
  | succ n ih =>
    intro w l1 l2 l3 l4 l5 G hW h
    rw [sX5_timeIfSent_35.eq_2] at h
    refine J_il hx rfl dX5_timeIfSent_35 ?_
    refine J_al4 hx rfl rfl dX5_timeIfSent_37 ?_
    refine g5_0 hx hW 1 (rfl : kd 76 = 14) fl_X5_15 rfl dX5_timeIfSent_38 ?_
    refine g6_7 hx hW (rfl : kd 1 = 2) fl_X5_65 dX5_timeIfSent_41 ?_
    refine J_icmp_ge hx 96 dX5_timeIfSent_44 rfl (fun h1 => ?_) (fun h1 => ?_)
    · replace h := pos h h1
      refine J_il hx rfl dX5_timeIfSent_96 ?_
      obtain rfl := Option.some.inj h
      exact J_iretW hx hr hW dX5_timeIfSent_98 (Nat.le_refl 0) (Nat.le_refl 0)
    · replace h := neg h h1
      refine J_al4 hx rfl rfl dX5_timeIfSent_47 ?_
      refine g5_0 hx hW 1 (rfl : kd 76 = 14) fl_X5_15 rfl dX5_timeIfSent_48 ?_
      refine g6_11 hx hW 4 (rfl : kd 1 = 2) fl_X5_23 rfl dX5_timeIfSent_51 ?_
      refine J_il hx rfl dX5_timeIfSent_54 ?_
      obtain ⟨c2, hc3, h⟩ := bnd h
      refine J_a5 hx hW (41 + 2 * c2) (rfl : kd 4 = 5) hc3 rfl dX5_timeIfSent_56 fun hk4 => ?_
      refine g11_4 hx hW hk4 fl_X5_29 dX5_timeIfSent_57 ?_
      refine J_is hx (by decide) (hc_of rfl) rfl dX5_timeIfSent_60 ?_
      refine J_al4 hx rfl rfl dX5_timeIfSent_62 ?_
      refine g5_0 hx hW 1 (rfl : kd 76 = 14) fl_X5_15 rfl dX5_timeIfSent_63 ?_
      refine J_il hx rfl dX5_timeIfSent_66 ?_
      refine J_il4 hx rfl rfl dX5_timeIfSent_68 ?_
      obtain ⟨r5, hr6, h⟩ := bnd h
      refine J_rdV hx (kX6_isInOrBelow  hW hr6) ml_X5_68 lk_X6_isInOrBelow (ci := 5) rfl (hW.obj (rfl : kd 1 = 2) (by decide) (by decide)) (rest := []) rfl rfl (by decide) (by decide) (Nat.le_of_ble_eq_true rfl) (Nat.le_refl 0) (Nat.le_refl 0) dX5_timeIfSent_69 ?_
      refine J_bif_eq hx 90 dX5_timeIfSent_72 rfl (fun h7 => ?_) (fun h7 => ?_)
      · replace h := neg h (bft h7)
        refine J_iinc hx (v' := (l5 + 1)) rfl rfl (by decide) (hc_of rfl) rfl dX5_timeIfSent_90 ?_
        refine J_goto hx 35 dX5_timeIfSent_93 rfl ?_
        refine J_lw (ls' := [some (.ref (B.1 + 76)), some (.int l1), some (.int l2), some (.int l3), some (.int l4), some (.int (l5 + 1)), none]) (lwS (lwS (lwS (lwS (lwS (lwS (lwN lwZ))))))) ?_
        exact ih _ _ _ _ _ _  hW h
      · replace h := pos h h7
        refine J_il hx rfl dX5_timeIfSent_75 ?_
        refine J_al4 hx rfl rfl dX5_timeIfSent_77 ?_
        refine J_il hx rfl dX5_timeIfSent_78 ?_
        refine J_il4 hx rfl rfl dX5_timeIfSent_80 ?_
        refine J_il4 hx rfl rfl dX5_timeIfSent_81 ?_
        obtain ⟨r8, hr9, h⟩ := bnd h
        refine J_wrV hx (kX5_timeThrough  hW hr9) ml_X5_58 lk_X5_timeThrough (ci := 4) rfl (hW.obj (rfl : kd 76 = 14) (by decide) (by decide)) (rest := [.int l4]) rfl rfl (by decide) (by decide) (Nat.le_of_ble_eq_true rfl) (Nat.le_refl 0) (Nat.le_refl 0) dX5_timeIfSent_82 fun G10 hW11 => ?_
        show J X 7 G10 sz 0 0 85 [some (.ref (B.1 + 76)), some (.int l1), some (.int l2), some (.int l3), some (.int l4), some (.int l5), some (.int (w (41 + 2 * c2) 4))] [.int r8.1, .int l4]
        refine J_max hx ml_X5_75 jd_max (by decide) (Nat.le_of_ble_eq_true rfl) (Nat.le_refl 0) (Nat.le_refl 0) dX5_timeIfSent_85 ?_
        refine J_is hx (by decide) (hc_of rfl) rfl dX5_timeIfSent_88 ?_
        refine J_iinc hx (v' := (l5 + 1)) rfl rfl (by decide) (hc_of rfl) rfl dX5_timeIfSent_90 ?_
        refine J_goto hx 35 dX5_timeIfSent_93 rfl ?_
        refine J_lw (ls' := [some (.ref (B.1 + 76)), some (.int l1), some (.int l2), some (.int l3), some (.int (if l4 < r8.1 then r8.1 else l4)), some (.int (l5 + 1)), none]) (lwS (lwS (lwS (lwS (lwS (lwS (lwN lwZ))))))) ?_
        exact ih _ _ _ _ _ _  hW11 h
def sX5_timeIfSent (w : Wl) (l1 : Int32) (l2 : Int32) : Option (Int32 × Wl) := (idx l1 12).bind (fun c1 => (sX6_hoursBetween w (w (29 + c1) 3) l2).bind (fun r4 => sX5_timeIfSent_35 FU w l1 l2 ((w 1 0) + r4) ((w 1 0) + r4) (0 : Int32)))
theorem kX5_timeIfSent {l : Launch} {Γ : Gl} {B : Bs} {w : Wl} {G : Gf} {sz : Nat} {l1 : Int32} {l2 : Int32} {r : (Int32 × Wl)} (hW : Wd Γ B w G) (h : sX5_timeIfSent w l1 l2 = some r) : CtW l Γ yX5_timeIfSent cX5_timeIfSent 7 (some .int) 3 [.ref (B.1 + 76), .int l1, .int l2] G sz B (some (.int (r.1))) r.2 := by
  refine Ct.of rfl (Nat.le_of_ble_eq_true rfl) fun X hx hr hl hΓ hnm => ?_
  subst hl hΓ
  show J X 7 G sz 0 0 0 [some (.ref (B.1 + 76)), some (.int l1), some (.int l2), none, none, none, none] []
  unfold sX5_timeIfSent at h
  refine J_al4 hx rfl rfl dX5_timeIfSent_0 ?_
  refine g5_0 hx hW 1 (rfl : kd 76 = 14) fl_X5_15 rfl dX5_timeIfSent_1 ?_
  refine g6_0 hx hW (rfl : kd 1 = 2) fl_X5_39 dX5_timeIfSent_4 ?_
  refine J_al4 hx rfl rfl dX5_timeIfSent_7 ?_
  refine g5_0 hx hW 1 (rfl : kd 76 = 14) fl_X5_15 rfl dX5_timeIfSent_8 ?_
  refine J_al4 hx rfl rfl dX5_timeIfSent_11 ?_
  refine g5_0 hx hW 1 (rfl : kd 76 = 14) fl_X5_15 rfl dX5_timeIfSent_12 ?_
  refine g6_10 hx hW 3 (rfl : kd 1 = 2) fl_X5_42 rfl dX5_timeIfSent_15 ?_
  refine J_il4 hx rfl rfl dX5_timeIfSent_18 ?_
  obtain ⟨c1, hc2, h⟩ := bnd h
  refine J_a4 hx hW (29 + c1) (rfl : kd 3 = 4) hc2 rfl dX5_timeIfSent_19 fun hk3 => ?_
  refine g3_3 hx hW hk3 fl_X5_62 dX5_timeIfSent_20 ?_
  refine J_il4 hx rfl rfl dX5_timeIfSent_23 ?_
  obtain ⟨r4, hr5, h⟩ := bnd h
  refine J_rdV hx (kX6_hoursBetween  hW hr5) ml_X5_92 lk_X6_hoursBetween (ci := 5) rfl (hW.obj (rfl : kd 1 = 2) (by decide) (by decide)) (rest := [.int (w 1 0)]) rfl rfl (by decide) (by decide) (Nat.le_of_ble_eq_true rfl) (Nat.le_refl 0) (Nat.le_refl 0) dX5_timeIfSent_24 ?_
  refine J_iadd hx dX5_timeIfSent_27 ?_
  refine J_is4 hx rfl (by decide) (hc_of rfl) rfl dX5_timeIfSent_28 ?_
  refine J_il4 hx rfl rfl dX5_timeIfSent_29 ?_
  refine J_is hx (by decide) (hc_of rfl) rfl dX5_timeIfSent_30 ?_
  refine J_iconst hx (0 : Int32) dX5_timeIfSent_32 rfl ?_
  refine J_is hx (by decide) (hc_of rfl) rfl dX5_timeIfSent_33 ?_
  exact tX5_timeIfSent_35 hx hr _ _ _ _ _ _ _  hW h
theorem dX5_soonestVenue_0 : decode cX5_soonestVenue 0 = .ok (.iconst (-1), 1) := by decide +kernel
theorem dX5_soonestVenue_1 : decode cX5_soonestVenue 1 = .ok (.istore_n 3, 1) := by decide +kernel
theorem dX5_soonestVenue_2 : decode cX5_soonestVenue 2 = .ok (.iconst 0, 1) := by decide +kernel
theorem dX5_soonestVenue_3 : decode cX5_soonestVenue 3 = .ok (.istore 4, 2) := by decide +kernel
theorem dX5_soonestVenue_5 : decode cX5_soonestVenue 5 = .ok (.iconst 0, 1) := by decide +kernel
theorem dX5_soonestVenue_6 : decode cX5_soonestVenue 6 = .ok (.istore 5, 2) := by decide +kernel
theorem dX5_soonestVenue_8 : decode cX5_soonestVenue 8 = .ok (.iload 5, 2) := by decide +kernel
theorem dX5_soonestVenue_10 : decode cX5_soonestVenue 10 = .ok (.aload_n 0, 1) := by decide +kernel
theorem dX5_soonestVenue_11 : decode cX5_soonestVenue 11 = .ok (.getfield 15, 3) := by decide +kernel
theorem dX5_soonestVenue_14 : decode cX5_soonestVenue 14 = .ok (.getfield 81, 3) := by decide +kernel
theorem dX5_soonestVenue_17 : decode cX5_soonestVenue 17 = .ok (.if_icmp .ge 51, 3) := by decide +kernel
theorem dX5_soonestVenue_20 : decode cX5_soonestVenue 20 = .ok (.aload_n 0, 1) := by decide +kernel
theorem dX5_soonestVenue_21 : decode cX5_soonestVenue 21 = .ok (.getfield 19, 3) := by decide +kernel
theorem dX5_soonestVenue_24 : decode cX5_soonestVenue 24 = .ok (.iload_n 1, 1) := by decide +kernel
theorem dX5_soonestVenue_25 : decode cX5_soonestVenue 25 = .ok (.iload 5, 2) := by decide +kernel
theorem dX5_soonestVenue_27 : decode cX5_soonestVenue 27 = .ok (.iload_n 2, 1) := by decide +kernel
theorem dX5_soonestVenue_28 : decode cX5_soonestVenue 28 = .ok (.invokevirtual 84, 3) := by decide +kernel
theorem dX5_soonestVenue_31 : decode cX5_soonestVenue 31 = .ok (.ifCond .ne 31, 3) := by decide +kernel
theorem dX5_soonestVenue_34 : decode cX5_soonestVenue 34 = .ok (.aload_n 0, 1) := by decide +kernel
theorem dX5_soonestVenue_35 : decode cX5_soonestVenue 35 = .ok (.iload_n 1, 1) := by decide +kernel
theorem dX5_soonestVenue_36 : decode cX5_soonestVenue 36 = .ok (.iload 5, 2) := by decide +kernel
theorem dX5_soonestVenue_38 : decode cX5_soonestVenue 38 = .ok (.invokevirtual 89, 3) := by decide +kernel
theorem dX5_soonestVenue_41 : decode cX5_soonestVenue 41 = .ok (.istore 6, 2) := by decide +kernel
theorem dX5_soonestVenue_43 : decode cX5_soonestVenue 43 = .ok (.iload_n 3, 1) := by decide +kernel
theorem dX5_soonestVenue_44 : decode cX5_soonestVenue 44 = .ok (.iconst (-1), 1) := by decide +kernel
theorem dX5_soonestVenue_45 : decode cX5_soonestVenue 45 = .ok (.if_icmp .eq 10, 3) := by decide +kernel
theorem dX5_soonestVenue_48 : decode cX5_soonestVenue 48 = .ok (.iload 6, 2) := by decide +kernel
theorem dX5_soonestVenue_50 : decode cX5_soonestVenue 50 = .ok (.iload 4, 2) := by decide +kernel
theorem dX5_soonestVenue_52 : decode cX5_soonestVenue 52 = .ok (.if_icmp .ge 10, 3) := by decide +kernel
theorem dX5_soonestVenue_55 : decode cX5_soonestVenue 55 = .ok (.iload 5, 2) := by decide +kernel
theorem dX5_soonestVenue_57 : decode cX5_soonestVenue 57 = .ok (.istore_n 3, 1) := by decide +kernel
theorem dX5_soonestVenue_58 : decode cX5_soonestVenue 58 = .ok (.iload 6, 2) := by decide +kernel
theorem dX5_soonestVenue_60 : decode cX5_soonestVenue 60 = .ok (.istore 4, 2) := by decide +kernel
theorem dX5_soonestVenue_62 : decode cX5_soonestVenue 62 = .ok (.iinc 5 1, 3) := by decide +kernel
theorem dX5_soonestVenue_65 : decode cX5_soonestVenue 65 = .ok (.goto (-57), 3) := by decide +kernel
theorem dX5_soonestVenue_68 : decode cX5_soonestVenue 68 = .ok (.iload_n 3, 1) := by decide +kernel
theorem dX5_soonestVenue_69 : decode cX5_soonestVenue 69 = .ok (.ireturn, 1) := by decide +kernel
def sX5_soonestVenue_55 (k8 : Wl → Int32 → Int32 → Int32 → Int32 → Int32 → Option (Int32 × Wl)) (w : Wl) (l1 : Int32) (l2 : Int32) (l5 : Int32) (l6 : Int32) : Option (Int32 × Wl) := k8 w l1 l2 l5 l6 (l5 + 1)
theorem tX5_soonestVenue_55 {X : Cx} {B : Bs} {sz : Nat} {r : (Int32 × Wl)} (hx : Fx X cX5_soonestVenue 7 RX5 5 0 0) (hr : Rt X (some .int) 0 0 (WΨ (xΓ X) B (some (.int (r.1))) r.2 sz)) (k8 : Wl → Int32 → Int32 → Int32 → Int32 → Int32 → Option (Int32 × Wl)) (hk8 : ∀ (w : Wl) (l1 : Int32) (l2 : Int32) (l3 : Int32) (l4 : Int32) (l5 : Int32) {G : Gf} (hW : Wd (xΓ X) B w G) (h : k8 w l1 l2 l3 l4 l5 = some r), J X 7 G sz 0 0 8 [some (.ref (B.1 + 76)), some (.int l1), some (.int l2), some (.int l3), some (.int l4), some (.int l5), none] []) : ∀ (w : Wl) (l1 : Int32) (l2 : Int32) (l5 : Int32) (l6 : Int32) {G : Gf} (hW : Wd (xΓ X) B w G) (h : sX5_soonestVenue_55 k8  w l1 l2 l5 l6 = some r), J X 7 G sz 0 0 55 [some (.ref (B.1 + 76)), some (.int l1), some (.int l2), none, none, some (.int l5), some (.int l6)] [] := by
  intro w l1 l2 l5 l6 G hW h
  unfold sX5_soonestVenue_55 at h
  refine J_il hx rfl dX5_soonestVenue_55 ?_
  refine J_is4 hx rfl (by decide) (hc_of rfl) rfl dX5_soonestVenue_57 ?_
  refine J_il hx rfl dX5_soonestVenue_58 ?_
  refine J_is hx (by decide) (hc_of rfl) rfl dX5_soonestVenue_60 ?_
  refine J_iinc hx (v' := (l5 + 1)) rfl rfl (by decide) (hc_of rfl) rfl dX5_soonestVenue_62 ?_
  refine J_goto hx 8 dX5_soonestVenue_65 rfl ?_
  refine J_lw (ls' := [some (.ref (B.1 + 76)), some (.int l1), some (.int l2), some (.int l5), some (.int l6), some (.int (l5 + 1)), none]) (lwS (lwS (lwS (lwS (lwS (lwS (lwN lwZ))))))) ?_
  exact hk8 _ _ _ _ _ _  hW h
def sX5_soonestVenue_8 : Nat → Wl → Int32 → Int32 → Int32 → Int32 → Int32 → Option (Int32 × Wl)
  | 0, _, _, _, _, _, _ => none
  | n + 1, w, l1, l2, l3, l4, l5 => (if (w 1 5) ≤ l5 then some (l3, w) else (sX1_reasonAgainst w l1 l5 l2).bind (fun r2 => (if r2 = 0 then (sX5_timeIfSent w l1 l5).bind (fun r5 => (if l3 = (-1 : Int32) then sX5_soonestVenue_55 (fun w l1 l2 l3 l4 l5 => sX5_soonestVenue_8 n w l1 l2 l3 l4 l5) r5.2 l1 l2 l5 r5.1 else (if l4 ≤ r5.1 then sX5_soonestVenue_8 n r5.2 l1 l2 l3 l4 (l5 + 1) else sX5_soonestVenue_55 (fun w l1 l2 l3 l4 l5 => sX5_soonestVenue_8 n w l1 l2 l3 l4 l5) r5.2 l1 l2 l5 r5.1))) else sX5_soonestVenue_8 n w l1 l2 l3 l4 (l5 + 1))))
theorem tX5_soonestVenue_8 {X : Cx} {B : Bs} {sz : Nat} {r : (Int32 × Wl)} (hx : Fx X cX5_soonestVenue 7 RX5 5 0 0) (hr : Rt X (some .int) 0 0 (WΨ (xΓ X) B (some (.int (r.1))) r.2 sz)) : ∀ (n : Nat), ∀ (w : Wl) (l1 : Int32) (l2 : Int32) (l3 : Int32) (l4 : Int32) (l5 : Int32) {G : Gf} (hW : Wd (xΓ X) B w G) (h : sX5_soonestVenue_8 n w l1 l2 l3 l4 l5 = some r), J X 7 G sz 0 0 8 [some (.ref (B.1 + 76)), some (.int l1), some (.int l2), some (.int l3), some (.int l4), some (.int l5), none] [] := by
  intro n
  induction n with
  | zero => intro w l1 l2 l3 l4 l5 G hW h; rw [sX5_soonestVenue_8.eq_1] at h; cases h
  | succ n ih =>
    intro w l1 l2 l3 l4 l5 G hW h
    rw [sX5_soonestVenue_8.eq_2] at h
    refine J_il hx rfl dX5_soonestVenue_8 ?_
    refine J_al4 hx rfl rfl dX5_soonestVenue_10 ?_
    refine g5_0 hx hW 1 (rfl : kd 76 = 14) fl_X5_15 rfl dX5_soonestVenue_11 ?_
    refine g6_5 hx hW (rfl : kd 1 = 2) fl_X5_81 dX5_soonestVenue_14 ?_
    refine J_icmp_ge hx 68 dX5_soonestVenue_17 rfl (fun h1 => ?_) (fun h1 => ?_)
    · replace h := pos h h1
      refine J_il4 hx rfl rfl dX5_soonestVenue_68 ?_
      obtain rfl := Option.some.inj h
      exact J_iretW hx hr hW dX5_soonestVenue_69 (Nat.le_refl 0) (Nat.le_refl 0)
    · replace h := neg h h1
      refine J_al4 hx rfl rfl dX5_soonestVenue_20 ?_
      refine g5_1 hx hW 73 (rfl : kd 76 = 14) fl_X5_19 rfl dX5_soonestVenue_21 ?_
      refine J_il4 hx rfl rfl dX5_soonestVenue_24 ?_
      refine J_il hx rfl dX5_soonestVenue_25 ?_
      refine J_il4 hx rfl rfl dX5_soonestVenue_27 ?_
      obtain ⟨r2, hr3, h⟩ := bnd h
      refine J_rdV hx (kX1_reasonAgainst  hW hr3) ml_X5_84 lk_X1_reasonAgainst (ci := 0) rfl (hW.obj (rfl : kd 73 = 11) (by decide) (by decide)) (rest := []) rfl rfl (by decide) (by decide) (Nat.le_of_ble_eq_true rfl) (Nat.le_refl 0) (Nat.le_refl 0) dX5_soonestVenue_28 ?_
      refine J_if_ne hx 62 dX5_soonestVenue_31 rfl (fun h4 => ?_) (fun h4 => ?_)
      · replace h := neg h h4
        refine J_iinc hx (v' := (l5 + 1)) rfl rfl (by decide) (hc_of rfl) rfl dX5_soonestVenue_62 ?_
        refine J_goto hx 8 dX5_soonestVenue_65 rfl ?_
        exact ih _ _ _ _ _ _  hW h
      · replace h := pos h h4
        refine J_al4 hx rfl rfl dX5_soonestVenue_34 ?_
        refine J_il4 hx rfl rfl dX5_soonestVenue_35 ?_
        refine J_il hx rfl dX5_soonestVenue_36 ?_
        obtain ⟨r5, hr6, h⟩ := bnd h
        refine J_wrV hx (kX5_timeIfSent  hW hr6) ml_X5_89 lk_X5_timeIfSent (ci := 4) rfl (hW.obj (rfl : kd 76 = 14) (by decide) (by decide)) (rest := []) rfl rfl (by decide) (by decide) (Nat.le_of_ble_eq_true rfl) (Nat.le_refl 0) (Nat.le_refl 0) dX5_soonestVenue_38 fun G7 hW8 => ?_
        show J X 7 G7 sz 0 0 41 [some (.ref (B.1 + 76)), some (.int l1), some (.int l2), some (.int l3), some (.int l4), some (.int l5), none] [.int r5.1]
        refine J_is hx (by decide) (hc_of rfl) rfl dX5_soonestVenue_41 ?_
        refine J_il4 hx rfl rfl dX5_soonestVenue_43 ?_
        refine J_iconst hx (-1 : Int32) dX5_soonestVenue_44 rfl ?_
        refine J_icmp_eq hx 55 dX5_soonestVenue_45 rfl (fun h9 => ?_) (fun h9 => ?_)
        · replace h := pos h h9
          refine J_lw (ls' := [some (.ref (B.1 + 76)), some (.int l1), some (.int l2), none, none, some (.int l5), some (.int r5.1)]) (lwS (lwS (lwS (lwN (lwN (lwS (lwS lwZ))))))) ?_
          exact tX5_soonestVenue_55 hx hr _ ih _ _ _ _ _  hW8 h
        · replace h := neg h h9
          refine J_il hx rfl dX5_soonestVenue_48 ?_
          refine J_il hx rfl dX5_soonestVenue_50 ?_
          refine J_icmp_ge hx 62 dX5_soonestVenue_52 rfl (fun h10 => ?_) (fun h10 => ?_)
          · replace h := pos h h10
            refine J_iinc hx (v' := (l5 + 1)) rfl rfl (by decide) (hc_of rfl) rfl dX5_soonestVenue_62 ?_
            refine J_goto hx 8 dX5_soonestVenue_65 rfl ?_
            refine J_lw (ls' := [some (.ref (B.1 + 76)), some (.int l1), some (.int l2), some (.int l3), some (.int l4), some (.int (l5 + 1)), none]) (lwS (lwS (lwS (lwS (lwS (lwS (lwN lwZ))))))) ?_
            exact ih _ _ _ _ _ _  hW8 h
          · replace h := neg h h10
            refine J_lw (ls' := [some (.ref (B.1 + 76)), some (.int l1), some (.int l2), none, none, some (.int l5), some (.int r5.1)]) (lwS (lwS (lwS (lwN (lwN (lwS (lwS lwZ))))))) ?_
            exact tX5_soonestVenue_55 hx hr _ ih _ _ _ _ _  hW8 h
def sX5_soonestVenue (w : Wl) (l1 : Int32) (l2 : Int32) : Option (Int32 × Wl) := sX5_soonestVenue_8 FU w l1 l2 (-1 : Int32) (0 : Int32) (0 : Int32)
theorem kX5_soonestVenue {l : Launch} {Γ : Gl} {B : Bs} {w : Wl} {G : Gf} {sz : Nat} {l1 : Int32} {l2 : Int32} {r : (Int32 × Wl)} (hW : Wd Γ B w G) (h : sX5_soonestVenue w l1 l2 = some r) : CtW l Γ yX5_soonestVenue cX5_soonestVenue 7 (some .int) 5 [.ref (B.1 + 76), .int l1, .int l2] G sz B (some (.int (r.1))) r.2 := by
  refine Ct.of rfl (Nat.le_of_ble_eq_true rfl) fun X hx hr hl hΓ hnm => ?_
  subst hl hΓ
  show J X 7 G sz 0 0 0 [some (.ref (B.1 + 76)), some (.int l1), some (.int l2), none, none, none, none] []
  unfold sX5_soonestVenue at h
  refine J_iconst hx (-1 : Int32) dX5_soonestVenue_0 rfl ?_
  refine J_is4 hx rfl (by decide) (hc_of rfl) rfl dX5_soonestVenue_1 ?_
  refine J_iconst hx (0 : Int32) dX5_soonestVenue_2 rfl ?_
  refine J_is hx (by decide) (hc_of rfl) rfl dX5_soonestVenue_3 ?_
  refine J_iconst hx (0 : Int32) dX5_soonestVenue_5 rfl ?_
  refine J_is hx (by decide) (hc_of rfl) rfl dX5_soonestVenue_6 ?_
  exact tX5_soonestVenue_8 hx hr _ _ _ _ _ _ _  hW h
