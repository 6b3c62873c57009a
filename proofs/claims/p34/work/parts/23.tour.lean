/-! Mirrors and walks, written by wip/whole/gen_tour.py -/
theorem dX12_wrongWith_0 : decode cX12_wrongWith 0 = .ok (.getstatic 329, 3) := by decide +kernel
theorem dX12_wrongWith_3 : decode cX12_wrongWith 3 = .ok (.aload_n 1, 1) := by decide +kernel
theorem dX12_wrongWith_4 : decode cX12_wrongWith 4 = .ok (.invokevirtual 334, 3) := by decide +kernel
theorem dX12_wrongWith_7 : decode cX12_wrongWith 7 = .ok (.iaload, 1) := by decide +kernel
theorem dX12_wrongWith_8 : decode cX12_wrongWith 8 = .ok (.tableswitch 152 1 8 #[48, 59, 70, 84, 95, 109, 120, 135], 48) := by decide +kernel
theorem dX12_wrongWith_56 : decode cX12_wrongWith 56 = .ok (.aload_n 0, 1) := by decide +kernel
theorem dX12_wrongWith_57 : decode cX12_wrongWith 57 = .ok (.getfield 21, 3) := by decide +kernel
theorem dX12_wrongWith_60 : decode cX12_wrongWith 60 = .ok (.aload_n 2, 1) := by decide +kernel
theorem dX12_wrongWith_61 : decode cX12_wrongWith 61 = .ok (.iconst 0, 1) := by decide +kernel
theorem dX12_wrongWith_62 : decode cX12_wrongWith 62 = .ok (.iaload, 1) := by decide +kernel
theorem dX12_wrongWith_63 : decode cX12_wrongWith 63 = .ok (.invokevirtual 122, 3) := by decide +kernel
theorem dX12_wrongWith_66 : decode cX12_wrongWith 66 = .ok (.ireturn, 1) := by decide +kernel
theorem dX12_wrongWith_67 : decode cX12_wrongWith 67 = .ok (.aload_n 0, 1) := by decide +kernel
theorem dX12_wrongWith_68 : decode cX12_wrongWith 68 = .ok (.getfield 21, 3) := by decide +kernel
theorem dX12_wrongWith_71 : decode cX12_wrongWith 71 = .ok (.aload_n 2, 1) := by decide +kernel
theorem dX12_wrongWith_72 : decode cX12_wrongWith 72 = .ok (.iconst 0, 1) := by decide +kernel
theorem dX12_wrongWith_73 : decode cX12_wrongWith 73 = .ok (.iaload, 1) := by decide +kernel
theorem dX12_wrongWith_74 : decode cX12_wrongWith 74 = .ok (.invokevirtual 128, 3) := by decide +kernel
theorem dX12_wrongWith_77 : decode cX12_wrongWith 77 = .ok (.ireturn, 1) := by decide +kernel
theorem dX12_wrongWith_78 : decode cX12_wrongWith 78 = .ok (.aload_n 0, 1) := by decide +kernel
theorem dX12_wrongWith_79 : decode cX12_wrongWith 79 = .ok (.getfield 21, 3) := by decide +kernel
theorem dX12_wrongWith_82 : decode cX12_wrongWith 82 = .ok (.aload_n 2, 1) := by decide +kernel
theorem dX12_wrongWith_83 : decode cX12_wrongWith 83 = .ok (.iconst 0, 1) := by decide +kernel
theorem dX12_wrongWith_84 : decode cX12_wrongWith 84 = .ok (.iaload, 1) := by decide +kernel
theorem dX12_wrongWith_85 : decode cX12_wrongWith 85 = .ok (.aload_n 2, 1) := by decide +kernel
theorem dX12_wrongWith_86 : decode cX12_wrongWith 86 = .ok (.iconst 1, 1) := by decide +kernel
theorem dX12_wrongWith_87 : decode cX12_wrongWith 87 = .ok (.iaload, 1) := by decide +kernel
theorem dX12_wrongWith_88 : decode cX12_wrongWith 88 = .ok (.invokevirtual 134, 3) := by decide +kernel
theorem dX12_wrongWith_91 : decode cX12_wrongWith 91 = .ok (.ireturn, 1) := by decide +kernel
theorem dX12_wrongWith_92 : decode cX12_wrongWith 92 = .ok (.aload_n 0, 1) := by decide +kernel
theorem dX12_wrongWith_93 : decode cX12_wrongWith 93 = .ok (.getfield 21, 3) := by decide +kernel
theorem dX12_wrongWith_96 : decode cX12_wrongWith 96 = .ok (.aload_n 2, 1) := by decide +kernel
theorem dX12_wrongWith_97 : decode cX12_wrongWith 97 = .ok (.iconst 0, 1) := by decide +kernel
theorem dX12_wrongWith_98 : decode cX12_wrongWith 98 = .ok (.iaload, 1) := by decide +kernel
theorem dX12_wrongWith_99 : decode cX12_wrongWith 99 = .ok (.invokevirtual 140, 3) := by decide +kernel
theorem dX12_wrongWith_102 : decode cX12_wrongWith 102 = .ok (.ireturn, 1) := by decide +kernel
theorem dX12_wrongWith_103 : decode cX12_wrongWith 103 = .ok (.aload_n 0, 1) := by decide +kernel
theorem dX12_wrongWith_104 : decode cX12_wrongWith 104 = .ok (.getfield 21, 3) := by decide +kernel
theorem dX12_wrongWith_107 : decode cX12_wrongWith 107 = .ok (.aload_n 2, 1) := by decide +kernel
theorem dX12_wrongWith_108 : decode cX12_wrongWith 108 = .ok (.iconst 0, 1) := by decide +kernel
theorem dX12_wrongWith_109 : decode cX12_wrongWith 109 = .ok (.iaload, 1) := by decide +kernel
theorem dX12_wrongWith_110 : decode cX12_wrongWith 110 = .ok (.aload_n 2, 1) := by decide +kernel
theorem dX12_wrongWith_111 : decode cX12_wrongWith 111 = .ok (.iconst 1, 1) := by decide +kernel
theorem dX12_wrongWith_112 : decode cX12_wrongWith 112 = .ok (.iaload, 1) := by decide +kernel
theorem dX12_wrongWith_113 : decode cX12_wrongWith 113 = .ok (.invokevirtual 146, 3) := by decide +kernel
theorem dX12_wrongWith_116 : decode cX12_wrongWith 116 = .ok (.ireturn, 1) := by decide +kernel
theorem dX12_wrongWith_117 : decode cX12_wrongWith 117 = .ok (.aload_n 0, 1) := by decide +kernel
theorem dX12_wrongWith_118 : decode cX12_wrongWith 118 = .ok (.getfield 21, 3) := by decide +kernel
theorem dX12_wrongWith_121 : decode cX12_wrongWith 121 = .ok (.aload_n 2, 1) := by decide +kernel
theorem dX12_wrongWith_122 : decode cX12_wrongWith 122 = .ok (.iconst 0, 1) := by decide +kernel
theorem dX12_wrongWith_123 : decode cX12_wrongWith 123 = .ok (.iaload, 1) := by decide +kernel
theorem dX12_wrongWith_124 : decode cX12_wrongWith 124 = .ok (.invokevirtual 152, 3) := by decide +kernel
theorem dX12_wrongWith_127 : decode cX12_wrongWith 127 = .ok (.ireturn, 1) := by decide +kernel
theorem dX12_wrongWith_128 : decode cX12_wrongWith 128 = .ok (.aload_n 0, 1) := by decide +kernel
theorem dX12_wrongWith_129 : decode cX12_wrongWith 129 = .ok (.getfield 21, 3) := by decide +kernel
theorem dX12_wrongWith_132 : decode cX12_wrongWith 132 = .ok (.aload_n 2, 1) := by decide +kernel
theorem dX12_wrongWith_133 : decode cX12_wrongWith 133 = .ok (.iconst 0, 1) := by decide +kernel
theorem dX12_wrongWith_134 : decode cX12_wrongWith 134 = .ok (.iaload, 1) := by decide +kernel
theorem dX12_wrongWith_135 : decode cX12_wrongWith 135 = .ok (.aload_n 2, 1) := by decide +kernel
theorem dX12_wrongWith_136 : decode cX12_wrongWith 136 = .ok (.iconst 1, 1) := by decide +kernel
theorem dX12_wrongWith_137 : decode cX12_wrongWith 137 = .ok (.iaload, 1) := by decide +kernel
theorem dX12_wrongWith_138 : decode cX12_wrongWith 138 = .ok (.iconst (-1), 1) := by decide +kernel
theorem dX12_wrongWith_139 : decode cX12_wrongWith 139 = .ok (.invokevirtual 158, 3) := by decide +kernel
theorem dX12_wrongWith_142 : decode cX12_wrongWith 142 = .ok (.ireturn, 1) := by decide +kernel
theorem dX12_wrongWith_143 : decode cX12_wrongWith 143 = .ok (.aload_n 0, 1) := by decide +kernel
theorem dX12_wrongWith_144 : decode cX12_wrongWith 144 = .ok (.getfield 21, 3) := by decide +kernel
theorem dX12_wrongWith_147 : decode cX12_wrongWith 147 = .ok (.aload_n 2, 1) := by decide +kernel
theorem dX12_wrongWith_148 : decode cX12_wrongWith 148 = .ok (.iconst 0, 1) := by decide +kernel
theorem dX12_wrongWith_149 : decode cX12_wrongWith 149 = .ok (.iaload, 1) := by decide +kernel
theorem dX12_wrongWith_150 : decode cX12_wrongWith 150 = .ok (.aload_n 2, 1) := by decide +kernel
theorem dX12_wrongWith_151 : decode cX12_wrongWith 151 = .ok (.iconst 1, 1) := by decide +kernel
theorem dX12_wrongWith_152 : decode cX12_wrongWith 152 = .ok (.iaload, 1) := by decide +kernel
theorem dX12_wrongWith_153 : decode cX12_wrongWith 153 = .ok (.aload_n 2, 1) := by decide +kernel
theorem dX12_wrongWith_154 : decode cX12_wrongWith 154 = .ok (.iconst 2, 1) := by decide +kernel
theorem dX12_wrongWith_155 : decode cX12_wrongWith 155 = .ok (.iaload, 1) := by decide +kernel
theorem dX12_wrongWith_156 : decode cX12_wrongWith 156 = .ok (.invokevirtual 158, 3) := by decide +kernel
theorem dX12_wrongWith_159 : decode cX12_wrongWith 159 = .ok (.ireturn, 1) := by decide +kernel
theorem dX12_wrongWith_160 : decode cX12_wrongWith 160 = .ok (.aload_n 0, 1) := by decide +kernel
theorem dX12_wrongWith_161 : decode cX12_wrongWith 161 = .ok (.getfield 21, 3) := by decide +kernel
theorem dX12_wrongWith_164 : decode cX12_wrongWith 164 = .ok (.aload_n 2, 1) := by decide +kernel
theorem dX12_wrongWith_165 : decode cX12_wrongWith 165 = .ok (.iconst 0, 1) := by decide +kernel
theorem dX12_wrongWith_166 : decode cX12_wrongWith 166 = .ok (.iaload, 1) := by decide +kernel
theorem dX12_wrongWith_167 : decode cX12_wrongWith 167 = .ok (.invokevirtual 164, 3) := by decide +kernel
theorem dX12_wrongWith_170 : decode cX12_wrongWith 170 = .ok (.ireturn, 1) := by decide +kernel
def sX12_wrongWith (w : Wl) (d1 : Nat) : Option Int32 := (idx (Int32.ofNat d1) 9).bind (fun c1 => (if (smv c1) = 1 then (sX1_ofOpening w (w 370 0)).bind (fun r4 => some r4) else (if (smv c1) = 2 then (sX1_ofClosing w (w 370 0)).bind (fun r7 => some r7) else (if (smv c1) = 3 then (sX1_ofNesting w (w 370 0) (w 370 1)).bind (fun r10 => some r10) else (if (smv c1) = 4 then (sX1_ofTakingOut w (w 370 0)).bind (fun r13 => some r13) else (if (smv c1) = 5 then (sX1_ofPacking w (w 370 0) (w 370 1)).bind (fun r16 => some r16) else (if (smv c1) = 6 then (sX1_ofUnpacking w (w 370 0)).bind (fun r19 => some r19) else (if (smv c1) = 7 then (sX1_ofSending w (w 370 0) (w 370 1) (-1 : Int32)).bind (fun r22 => some r22) else (if (smv c1) = 8 then (sX1_ofSending w (w 370 0) (w 370 1) (w 370 2)).bind (fun r25 => some r25) else (sX1_ofWaiting w (w 370 0)).bind (fun r27 => some r27))))))))))
theorem kX12_wrongWith {l : Launch} {Γ : Gl} {B : Bs} {w : Wl} {G : Gf} {sz : Nat} {d1 : Nat} {r : Int32} (hd1 : d1 < 9) (hC : GC Γ B) (hW : Wd Γ B w G) (h : sX12_wrongWith w d1 = some r) : CtR l Γ yX12_wrongWith cX12_wrongWith 3 (some .int) 6 [.ref (B.1 + 0), .ref (B.2 d1), .ref (B.1 + 370)] G sz (.int (r)) := by
  refine Ct.of rfl (Nat.le_of_ble_eq_true rfl) fun X hx hr hl hΓ hnm => ?_
  subst hl hΓ
  show J X 3 G sz 0 0 0 [some (.ref (B.1 + 0)), some (.ref (B.2 d1)), some (.ref (B.1 + 370))] []
  unfold sX12_wrongWith at h
  refine J_gets hx (hx.kc hC).z2 fl_X12_329 dX12_wrongWith_0 ?_
  refine J_al4 hx rfl rfl dX12_wrongWith_3 ?_
  refine J_callU hx (kJx29ce0_ordinal_8abf5 hd1 hC) rfl oU oC ⟨by decide +kernel, by decide +kernel, by decide +kernel⟩ ((hx.kc hC).wd _ hd1).1 (rest := [.ref (B.2 11)]) rfl rfl (by decide) (by decide) (Nat.le_of_ble_eq_true rfl) (Nat.le_refl 0) (Nat.le_refl 0) dX12_wrongWith_4 ?_
  obtain ⟨c1, hc2, h⟩ := bnd h
  refine J_tiald hx (hx.kc hC).t2 hc2 dX12_wrongWith_7 ?_
  by_cases h3 : (smv c1) = 1
  · replace h := pos h h3
    refine J_swIn hx 56 dX12_wrongWith_8 (by rw [h3]; decide) (by rw [h3]; decide) (by rw [h3]; rfl) rfl ?_
    refine J_al4 hx rfl rfl dX12_wrongWith_56 ?_
    refine g12_1 hx hW 73 (rfl : kd 0 = 1) fl_X12_21 rfl dX12_wrongWith_57 ?_
    refine J_al4 hx rfl rfl dX12_wrongWith_60 ?_
    refine J_iconst hx (0 : Int32) dX12_wrongWith_61 rfl ?_
    refine J_iaW hx hW (rfl : kd 370 = 103) (by decide +kernel : idx (0 : Int32) 3 = some 0) dX12_wrongWith_62 ?_
    obtain ⟨r4, hr5, h⟩ := bnd h
    refine J_rdV hx (kX1_ofOpening  hW hr5) ml_X12_122 lk_X1_ofOpening (ci := 0) rfl (hW.obj (rfl : kd 73 = 11) (by decide) (by decide)) (rest := []) rfl rfl (by decide) (by decide) (Nat.le_of_ble_eq_true rfl) (Nat.le_refl 0) (Nat.le_refl 0) dX12_wrongWith_63 ?_
    exact J_iretR hx hr dX12_wrongWith_66 (Nat.le_refl 0) (Nat.le_refl 0) (Option.some.inj h)
  replace h := neg h h3
  by_cases h6 : (smv c1) = 2
  · replace h := pos h h6
    refine J_swIn hx 67 dX12_wrongWith_8 (by rw [h6]; decide) (by rw [h6]; decide) (by rw [h6]; rfl) rfl ?_
    refine J_al4 hx rfl rfl dX12_wrongWith_67 ?_
    refine g12_1 hx hW 73 (rfl : kd 0 = 1) fl_X12_21 rfl dX12_wrongWith_68 ?_
    refine J_al4 hx rfl rfl dX12_wrongWith_71 ?_
    refine J_iconst hx (0 : Int32) dX12_wrongWith_72 rfl ?_
    refine J_iaW hx hW (rfl : kd 370 = 103) (by decide +kernel : idx (0 : Int32) 3 = some 0) dX12_wrongWith_73 ?_
    obtain ⟨r7, hr8, h⟩ := bnd h
    refine J_rdV hx (kX1_ofClosing  hW hr8) ml_X12_128 lk_X1_ofClosing (ci := 0) rfl (hW.obj (rfl : kd 73 = 11) (by decide) (by decide)) (rest := []) rfl rfl (by decide) (by decide) (Nat.le_of_ble_eq_true rfl) (Nat.le_refl 0) (Nat.le_refl 0) dX12_wrongWith_74 ?_
    exact J_iretR hx hr dX12_wrongWith_77 (Nat.le_refl 0) (Nat.le_refl 0) (Option.some.inj h)
  replace h := neg h h6
  by_cases h9 : (smv c1) = 3
  · replace h := pos h h9
    refine J_swIn hx 78 dX12_wrongWith_8 (by rw [h9]; decide) (by rw [h9]; decide) (by rw [h9]; rfl) rfl ?_
    refine J_al4 hx rfl rfl dX12_wrongWith_78 ?_
    refine g12_1 hx hW 73 (rfl : kd 0 = 1) fl_X12_21 rfl dX12_wrongWith_79 ?_
    refine J_al4 hx rfl rfl dX12_wrongWith_82 ?_
    refine J_iconst hx (0 : Int32) dX12_wrongWith_83 rfl ?_
    refine J_iaW hx hW (rfl : kd 370 = 103) (by decide +kernel : idx (0 : Int32) 3 = some 0) dX12_wrongWith_84 ?_
    refine J_al4 hx rfl rfl dX12_wrongWith_85 ?_
    refine J_iconst hx (1 : Int32) dX12_wrongWith_86 rfl ?_
    refine J_iaW hx hW (rfl : kd 370 = 103) (by decide +kernel : idx (1 : Int32) 3 = some 1) dX12_wrongWith_87 ?_
    obtain ⟨r10, hr11, h⟩ := bnd h
    refine J_rdV hx (kX1_ofNesting  hW hr11) ml_X12_134 lk_X1_ofNesting (ci := 0) rfl (hW.obj (rfl : kd 73 = 11) (by decide) (by decide)) (rest := []) rfl rfl (by decide) (by decide) (Nat.le_of_ble_eq_true rfl) (Nat.le_refl 0) (Nat.le_refl 0) dX12_wrongWith_88 ?_
    exact J_iretR hx hr dX12_wrongWith_91 (Nat.le_refl 0) (Nat.le_refl 0) (Option.some.inj h)
  replace h := neg h h9
  by_cases h12 : (smv c1) = 4
  · replace h := pos h h12
    refine J_swIn hx 92 dX12_wrongWith_8 (by rw [h12]; decide) (by rw [h12]; decide) (by rw [h12]; rfl) rfl ?_
    refine J_al4 hx rfl rfl dX12_wrongWith_92 ?_
    refine g12_1 hx hW 73 (rfl : kd 0 = 1) fl_X12_21 rfl dX12_wrongWith_93 ?_
    refine J_al4 hx rfl rfl dX12_wrongWith_96 ?_
    refine J_iconst hx (0 : Int32) dX12_wrongWith_97 rfl ?_
    refine J_iaW hx hW (rfl : kd 370 = 103) (by decide +kernel : idx (0 : Int32) 3 = some 0) dX12_wrongWith_98 ?_
    obtain ⟨r13, hr14, h⟩ := bnd h
    refine J_rdV hx (kX1_ofTakingOut  hW hr14) ml_X12_140 lk_X1_ofTakingOut (ci := 0) rfl (hW.obj (rfl : kd 73 = 11) (by decide) (by decide)) (rest := []) rfl rfl (by decide) (by decide) (Nat.le_of_ble_eq_true rfl) (Nat.le_refl 0) (Nat.le_refl 0) dX12_wrongWith_99 ?_
    exact J_iretR hx hr dX12_wrongWith_102 (Nat.le_refl 0) (Nat.le_refl 0) (Option.some.inj h)
  replace h := neg h h12
  by_cases h15 : (smv c1) = 5
  · replace h := pos h h15
    refine J_swIn hx 103 dX12_wrongWith_8 (by rw [h15]; decide) (by rw [h15]; decide) (by rw [h15]; rfl) rfl ?_
    refine J_al4 hx rfl rfl dX12_wrongWith_103 ?_
    refine g12_1 hx hW 73 (rfl : kd 0 = 1) fl_X12_21 rfl dX12_wrongWith_104 ?_
    refine J_al4 hx rfl rfl dX12_wrongWith_107 ?_
    refine J_iconst hx (0 : Int32) dX12_wrongWith_108 rfl ?_
    refine J_iaW hx hW (rfl : kd 370 = 103) (by decide +kernel : idx (0 : Int32) 3 = some 0) dX12_wrongWith_109 ?_
    refine J_al4 hx rfl rfl dX12_wrongWith_110 ?_
    refine J_iconst hx (1 : Int32) dX12_wrongWith_111 rfl ?_
    refine J_iaW hx hW (rfl : kd 370 = 103) (by decide +kernel : idx (1 : Int32) 3 = some 1) dX12_wrongWith_112 ?_
    obtain ⟨r16, hr17, h⟩ := bnd h
    refine J_rdV hx (kX1_ofPacking  hW hr17) ml_X12_146 lk_X1_ofPacking (ci := 0) rfl (hW.obj (rfl : kd 73 = 11) (by decide) (by decide)) (rest := []) rfl rfl (by decide) (by decide) (Nat.le_of_ble_eq_true rfl) (Nat.le_refl 0) (Nat.le_refl 0) dX12_wrongWith_113 ?_
    exact J_iretR hx hr dX12_wrongWith_116 (Nat.le_refl 0) (Nat.le_refl 0) (Option.some.inj h)
  replace h := neg h h15
  by_cases h18 : (smv c1) = 6
  · replace h := pos h h18
    refine J_swIn hx 117 dX12_wrongWith_8 (by rw [h18]; decide) (by rw [h18]; decide) (by rw [h18]; rfl) rfl ?_
    refine J_al4 hx rfl rfl dX12_wrongWith_117 ?_
    refine g12_1 hx hW 73 (rfl : kd 0 = 1) fl_X12_21 rfl dX12_wrongWith_118 ?_
    refine J_al4 hx rfl rfl dX12_wrongWith_121 ?_
    refine J_iconst hx (0 : Int32) dX12_wrongWith_122 rfl ?_
    refine J_iaW hx hW (rfl : kd 370 = 103) (by decide +kernel : idx (0 : Int32) 3 = some 0) dX12_wrongWith_123 ?_
    obtain ⟨r19, hr20, h⟩ := bnd h
    refine J_rdV hx (kX1_ofUnpacking  hW hr20) ml_X12_152 lk_X1_ofUnpacking (ci := 0) rfl (hW.obj (rfl : kd 73 = 11) (by decide) (by decide)) (rest := []) rfl rfl (by decide) (by decide) (Nat.le_of_ble_eq_true rfl) (Nat.le_refl 0) (Nat.le_refl 0) dX12_wrongWith_124 ?_
    exact J_iretR hx hr dX12_wrongWith_127 (Nat.le_refl 0) (Nat.le_refl 0) (Option.some.inj h)
  replace h := neg h h18
  by_cases h21 : (smv c1) = 7
  · replace h := pos h h21
    refine J_swIn hx 128 dX12_wrongWith_8 (by rw [h21]; decide) (by rw [h21]; decide) (by rw [h21]; rfl) rfl ?_
    refine J_al4 hx rfl rfl dX12_wrongWith_128 ?_
    refine g12_1 hx hW 73 (rfl : kd 0 = 1) fl_X12_21 rfl dX12_wrongWith_129 ?_
    refine J_al4 hx rfl rfl dX12_wrongWith_132 ?_
    refine J_iconst hx (0 : Int32) dX12_wrongWith_133 rfl ?_
    refine J_iaW hx hW (rfl : kd 370 = 103) (by decide +kernel : idx (0 : Int32) 3 = some 0) dX12_wrongWith_134 ?_
    refine J_al4 hx rfl rfl dX12_wrongWith_135 ?_
    refine J_iconst hx (1 : Int32) dX12_wrongWith_136 rfl ?_
    refine J_iaW hx hW (rfl : kd 370 = 103) (by decide +kernel : idx (1 : Int32) 3 = some 1) dX12_wrongWith_137 ?_
    refine J_iconst hx (-1 : Int32) dX12_wrongWith_138 rfl ?_
    obtain ⟨r22, hr23, h⟩ := bnd h
    refine J_rdV hx (kX1_ofSending  hW hr23) ml_X12_158 lk_X1_ofSending (ci := 0) rfl (hW.obj (rfl : kd 73 = 11) (by decide) (by decide)) (rest := []) rfl rfl (by decide) (by decide) (Nat.le_of_ble_eq_true rfl) (Nat.le_refl 0) (Nat.le_refl 0) dX12_wrongWith_139 ?_
    exact J_iretR hx hr dX12_wrongWith_142 (Nat.le_refl 0) (Nat.le_refl 0) (Option.some.inj h)
  replace h := neg h h21
  by_cases h24 : (smv c1) = 8
  · replace h := pos h h24
    refine J_swIn hx 143 dX12_wrongWith_8 (by rw [h24]; decide) (by rw [h24]; decide) (by rw [h24]; rfl) rfl ?_
    refine J_al4 hx rfl rfl dX12_wrongWith_143 ?_
    refine g12_1 hx hW 73 (rfl : kd 0 = 1) fl_X12_21 rfl dX12_wrongWith_144 ?_
    refine J_al4 hx rfl rfl dX12_wrongWith_147 ?_
    refine J_iconst hx (0 : Int32) dX12_wrongWith_148 rfl ?_
    refine J_iaW hx hW (rfl : kd 370 = 103) (by decide +kernel : idx (0 : Int32) 3 = some 0) dX12_wrongWith_149 ?_
    refine J_al4 hx rfl rfl dX12_wrongWith_150 ?_
    refine J_iconst hx (1 : Int32) dX12_wrongWith_151 rfl ?_
    refine J_iaW hx hW (rfl : kd 370 = 103) (by decide +kernel : idx (1 : Int32) 3 = some 1) dX12_wrongWith_152 ?_
    refine J_al4 hx rfl rfl dX12_wrongWith_153 ?_
    refine J_iconst hx (2 : Int32) dX12_wrongWith_154 rfl ?_
    refine J_iaW hx hW (rfl : kd 370 = 103) (by decide +kernel : idx (2 : Int32) 3 = some 2) dX12_wrongWith_155 ?_
    obtain ⟨r25, hr26, h⟩ := bnd h
    refine J_rdV hx (kX1_ofSending  hW hr26) ml_X12_158 lk_X1_ofSending (ci := 0) rfl (hW.obj (rfl : kd 73 = 11) (by decide) (by decide)) (rest := []) rfl rfl (by decide) (by decide) (Nat.le_of_ble_eq_true rfl) (Nat.le_refl 0) (Nat.le_refl 0) dX12_wrongWith_156 ?_
    exact J_iretR hx hr dX12_wrongWith_159 (Nat.le_refl 0) (Nat.le_refl 0) (Option.some.inj h)
  replace h := neg h h24
  refine J_swOut hx 160 dX12_wrongWith_8 (swD fun j jl jh e => by
      have hj : j = 1 ∨ j = 2 ∨ j = 3 ∨ j = 4 ∨ j = 5 ∨ j = 6 ∨ j = 7 ∨ j = 8 := by omega
      rcases hj with rfl | rfl | rfl | rfl | rfl | rfl | rfl | rfl <;> first | exact h3 e | exact h6 e | exact h9 e | exact h12 e | exact h15 e | exact h18 e | exact h21 e | exact h24 e) rfl ?_
  refine J_al4 hx rfl rfl dX12_wrongWith_160 ?_
  refine g12_1 hx hW 73 (rfl : kd 0 = 1) fl_X12_21 rfl dX12_wrongWith_161 ?_
  refine J_al4 hx rfl rfl dX12_wrongWith_164 ?_
  refine J_iconst hx (0 : Int32) dX12_wrongWith_165 rfl ?_
  refine J_iaW hx hW (rfl : kd 370 = 103) (by decide +kernel : idx (0 : Int32) 3 = some 0) dX12_wrongWith_166 ?_
  obtain ⟨r27, hr28, h⟩ := bnd h
  refine J_rdV hx (kX1_ofWaiting  hW hr28) ml_X12_164 lk_X1_ofWaiting (ci := 0) rfl (hW.obj (rfl : kd 73 = 11) (by decide) (by decide)) (rest := []) rfl rfl (by decide) (by decide) (Nat.le_of_ble_eq_true rfl) (Nat.le_refl 0) (Nat.le_refl 0) dX12_wrongWith_167 ?_
  exact J_iretR hx hr dX12_wrongWith_170 (Nat.le_refl 0) (Nat.le_refl 0) (Option.some.inj h)
theorem dX12_perform_0 : decode cX12_perform 0 = .ok (.getstatic 329, 3) := by decide +kernel
theorem dX12_perform_3 : decode cX12_perform 3 = .ok (.aload_n 1, 1) := by decide +kernel
theorem dX12_perform_4 : decode cX12_perform 4 = .ok (.invokevirtual 334, 3) := by decide +kernel
theorem dX12_perform_7 : decode cX12_perform 7 = .ok (.iaload, 1) := by decide +kernel
theorem dX12_perform_8 : decode cX12_perform 8 = .ok (.tableswitch 152 1 8 #[48, 59, 70, 84, 95, 109, 120, 135], 48) := by decide +kernel
theorem dX12_perform_56 : decode cX12_perform 56 = .ok (.aload_n 0, 1) := by decide +kernel
theorem dX12_perform_57 : decode cX12_perform 57 = .ok (.getfield 28, 3) := by decide +kernel
theorem dX12_perform_60 : decode cX12_perform 60 = .ok (.aload_n 2, 1) := by decide +kernel
theorem dX12_perform_61 : decode cX12_perform 61 = .ok (.iconst 0, 1) := by decide +kernel
theorem dX12_perform_62 : decode cX12_perform 62 = .ok (.iaload, 1) := by decide +kernel
theorem dX12_perform_63 : decode cX12_perform 63 = .ok (.invokevirtual 125, 3) := by decide +kernel
theorem dX12_perform_66 : decode cX12_perform 66 = .ok (.ireturn, 1) := by decide +kernel
theorem dX12_perform_67 : decode cX12_perform 67 = .ok (.aload_n 0, 1) := by decide +kernel
theorem dX12_perform_68 : decode cX12_perform 68 = .ok (.getfield 28, 3) := by decide +kernel
theorem dX12_perform_71 : decode cX12_perform 71 = .ok (.aload_n 2, 1) := by decide +kernel
theorem dX12_perform_72 : decode cX12_perform 72 = .ok (.iconst 0, 1) := by decide +kernel
theorem dX12_perform_73 : decode cX12_perform 73 = .ok (.iaload, 1) := by decide +kernel
theorem dX12_perform_74 : decode cX12_perform 74 = .ok (.invokevirtual 131, 3) := by decide +kernel
theorem dX12_perform_77 : decode cX12_perform 77 = .ok (.ireturn, 1) := by decide +kernel
theorem dX12_perform_78 : decode cX12_perform 78 = .ok (.aload_n 0, 1) := by decide +kernel
theorem dX12_perform_79 : decode cX12_perform 79 = .ok (.getfield 28, 3) := by decide +kernel
theorem dX12_perform_82 : decode cX12_perform 82 = .ok (.aload_n 2, 1) := by decide +kernel
theorem dX12_perform_83 : decode cX12_perform 83 = .ok (.iconst 0, 1) := by decide +kernel
theorem dX12_perform_84 : decode cX12_perform 84 = .ok (.iaload, 1) := by decide +kernel
theorem dX12_perform_85 : decode cX12_perform 85 = .ok (.aload_n 2, 1) := by decide +kernel
theorem dX12_perform_86 : decode cX12_perform 86 = .ok (.iconst 1, 1) := by decide +kernel
theorem dX12_perform_87 : decode cX12_perform 87 = .ok (.iaload, 1) := by decide +kernel
theorem dX12_perform_88 : decode cX12_perform 88 = .ok (.invokevirtual 137, 3) := by decide +kernel
theorem dX12_perform_91 : decode cX12_perform 91 = .ok (.ireturn, 1) := by decide +kernel
theorem dX12_perform_92 : decode cX12_perform 92 = .ok (.aload_n 0, 1) := by decide +kernel
theorem dX12_perform_93 : decode cX12_perform 93 = .ok (.getfield 28, 3) := by decide +kernel
theorem dX12_perform_96 : decode cX12_perform 96 = .ok (.aload_n 2, 1) := by decide +kernel
theorem dX12_perform_97 : decode cX12_perform 97 = .ok (.iconst 0, 1) := by decide +kernel
theorem dX12_perform_98 : decode cX12_perform 98 = .ok (.iaload, 1) := by decide +kernel
theorem dX12_perform_99 : decode cX12_perform 99 = .ok (.invokevirtual 143, 3) := by decide +kernel
theorem dX12_perform_102 : decode cX12_perform 102 = .ok (.ireturn, 1) := by decide +kernel
theorem dX12_perform_103 : decode cX12_perform 103 = .ok (.aload_n 0, 1) := by decide +kernel
theorem dX12_perform_104 : decode cX12_perform 104 = .ok (.getfield 28, 3) := by decide +kernel
theorem dX12_perform_107 : decode cX12_perform 107 = .ok (.aload_n 2, 1) := by decide +kernel
theorem dX12_perform_108 : decode cX12_perform 108 = .ok (.iconst 0, 1) := by decide +kernel
theorem dX12_perform_109 : decode cX12_perform 109 = .ok (.iaload, 1) := by decide +kernel
theorem dX12_perform_110 : decode cX12_perform 110 = .ok (.aload_n 2, 1) := by decide +kernel
theorem dX12_perform_111 : decode cX12_perform 111 = .ok (.iconst 1, 1) := by decide +kernel
theorem dX12_perform_112 : decode cX12_perform 112 = .ok (.iaload, 1) := by decide +kernel
theorem dX12_perform_113 : decode cX12_perform 113 = .ok (.invokevirtual 149, 3) := by decide +kernel
theorem dX12_perform_116 : decode cX12_perform 116 = .ok (.ireturn, 1) := by decide +kernel
theorem dX12_perform_117 : decode cX12_perform 117 = .ok (.aload_n 0, 1) := by decide +kernel
theorem dX12_perform_118 : decode cX12_perform 118 = .ok (.getfield 28, 3) := by decide +kernel
theorem dX12_perform_121 : decode cX12_perform 121 = .ok (.aload_n 2, 1) := by decide +kernel
theorem dX12_perform_122 : decode cX12_perform 122 = .ok (.iconst 0, 1) := by decide +kernel
theorem dX12_perform_123 : decode cX12_perform 123 = .ok (.iaload, 1) := by decide +kernel
theorem dX12_perform_124 : decode cX12_perform 124 = .ok (.invokevirtual 155, 3) := by decide +kernel
theorem dX12_perform_127 : decode cX12_perform 127 = .ok (.ireturn, 1) := by decide +kernel
theorem dX12_perform_128 : decode cX12_perform 128 = .ok (.aload_n 0, 1) := by decide +kernel
theorem dX12_perform_129 : decode cX12_perform 129 = .ok (.getfield 28, 3) := by decide +kernel
theorem dX12_perform_132 : decode cX12_perform 132 = .ok (.aload_n 2, 1) := by decide +kernel
theorem dX12_perform_133 : decode cX12_perform 133 = .ok (.iconst 0, 1) := by decide +kernel
theorem dX12_perform_134 : decode cX12_perform 134 = .ok (.iaload, 1) := by decide +kernel
theorem dX12_perform_135 : decode cX12_perform 135 = .ok (.aload_n 2, 1) := by decide +kernel
theorem dX12_perform_136 : decode cX12_perform 136 = .ok (.iconst 1, 1) := by decide +kernel
theorem dX12_perform_137 : decode cX12_perform 137 = .ok (.iaload, 1) := by decide +kernel
theorem dX12_perform_138 : decode cX12_perform 138 = .ok (.iconst (-1), 1) := by decide +kernel
theorem dX12_perform_139 : decode cX12_perform 139 = .ok (.invokevirtual 161, 3) := by decide +kernel
theorem dX12_perform_142 : decode cX12_perform 142 = .ok (.ireturn, 1) := by decide +kernel
theorem dX12_perform_143 : decode cX12_perform 143 = .ok (.aload_n 0, 1) := by decide +kernel
theorem dX12_perform_144 : decode cX12_perform 144 = .ok (.getfield 28, 3) := by decide +kernel
theorem dX12_perform_147 : decode cX12_perform 147 = .ok (.aload_n 2, 1) := by decide +kernel
theorem dX12_perform_148 : decode cX12_perform 148 = .ok (.iconst 0, 1) := by decide +kernel
theorem dX12_perform_149 : decode cX12_perform 149 = .ok (.iaload, 1) := by decide +kernel
theorem dX12_perform_150 : decode cX12_perform 150 = .ok (.aload_n 2, 1) := by decide +kernel
theorem dX12_perform_151 : decode cX12_perform 151 = .ok (.iconst 1, 1) := by decide +kernel
theorem dX12_perform_152 : decode cX12_perform 152 = .ok (.iaload, 1) := by decide +kernel
theorem dX12_perform_153 : decode cX12_perform 153 = .ok (.aload_n 2, 1) := by decide +kernel
theorem dX12_perform_154 : decode cX12_perform 154 = .ok (.iconst 2, 1) := by decide +kernel
theorem dX12_perform_155 : decode cX12_perform 155 = .ok (.iaload, 1) := by decide +kernel
theorem dX12_perform_156 : decode cX12_perform 156 = .ok (.invokevirtual 161, 3) := by decide +kernel
theorem dX12_perform_159 : decode cX12_perform 159 = .ok (.ireturn, 1) := by decide +kernel
theorem dX12_perform_160 : decode cX12_perform 160 = .ok (.aload_n 0, 1) := by decide +kernel
theorem dX12_perform_161 : decode cX12_perform 161 = .ok (.getfield 28, 3) := by decide +kernel
theorem dX12_perform_164 : decode cX12_perform 164 = .ok (.aload_n 2, 1) := by decide +kernel
theorem dX12_perform_165 : decode cX12_perform 165 = .ok (.iconst 0, 1) := by decide +kernel
theorem dX12_perform_166 : decode cX12_perform 166 = .ok (.iaload, 1) := by decide +kernel
theorem dX12_perform_167 : decode cX12_perform 167 = .ok (.invokevirtual 167, 3) := by decide +kernel
theorem dX12_perform_170 : decode cX12_perform 170 = .ok (.ireturn, 1) := by decide +kernel
def sX12_perform (w : Wl) (d1 : Nat) : Option (Int32 × Wl) := (idx (Int32.ofNat d1) 9).bind (fun c1 => (if (smv c1) = 1 then (sX4_openCrate w (w 370 0)).bind (fun r4 => some (r4.1, r4.2)) else (if (smv c1) = 2 then (sX4_closeCrate w (w 370 0)).bind (fun r9 => some (r9.1, r9.2)) else (if (smv c1) = 3 then (sX4_putCrateInto w (w 370 0) (w 370 1)).bind (fun r14 => some (r14.1, r14.2)) else (if (smv c1) = 4 then (sX4_takeCrateOut w (w 370 0)).bind (fun r19 => some (r19.1, r19.2)) else (if (smv c1) = 5 then (sX4_packWork w (w 370 0) (w 370 1)).bind (fun r24 => some (r24.1, r24.2)) else (if (smv c1) = 6 then (sX4_unpackWork w (w 370 0)).bind (fun r29 => some (r29.1, r29.2)) else (if (smv c1) = 7 then (sX4_sendCrate w (w 370 0) (w 370 1) (-1 : Int32)).bind (fun r34 => some (r34.1, r34.2)) else (if (smv c1) = 8 then (sX4_sendCrate w (w 370 0) (w 370 1) (w 370 2)).bind (fun r39 => some (r39.1, r39.2)) else (sX4_letHoursPass w (w 370 0)).bind (fun r43 => some (r43.1, r43.2)))))))))))
theorem kX12_perform {l : Launch} {Γ : Gl} {B : Bs} {w : Wl} {G : Gf} {sz : Nat} {d1 : Nat} {r : (Int32 × Wl)} (hd1 : d1 < 9) (hC : GC Γ B) (hW : Wd Γ B w G) (h : sX12_perform w d1 = some r) : CtW l Γ yX12_perform cX12_perform 3 (some .int) 5 [.ref (B.1 + 0), .ref (B.2 d1), .ref (B.1 + 370)] G sz B (some (.int (r.1))) r.2 := by
  refine Ct.of rfl (Nat.le_of_ble_eq_true rfl) fun X hx hr hl hΓ hnm => ?_
  subst hl hΓ
  show J X 3 G sz 0 0 0 [some (.ref (B.1 + 0)), some (.ref (B.2 d1)), some (.ref (B.1 + 370))] []
  unfold sX12_perform at h
  refine J_gets hx (hx.kc hC).z2 fl_X12_329 dX12_perform_0 ?_
  refine J_al4 hx rfl rfl dX12_perform_3 ?_
  refine J_callU hx (kJx29ce0_ordinal_8abf5 hd1 hC) rfl oU oC ⟨by decide +kernel, by decide +kernel, by decide +kernel⟩ ((hx.kc hC).wd _ hd1).1 (rest := [.ref (B.2 11)]) rfl rfl (by decide) (by decide) (Nat.le_of_ble_eq_true rfl) (Nat.le_refl 0) (Nat.le_refl 0) dX12_perform_4 ?_
  obtain ⟨c1, hc2, h⟩ := bnd h
  refine J_tiald hx (hx.kc hC).t2 hc2 dX12_perform_7 ?_
  by_cases h3 : (smv c1) = 1
  · replace h := pos h h3
    refine J_swIn hx 56 dX12_perform_8 (by rw [h3]; decide) (by rw [h3]; decide) (by rw [h3]; rfl) rfl ?_
    refine J_al4 hx rfl rfl dX12_perform_56 ?_
    refine g12_2 hx hW 74 (rfl : kd 0 = 1) fl_X12_28 rfl dX12_perform_57 ?_
    refine J_al4 hx rfl rfl dX12_perform_60 ?_
    refine J_iconst hx (0 : Int32) dX12_perform_61 rfl ?_
    refine J_iaW hx hW (rfl : kd 370 = 103) (by decide +kernel : idx (0 : Int32) 3 = some 0) dX12_perform_62 ?_
    obtain ⟨r4, hr5, h⟩ := bnd h
    refine J_wrV hx (kX4_openCrate  hW hr5) ml_X12_125 lk_X4_openCrate (ci := 3) rfl (hW.obj (rfl : kd 74 = 12) (by decide) (by decide)) (rest := []) rfl rfl (by decide) (by decide) (Nat.le_of_ble_eq_true rfl) (Nat.le_refl 0) (Nat.le_refl 0) dX12_perform_63 fun G6 hW7 => ?_
    show J X 3 G6 sz 0 0 66 [some (.ref (B.1 + 0)), some (.ref (B.2 d1)), some (.ref (B.1 + 370))] [.int r4.1]
    obtain rfl := Option.some.inj h
    exact J_iretW hx hr hW7 dX12_perform_66 (Nat.le_refl 0) (Nat.le_refl 0)
  replace h := neg h h3
  by_cases h8 : (smv c1) = 2
  · replace h := pos h h8
    refine J_swIn hx 67 dX12_perform_8 (by rw [h8]; decide) (by rw [h8]; decide) (by rw [h8]; rfl) rfl ?_
    refine J_al4 hx rfl rfl dX12_perform_67 ?_
    refine g12_2 hx hW 74 (rfl : kd 0 = 1) fl_X12_28 rfl dX12_perform_68 ?_
    refine J_al4 hx rfl rfl dX12_perform_71 ?_
    refine J_iconst hx (0 : Int32) dX12_perform_72 rfl ?_
    refine J_iaW hx hW (rfl : kd 370 = 103) (by decide +kernel : idx (0 : Int32) 3 = some 0) dX12_perform_73 ?_
    obtain ⟨r9, hr10, h⟩ := bnd h
    refine J_wrV hx (kX4_closeCrate  hW hr10) ml_X12_131 lk_X4_closeCrate (ci := 3) rfl (hW.obj (rfl : kd 74 = 12) (by decide) (by decide)) (rest := []) rfl rfl (by decide) (by decide) (Nat.le_of_ble_eq_true rfl) (Nat.le_refl 0) (Nat.le_refl 0) dX12_perform_74 fun G11 hW12 => ?_
    show J X 3 G11 sz 0 0 77 [some (.ref (B.1 + 0)), some (.ref (B.2 d1)), some (.ref (B.1 + 370))] [.int r9.1]
    obtain rfl := Option.some.inj h
    exact J_iretW hx hr hW12 dX12_perform_77 (Nat.le_refl 0) (Nat.le_refl 0)
  replace h := neg h h8
  by_cases h13 : (smv c1) = 3
  · replace h := pos h h13
    refine J_swIn hx 78 dX12_perform_8 (by rw [h13]; decide) (by rw [h13]; decide) (by rw [h13]; rfl) rfl ?_
    refine J_al4 hx rfl rfl dX12_perform_78 ?_
    refine g12_2 hx hW 74 (rfl : kd 0 = 1) fl_X12_28 rfl dX12_perform_79 ?_
    refine J_al4 hx rfl rfl dX12_perform_82 ?_
    refine J_iconst hx (0 : Int32) dX12_perform_83 rfl ?_
    refine J_iaW hx hW (rfl : kd 370 = 103) (by decide +kernel : idx (0 : Int32) 3 = some 0) dX12_perform_84 ?_
    refine J_al4 hx rfl rfl dX12_perform_85 ?_
    refine J_iconst hx (1 : Int32) dX12_perform_86 rfl ?_
    refine J_iaW hx hW (rfl : kd 370 = 103) (by decide +kernel : idx (1 : Int32) 3 = some 1) dX12_perform_87 ?_
    obtain ⟨r14, hr15, h⟩ := bnd h
    refine J_wrV hx (kX4_putCrateInto  hW hr15) ml_X12_137 lk_X4_putCrateInto (ci := 3) rfl (hW.obj (rfl : kd 74 = 12) (by decide) (by decide)) (rest := []) rfl rfl (by decide) (by decide) (Nat.le_of_ble_eq_true rfl) (Nat.le_refl 0) (Nat.le_refl 0) dX12_perform_88 fun G16 hW17 => ?_
    show J X 3 G16 sz 0 0 91 [some (.ref (B.1 + 0)), some (.ref (B.2 d1)), some (.ref (B.1 + 370))] [.int r14.1]
    obtain rfl := Option.some.inj h
    exact J_iretW hx hr hW17 dX12_perform_91 (Nat.le_refl 0) (Nat.le_refl 0)
  replace h := neg h h13
  by_cases h18 : (smv c1) = 4
  · replace h := pos h h18
    refine J_swIn hx 92 dX12_perform_8 (by rw [h18]; decide) (by rw [h18]; decide) (by rw [h18]; rfl) rfl ?_
    refine J_al4 hx rfl rfl dX12_perform_92 ?_
    refine g12_2 hx hW 74 (rfl : kd 0 = 1) fl_X12_28 rfl dX12_perform_93 ?_
    refine J_al4 hx rfl rfl dX12_perform_96 ?_
    refine J_iconst hx (0 : Int32) dX12_perform_97 rfl ?_
    refine J_iaW hx hW (rfl : kd 370 = 103) (by decide +kernel : idx (0 : Int32) 3 = some 0) dX12_perform_98 ?_
    obtain ⟨r19, hr20, h⟩ := bnd h
    refine J_wrV hx (kX4_takeCrateOut  hW hr20) ml_X12_143 lk_X4_takeCrateOut (ci := 3) rfl (hW.obj (rfl : kd 74 = 12) (by decide) (by decide)) (rest := []) rfl rfl (by decide) (by decide) (Nat.le_of_ble_eq_true rfl) (Nat.le_refl 0) (Nat.le_refl 0) dX12_perform_99 fun G21 hW22 => ?_
    show J X 3 G21 sz 0 0 102 [some (.ref (B.1 + 0)), some (.ref (B.2 d1)), some (.ref (B.1 + 370))] [.int r19.1]
    obtain rfl := Option.some.inj h
    exact J_iretW hx hr hW22 dX12_perform_102 (Nat.le_refl 0) (Nat.le_refl 0)
  replace h := neg h h18
  by_cases h23 : (smv c1) = 5
  · replace h := pos h h23
    refine J_swIn hx 103 dX12_perform_8 (by rw [h23]; decide) (by rw [h23]; decide) (by rw [h23]; rfl) rfl ?_
    refine J_al4 hx rfl rfl dX12_perform_103 ?_
    refine g12_2 hx hW 74 (rfl : kd 0 = 1) fl_X12_28 rfl dX12_perform_104 ?_
    refine J_al4 hx rfl rfl dX12_perform_107 ?_
    refine J_iconst hx (0 : Int32) dX12_perform_108 rfl ?_
    refine J_iaW hx hW (rfl : kd 370 = 103) (by decide +kernel : idx (0 : Int32) 3 = some 0) dX12_perform_109 ?_
    refine J_al4 hx rfl rfl dX12_perform_110 ?_
    refine J_iconst hx (1 : Int32) dX12_perform_111 rfl ?_
    refine J_iaW hx hW (rfl : kd 370 = 103) (by decide +kernel : idx (1 : Int32) 3 = some 1) dX12_perform_112 ?_
    obtain ⟨r24, hr25, h⟩ := bnd h
    refine J_wrV hx (kX4_packWork  hW hr25) ml_X12_149 lk_X4_packWork (ci := 3) rfl (hW.obj (rfl : kd 74 = 12) (by decide) (by decide)) (rest := []) rfl rfl (by decide) (by decide) (Nat.le_of_ble_eq_true rfl) (Nat.le_refl 0) (Nat.le_refl 0) dX12_perform_113 fun G26 hW27 => ?_
    show J X 3 G26 sz 0 0 116 [some (.ref (B.1 + 0)), some (.ref (B.2 d1)), some (.ref (B.1 + 370))] [.int r24.1]
    obtain rfl := Option.some.inj h
    exact J_iretW hx hr hW27 dX12_perform_116 (Nat.le_refl 0) (Nat.le_refl 0)
  replace h := neg h h23
  by_cases h28 : (smv c1) = 6
  · replace h := pos h h28
    refine J_swIn hx 117 dX12_perform_8 (by rw [h28]; decide) (by rw [h28]; decide) (by rw [h28]; rfl) rfl ?_
    refine J_al4 hx rfl rfl dX12_perform_117 ?_
    refine g12_2 hx hW 74 (rfl : kd 0 = 1) fl_X12_28 rfl dX12_perform_118 ?_
    refine J_al4 hx rfl rfl dX12_perform_121 ?_
    refine J_iconst hx (0 : Int32) dX12_perform_122 rfl ?_
    refine J_iaW hx hW (rfl : kd 370 = 103) (by decide +kernel : idx (0 : Int32) 3 = some 0) dX12_perform_123 ?_
    obtain ⟨r29, hr30, h⟩ := bnd h
    refine J_wrV hx (kX4_unpackWork  hW hr30) ml_X12_155 lk_X4_unpackWork (ci := 3) rfl (hW.obj (rfl : kd 74 = 12) (by decide) (by decide)) (rest := []) rfl rfl (by decide) (by decide) (Nat.le_of_ble_eq_true rfl) (Nat.le_refl 0) (Nat.le_refl 0) dX12_perform_124 fun G31 hW32 => ?_
    show J X 3 G31 sz 0 0 127 [some (.ref (B.1 + 0)), some (.ref (B.2 d1)), some (.ref (B.1 + 370))] [.int r29.1]
    obtain rfl := Option.some.inj h
    exact J_iretW hx hr hW32 dX12_perform_127 (Nat.le_refl 0) (Nat.le_refl 0)
  replace h := neg h h28
  by_cases h33 : (smv c1) = 7
  · replace h := pos h h33
    refine J_swIn hx 128 dX12_perform_8 (by rw [h33]; decide) (by rw [h33]; decide) (by rw [h33]; rfl) rfl ?_
    refine J_al4 hx rfl rfl dX12_perform_128 ?_
    refine g12_2 hx hW 74 (rfl : kd 0 = 1) fl_X12_28 rfl dX12_perform_129 ?_
    refine J_al4 hx rfl rfl dX12_perform_132 ?_
    refine J_iconst hx (0 : Int32) dX12_perform_133 rfl ?_
    refine J_iaW hx hW (rfl : kd 370 = 103) (by decide +kernel : idx (0 : Int32) 3 = some 0) dX12_perform_134 ?_
    refine J_al4 hx rfl rfl dX12_perform_135 ?_
    refine J_iconst hx (1 : Int32) dX12_perform_136 rfl ?_
    refine J_iaW hx hW (rfl : kd 370 = 103) (by decide +kernel : idx (1 : Int32) 3 = some 1) dX12_perform_137 ?_
    refine J_iconst hx (-1 : Int32) dX12_perform_138 rfl ?_
    obtain ⟨r34, hr35, h⟩ := bnd h
    refine J_wrV hx (kX4_sendCrate  hW hr35) ml_X12_161 lk_X4_sendCrate (ci := 3) rfl (hW.obj (rfl : kd 74 = 12) (by decide) (by decide)) (rest := []) rfl rfl (by decide) (by decide) (Nat.le_of_ble_eq_true rfl) (Nat.le_refl 0) (Nat.le_refl 0) dX12_perform_139 fun G36 hW37 => ?_
    show J X 3 G36 sz 0 0 142 [some (.ref (B.1 + 0)), some (.ref (B.2 d1)), some (.ref (B.1 + 370))] [.int r34.1]
    obtain rfl := Option.some.inj h
    exact J_iretW hx hr hW37 dX12_perform_142 (Nat.le_refl 0) (Nat.le_refl 0)
  replace h := neg h h33
  by_cases h38 : (smv c1) = 8
  · replace h := pos h h38
    refine J_swIn hx 143 dX12_perform_8 (by rw [h38]; decide) (by rw [h38]; decide) (by rw [h38]; rfl) rfl ?_
    refine J_al4 hx rfl rfl dX12_perform_143 ?_
    refine g12_2 hx hW 74 (rfl : kd 0 = 1) fl_X12_28 rfl dX12_perform_144 ?_
    refine J_al4 hx rfl rfl dX12_perform_147 ?_
    refine J_iconst hx (0 : Int32) dX12_perform_148 rfl ?_
    refine J_iaW hx hW (rfl : kd 370 = 103) (by decide +kernel : idx (0 : Int32) 3 = some 0) dX12_perform_149 ?_
    refine J_al4 hx rfl rfl dX12_perform_150 ?_
    refine J_iconst hx (1 : Int32) dX12_perform_151 rfl ?_
    refine J_iaW hx hW (rfl : kd 370 = 103) (by decide +kernel : idx (1 : Int32) 3 = some 1) dX12_perform_152 ?_
    refine J_al4 hx rfl rfl dX12_perform_153 ?_
    refine J_iconst hx (2 : Int32) dX12_perform_154 rfl ?_
    refine J_iaW hx hW (rfl : kd 370 = 103) (by decide +kernel : idx (2 : Int32) 3 = some 2) dX12_perform_155 ?_
    obtain ⟨r39, hr40, h⟩ := bnd h
    refine J_wrV hx (kX4_sendCrate  hW hr40) ml_X12_161 lk_X4_sendCrate (ci := 3) rfl (hW.obj (rfl : kd 74 = 12) (by decide) (by decide)) (rest := []) rfl rfl (by decide) (by decide) (Nat.le_of_ble_eq_true rfl) (Nat.le_refl 0) (Nat.le_refl 0) dX12_perform_156 fun G41 hW42 => ?_
    show J X 3 G41 sz 0 0 159 [some (.ref (B.1 + 0)), some (.ref (B.2 d1)), some (.ref (B.1 + 370))] [.int r39.1]
    obtain rfl := Option.some.inj h
    exact J_iretW hx hr hW42 dX12_perform_159 (Nat.le_refl 0) (Nat.le_refl 0)
  replace h := neg h h38
  refine J_swOut hx 160 dX12_perform_8 (swD fun j jl jh e => by
      have hj : j = 1 ∨ j = 2 ∨ j = 3 ∨ j = 4 ∨ j = 5 ∨ j = 6 ∨ j = 7 ∨ j = 8 := by omega
      rcases hj with rfl | rfl | rfl | rfl | rfl | rfl | rfl | rfl <;> first | exact h3 e | exact h8 e | exact h13 e | exact h18 e | exact h23 e | exact h28 e | exact h33 e | exact h38 e) rfl ?_
  refine J_al4 hx rfl rfl dX12_perform_160 ?_
  refine g12_2 hx hW 74 (rfl : kd 0 = 1) fl_X12_28 rfl dX12_perform_161 ?_
  refine J_al4 hx rfl rfl dX12_perform_164 ?_
  refine J_iconst hx (0 : Int32) dX12_perform_165 rfl ?_
  refine J_iaW hx hW (rfl : kd 370 = 103) (by decide +kernel : idx (0 : Int32) 3 = some 0) dX12_perform_166 ?_
  obtain ⟨r43, hr44, h⟩ := bnd h
  refine J_wrV hx (kX4_letHoursPass  hW hr44) ml_X12_167 lk_X4_letHoursPass (ci := 3) rfl (hW.obj (rfl : kd 74 = 12) (by decide) (by decide)) (rest := []) rfl rfl (by decide) (by decide) (Nat.le_of_ble_eq_true rfl) (Nat.le_refl 0) (Nat.le_refl 0) dX12_perform_167 fun G45 hW46 => ?_
  show J X 3 G45 sz 0 0 170 [some (.ref (B.1 + 0)), some (.ref (B.2 d1)), some (.ref (B.1 + 370))] [.int r43.1]
  obtain rfl := Option.some.inj h
  exact J_iretW hx hr hW46 dX12_perform_170 (Nat.le_refl 0) (Nat.le_refl 0)
theorem dX12_runCommands_0 : decode cX12_runCommands 0 = .ok (.aload_n 0, 1) := by decide +kernel
theorem dX12_runCommands_1 : decode cX12_runCommands 1 = .ok (.getfield 58, 3) := by decide +kernel
theorem dX12_runCommands_4 : decode cX12_runCommands 4 = .ok (.invokevirtual 251, 3) := by decide +kernel
theorem dX12_runCommands_7 : decode cX12_runCommands 7 = .ok (.istore_n 1, 1) := by decide +kernel
theorem dX12_runCommands_8 : decode cX12_runCommands 8 = .ok (.iload_n 1, 1) := by decide +kernel
theorem dX12_runCommands_9 : decode cX12_runCommands 9 = .ok (.iconst (-1), 1) := by decide +kernel
theorem dX12_runCommands_10 : decode cX12_runCommands 10 = .ok (.if_icmp .eq 8, 3) := by decide +kernel
theorem dX12_runCommands_13 : decode cX12_runCommands 13 = .ok (.bipush (-10), 2) := by decide +kernel
theorem dX12_runCommands_15 : decode cX12_runCommands 15 = .ok (.iload_n 1, 1) := by decide +kernel
theorem dX12_runCommands_16 : decode cX12_runCommands 16 = .ok (.isub, 1) := by decide +kernel
theorem dX12_runCommands_17 : decode cX12_runCommands 17 = .ok (.ireturn, 1) := by decide +kernel
theorem dX12_runCommands_18 : decode cX12_runCommands 18 = .ok (.aload_n 0, 1) := by decide +kernel
theorem dX12_runCommands_19 : decode cX12_runCommands 19 = .ok (.getfield 51, 3) := by decide +kernel
theorem dX12_runCommands_22 : decode cX12_runCommands 22 = .ok (.aload_n 0, 1) := by decide +kernel
theorem dX12_runCommands_23 : decode cX12_runCommands 23 = .ok (.getfield 10, 3) := by decide +kernel
theorem dX12_runCommands_26 : decode cX12_runCommands 26 = .ok (.invokevirtual 70, 3) := by decide +kernel
theorem dX12_runCommands_29 : decode cX12_runCommands 29 = .ok (.iconst 0, 1) := by decide +kernel
theorem dX12_runCommands_30 : decode cX12_runCommands 30 = .ok (.istore_n 2, 1) := by decide +kernel
theorem dX12_runCommands_31 : decode cX12_runCommands 31 = .ok (.aload_n 0, 1) := by decide +kernel
theorem dX12_runCommands_32 : decode cX12_runCommands 32 = .ok (.getfield 58, 3) := by decide +kernel
theorem dX12_runCommands_35 : decode cX12_runCommands 35 = .ok (.invokevirtual 254, 3) := by decide +kernel
theorem dX12_runCommands_38 : decode cX12_runCommands 38 = .ok (.iload_n 2, 1) := by decide +kernel
theorem dX12_runCommands_39 : decode cX12_runCommands 39 = .ok (.sipush 150, 3) := by decide +kernel
theorem dX12_runCommands_42 : decode cX12_runCommands 42 = .ok (.if_icmp .ge 59, 3) := by decide +kernel
theorem dX12_runCommands_45 : decode cX12_runCommands 45 = .ok (.aload_n 0, 1) := by decide +kernel
theorem dX12_runCommands_46 : decode cX12_runCommands 46 = .ok (.getfield 58, 3) := by decide +kernel
theorem dX12_runCommands_49 : decode cX12_runCommands 49 = .ok (.invokevirtual 257, 3) := by decide +kernel
theorem dX12_runCommands_52 : decode cX12_runCommands 52 = .ok (.ifCond .eq 49, 3) := by decide +kernel
theorem dX12_runCommands_55 : decode cX12_runCommands 55 = .ok (.aload_n 0, 1) := by decide +kernel
theorem dX12_runCommands_56 : decode cX12_runCommands 56 = .ok (.aload_n 0, 1) := by decide +kernel
theorem dX12_runCommands_57 : decode cX12_runCommands 57 = .ok (.getfield 58, 3) := by decide +kernel
theorem dX12_runCommands_60 : decode cX12_runCommands 60 = .ok (.getfield 261, 3) := by decide +kernel
theorem dX12_runCommands_63 : decode cX12_runCommands 63 = .ok (.aload_n 0, 1) := by decide +kernel
theorem dX12_runCommands_64 : decode cX12_runCommands 64 = .ok (.getfield 58, 3) := by decide +kernel
theorem dX12_runCommands_67 : decode cX12_runCommands 67 = .ok (.getfield 265, 3) := by decide +kernel
theorem dX12_runCommands_70 : decode cX12_runCommands 70 = .ok (.invokevirtual 268, 3) := by decide +kernel
theorem dX12_runCommands_73 : decode cX12_runCommands 73 = .ok (.ifCond .ne 28, 3) := by decide +kernel
theorem dX12_runCommands_76 : decode cX12_runCommands 76 = .ok (.aload_n 0, 1) := by decide +kernel
theorem dX12_runCommands_77 : decode cX12_runCommands 77 = .ok (.aload_n 0, 1) := by decide +kernel
theorem dX12_runCommands_78 : decode cX12_runCommands 78 = .ok (.getfield 58, 3) := by decide +kernel
theorem dX12_runCommands_81 : decode cX12_runCommands 81 = .ok (.getfield 261, 3) := by decide +kernel
theorem dX12_runCommands_84 : decode cX12_runCommands 84 = .ok (.aload_n 0, 1) := by decide +kernel
theorem dX12_runCommands_85 : decode cX12_runCommands 85 = .ok (.getfield 58, 3) := by decide +kernel
theorem dX12_runCommands_88 : decode cX12_runCommands 88 = .ok (.getfield 265, 3) := by decide +kernel
theorem dX12_runCommands_91 : decode cX12_runCommands 91 = .ok (.invokevirtual 272, 3) := by decide +kernel
theorem dX12_runCommands_94 : decode cX12_runCommands 94 = .ok (.pop, 1) := by decide +kernel
theorem dX12_runCommands_95 : decode cX12_runCommands 95 = .ok (.iinc 2 1, 3) := by decide +kernel
theorem dX12_runCommands_98 : decode cX12_runCommands 98 = .ok (.goto (-60), 3) := by decide +kernel
theorem dX12_runCommands_101 : decode cX12_runCommands 101 = .ok (.iload_n 2, 1) := by decide +kernel
theorem dX12_runCommands_102 : decode cX12_runCommands 102 = .ok (.ireturn, 1) := by decide +kernel
def sX12_runCommands_38 : Nat → Wl → Int32 → Option (Int32 × Wl)
  | 0, _, _ => none
  | n + 1, w, l2 => (if (150 : Int32) ≤ l2 then some (l2, w) else (sX2_readNext w ).bind (fun r2 => (if r2.1 = true then (idx (r2.2 368 4) 9).bind (fun c7 => (sX12_wrongWith r2.2 c7).bind (fun r9 => (if r9 = 0 then (sX12_perform r2.2 c7).bind (fun r12 => sX12_runCommands_38 n r12.2 (l2 + 1)) else some (l2, r2.2)))) else some (l2, r2.2))))
theorem tX12_runCommands_38 {X : Cx} {B : Bs} {sz : Nat} {r : (Int32 × Wl)} (hx : Fx X cX12_runCommands 3 RX12 8 0 0) (hC : GC (xΓ X) B) (hr : Rt X (some .int) 0 0 (WΨ (xΓ X) B (some (.int (r.1))) r.2 sz)) : ∀ (n : Nat), ∀ (w : Wl) (l2 : Int32) {G : Gf} (hW : Wd (xΓ X) B w G) (h : sX12_runCommands_38 n w l2 = some r), J X 3 G sz 0 0 38 [some (.ref (B.1 + 0)), none, some (.int l2)] [] := by
  intro n
  induction n with
  | zero => intro w l2 G hW h; rw [sX12_runCommands_38.eq_1] at h; cases h
  | succ n ih =>
    intro w l2 G hW h
    rw [sX12_runCommands_38.eq_2] at h
    refine J_il4 hx rfl rfl dX12_runCommands_38 ?_
    refine J_sipush hx (150 : Int32) dX12_runCommands_39 rfl ?_
    refine J_icmp_ge hx 101 dX12_runCommands_42 rfl (fun h1 => ?_) (fun h1 => ?_)
    · replace h := pos h h1
      refine J_il4 hx rfl rfl dX12_runCommands_101 ?_
      obtain rfl := Option.some.inj h
      exact J_iretW hx hr hW dX12_runCommands_102 (Nat.le_refl 0) (Nat.le_refl 0)
    · replace h := neg h h1
      refine J_al4 hx rfl rfl dX12_runCommands_45 ?_
      refine g12_6 hx hW 368 (rfl : kd 0 = 1) fl_X12_58 rfl dX12_runCommands_46 ?_
      obtain ⟨r2, hr3, h⟩ := bnd h
      refine J_wrV hx (kX2_readNext  hC hW hr3) ml_X12_257 lk_X2_readNext (ci := 1) rfl (hW.obj (rfl : kd 368 = 17) (by decide) (by decide)) (rest := []) rfl rfl (by decide) (by decide) (Nat.le_of_ble_eq_true rfl) (Nat.le_refl 0) (Nat.le_refl 0) dX12_runCommands_49 fun G4 hW5 => ?_
      show J X 3 G4 sz 0 0 52 [some (.ref (B.1 + 0)), none, some (.int l2)] [.int (bI r2.1)]
      refine J_bif_eq hx 101 dX12_runCommands_52 rfl (fun h6 => ?_) (fun h6 => ?_)
      · replace h := neg h (bft h6)
        refine J_il4 hx rfl rfl dX12_runCommands_101 ?_
        obtain rfl := Option.some.inj h
        exact J_iretW hx hr hW5 dX12_runCommands_102 (Nat.le_refl 0) (Nat.le_refl 0)
      · replace h := pos h h6
        refine J_al4 hx rfl rfl dX12_runCommands_55 ?_
        refine J_al4 hx rfl rfl dX12_runCommands_56 ?_
        refine g12_6 hx hW5 368 (rfl : kd 0 = 1) fl_X12_58 rfl dX12_runCommands_57 ?_
        obtain ⟨c7, hc8, h⟩ := bnd h
        refine gW2_4 hx hW5 (rfl : kd 368 = 17) fl_X12_261 hc8 dX12_runCommands_60 ?_
        refine J_al4 hx rfl rfl dX12_runCommands_63 ?_
        refine g12_6 hx hW5 368 (rfl : kd 0 = 1) fl_X12_58 rfl dX12_runCommands_64 ?_
        refine g2_5 hx hW5 370 (rfl : kd 368 = 17) fl_X12_265 rfl dX12_runCommands_67 ?_
        obtain ⟨r9, hr10, h⟩ := bnd h
        refine J_rdV hx (kX12_wrongWith (idx_lt hc8) hC hW5 hr10) ml_X12_268 lk_X12_wrongWith (ci := 10) rfl (hW5.obj (rfl : kd 0 = 1) (by decide) (by decide)) (rest := []) rfl rfl (by decide) (by decide) (Nat.le_of_ble_eq_true rfl) (Nat.le_refl 0) (Nat.le_refl 0) dX12_runCommands_70 ?_
        refine J_if_ne hx 101 dX12_runCommands_73 rfl (fun h11 => ?_) (fun h11 => ?_)
        · replace h := neg h h11
          refine J_il4 hx rfl rfl dX12_runCommands_101 ?_
          obtain rfl := Option.some.inj h
          exact J_iretW hx hr hW5 dX12_runCommands_102 (Nat.le_refl 0) (Nat.le_refl 0)
        · replace h := pos h h11
          refine J_al4 hx rfl rfl dX12_runCommands_76 ?_
          refine J_al4 hx rfl rfl dX12_runCommands_77 ?_
          refine g12_6 hx hW5 368 (rfl : kd 0 = 1) fl_X12_58 rfl dX12_runCommands_78 ?_
          refine gW2_4 hx hW5 (rfl : kd 368 = 17) fl_X12_261 hc8 dX12_runCommands_81 ?_
          refine J_al4 hx rfl rfl dX12_runCommands_84 ?_
          refine g12_6 hx hW5 368 (rfl : kd 0 = 1) fl_X12_58 rfl dX12_runCommands_85 ?_
          refine g2_5 hx hW5 370 (rfl : kd 368 = 17) fl_X12_265 rfl dX12_runCommands_88 ?_
          obtain ⟨r12, hr13, h⟩ := bnd h
          refine J_wrV hx (kX12_perform (idx_lt hc8) hC hW5 hr13) ml_X12_272 lk_X12_perform (ci := 10) rfl (hW5.obj (rfl : kd 0 = 1) (by decide) (by decide)) (rest := []) rfl rfl (by decide) (by decide) (Nat.le_of_ble_eq_true rfl) (Nat.le_refl 0) (Nat.le_refl 0) dX12_runCommands_91 fun G14 hW15 => ?_
          show J X 3 G14 sz 0 0 94 [some (.ref (B.1 + 0)), none, some (.int l2)] [.int r12.1]
          refine J_pop hx dX12_runCommands_94 ?_
          refine J_iinc hx (v' := (l2 + 1)) rfl rfl (by decide) (hc_of rfl) rfl dX12_runCommands_95 ?_
          refine J_goto hx 38 dX12_runCommands_98 rfl ?_
          exact ih _ _  hW15 h
def sX12_runCommands (w : Wl) : Option (Int32 × Wl) := (sX2_findFault w ).bind (fun r1 => (if r1.1 = (-1 : Int32) then (sX7_keep r1.2 1).bind (fun r6 => (sX2_rewind r6 ).bind (fun r10 => sX12_runCommands_38 FU r10 (0 : Int32))) else some (((-10 : Int32) - r1.1), r1.2)))
theorem kX12_runCommands {l : Launch} {Γ : Gl} {B : Bs} {w : Wl} {G : Gf} {sz : Nat} {r : (Int32 × Wl)} (hC : GC Γ B) (hW : Wd Γ B w G) (h : sX12_runCommands w  = some r) : CtW l Γ yX12_runCommands cX12_runCommands 3 (some .int) 8 [.ref (B.1 + 0)] G sz B (some (.int (r.1))) r.2 := by
  refine Ct.of rfl (Nat.le_of_ble_eq_true rfl) fun X hx hr hl hΓ hnm => ?_
  subst hl hΓ
  show J X 3 G sz 0 0 0 [some (.ref (B.1 + 0)), none, none] []
  unfold sX12_runCommands at h
  refine J_al4 hx rfl rfl dX12_runCommands_0 ?_
  refine g12_6 hx hW 368 (rfl : kd 0 = 1) fl_X12_58 rfl dX12_runCommands_1 ?_
  obtain ⟨r1, hr2, h⟩ := bnd h
  refine J_wrV hx (kX2_findFault  hC hW hr2) ml_X12_251 lk_X2_findFault (ci := 1) rfl (hW.obj (rfl : kd 368 = 17) (by decide) (by decide)) (rest := []) rfl rfl (by decide) (by decide) (Nat.le_of_ble_eq_true rfl) (Nat.le_refl 0) (Nat.le_refl 0) dX12_runCommands_4 fun G3 hW4 => ?_
  show J X 3 G3 sz 0 0 7 [some (.ref (B.1 + 0)), none, none] [.int r1.1]
  refine J_is4 hx rfl (by decide) (hc_of rfl) rfl dX12_runCommands_7 ?_
  refine J_il4 hx rfl rfl dX12_runCommands_8 ?_
  refine J_iconst hx (-1 : Int32) dX12_runCommands_9 rfl ?_
  refine J_icmp_eq hx 18 dX12_runCommands_10 rfl (fun h5 => ?_) (fun h5 => ?_)
  · replace h := pos h h5
    refine J_al4 hx rfl rfl dX12_runCommands_18 ?_
    refine g12_5 hx hW4 78 (rfl : kd 0 = 1) fl_X12_51 rfl dX12_runCommands_19 ?_
    refine J_al4 hx rfl rfl dX12_runCommands_22 ?_
    refine g12_0 hx hW4 1 (rfl : kd 0 = 1) fl_X12_10 rfl dX12_runCommands_23 ?_
    obtain ⟨r6, hr7, h⟩ := bnd h
    refine J_wrV hx (kX7_keep (rfl : kd 1 = 2) hW4 hr7) ml_X12_70 lk_X7_keep (ci := 6) rfl (hW4.obj (rfl : kd 78 = 15) (by decide) (by decide)) (rest := []) rfl rfl (by decide) (by decide) (Nat.le_of_ble_eq_true rfl) (Nat.le_refl 0) (Nat.le_refl 0) dX12_runCommands_26 fun G8 hW9 => ?_
    show J X 3 G8 sz 0 0 29 [some (.ref (B.1 + 0)), some (.int r1.1), none] []
    refine J_iconst hx (0 : Int32) dX12_runCommands_29 rfl ?_
    refine J_is4 hx rfl (by decide) (hc_of rfl) rfl dX12_runCommands_30 ?_
    refine J_al4 hx rfl rfl dX12_runCommands_31 ?_
    refine g12_6 hx hW9 368 (rfl : kd 0 = 1) fl_X12_58 rfl dX12_runCommands_32 ?_
    obtain ⟨r10, hr11, h⟩ := bnd h
    refine J_wrV hx (kX2_rewind  hW9 hr11) ml_X12_254 lk_X2_rewind (ci := 1) rfl (hW9.obj (rfl : kd 368 = 17) (by decide) (by decide)) (rest := []) rfl rfl (by decide) (by decide) (Nat.le_of_ble_eq_true rfl) (Nat.le_refl 0) (Nat.le_refl 0) dX12_runCommands_35 fun G12 hW13 => ?_
    show J X 3 G12 sz 0 0 38 [some (.ref (B.1 + 0)), some (.int r1.1), some (.int (0 : Int32))] []
    refine J_lw (ls' := [some (.ref (B.1 + 0)), none, some (.int (0 : Int32))]) (lwS (lwN (lwS lwZ))) ?_
    exact tX12_runCommands_38 hx hC hr _ _ _  hW13 h
  · replace h := neg h h5
    refine J_bipush hx (-10 : Int32) dX12_runCommands_13 rfl ?_
    refine J_il4 hx rfl rfl dX12_runCommands_15 ?_
    refine J_isub hx dX12_runCommands_16 ?_
    obtain rfl := Option.some.inj h
    exact J_iretW hx hr hW4 dX12_runCommands_17 (Nat.le_refl 0) (Nat.le_refl 0)
theorem dX12_mixed_0 : decode cX12_mixed 0 = .ok (.ldc2_w 310, 3) := by decide +kernel
theorem dX12_mixed_3 : decode cX12_mixed 3 = .ok (.lload_n 0, 1) := by decide +kernel
theorem dX12_mixed_4 : decode cX12_mixed 4 = .ok (.lmul, 1) := by decide +kernel
theorem dX12_mixed_5 : decode cX12_mixed 5 = .ok (.lload_n 2, 1) := by decide +kernel
theorem dX12_mixed_6 : decode cX12_mixed 6 = .ok (.ladd, 1) := by decide +kernel
theorem dX12_mixed_7 : decode cX12_mixed 7 = .ok (.lreturn, 1) := by decide +kernel
def sX12_mixed (w : Wl) (l0 : Int64) (l2 : Int64) : Option Int64 := some (((31 : Int64) * l0) + l2)
theorem kX12_mixed {l : Launch} {Γ : Gl} {B : Bs} {w : Wl} {G : Gf} {sz : Nat} {l0 : Int64} {l2 : Int64} {r : Int64} (hW : Wd Γ B w G) (h : sX12_mixed w l0 l2 = some r) : CtR l Γ yX12_mixed cX12_mixed 4 (some .long) 0 [.long l0, .long l2] G sz (.long (r)) := by
  refine Ct.of rfl (Nat.le_of_ble_eq_true rfl) fun X hx hr hl hΓ hnm => ?_
  subst hl hΓ
  show J X 4 G sz 0 0 0 [some (.long l0), none, some (.long l2), none] []
  unfold sX12_mixed at h
  refine J_ldc2 hx cn_X12_310 dX12_mixed_0 ?_
  refine J_ll4 hx rfl rfl dX12_mixed_3 ?_
  refine J_lmul hx dX12_mixed_4 ?_
  refine J_ll4 hx rfl rfl dX12_mixed_5 ?_
  refine J_ladd hx dX12_mixed_6 ?_
  obtain rfl := Option.some.inj h
  exact J_lretR hx hr dX12_mixed_7 (Nat.le_refl 0) (Nat.le_refl 0)
theorem dX12_withVenues_0 : decode cX12_withVenues 0 = .ok (.lload_n 1, 1) := by decide +kernel
theorem dX12_withVenues_1 : decode cX12_withVenues 1 = .ok (.lstore_n 3, 1) := by decide +kernel
theorem dX12_withVenues_2 : decode cX12_withVenues 2 = .ok (.iconst 0, 1) := by decide +kernel
theorem dX12_withVenues_3 : decode cX12_withVenues 3 = .ok (.istore 5, 2) := by decide +kernel
theorem dX12_withVenues_5 : decode cX12_withVenues 5 = .ok (.iload 5, 2) := by decide +kernel
theorem dX12_withVenues_7 : decode cX12_withVenues 7 = .ok (.aload_n 0, 1) := by decide +kernel
theorem dX12_withVenues_8 : decode cX12_withVenues 8 = .ok (.getfield 10, 3) := by decide +kernel
theorem dX12_withVenues_11 : decode cX12_withVenues 11 = .ok (.getfield 301, 3) := by decide +kernel
theorem dX12_withVenues_14 : decode cX12_withVenues 14 = .ok (.if_icmp .ge 42, 3) := by decide +kernel
theorem dX12_withVenues_17 : decode cX12_withVenues 17 = .ok (.iconst 0, 1) := by decide +kernel
theorem dX12_withVenues_18 : decode cX12_withVenues 18 = .ok (.istore 6, 2) := by decide +kernel
theorem dX12_withVenues_20 : decode cX12_withVenues 20 = .ok (.iload 6, 2) := by decide +kernel
theorem dX12_withVenues_22 : decode cX12_withVenues 22 = .ok (.bipush 9, 2) := by decide +kernel
theorem dX12_withVenues_24 : decode cX12_withVenues 24 = .ok (.if_icmp .ge 26, 3) := by decide +kernel
theorem dX12_withVenues_27 : decode cX12_withVenues 27 = .ok (.lload_n 3, 1) := by decide +kernel
theorem dX12_withVenues_28 : decode cX12_withVenues 28 = .ok (.aload_n 0, 1) := by decide +kernel
theorem dX12_withVenues_29 : decode cX12_withVenues 29 = .ok (.getfield 35, 3) := by decide +kernel
theorem dX12_withVenues_32 : decode cX12_withVenues 32 = .ok (.iload 5, 2) := by decide +kernel
theorem dX12_withVenues_34 : decode cX12_withVenues 34 = .ok (.iload 6, 2) := by decide +kernel
theorem dX12_withVenues_36 : decode cX12_withVenues 36 = .ok (.invokevirtual 208, 3) := by decide +kernel
theorem dX12_withVenues_39 : decode cX12_withVenues 39 = .ok (.i2l, 1) := by decide +kernel
theorem dX12_withVenues_40 : decode cX12_withVenues 40 = .ok (.invokestatic 284, 3) := by decide +kernel
theorem dX12_withVenues_43 : decode cX12_withVenues 43 = .ok (.lstore_n 3, 1) := by decide +kernel
theorem dX12_withVenues_44 : decode cX12_withVenues 44 = .ok (.iinc 6 1, 3) := by decide +kernel
theorem dX12_withVenues_47 : decode cX12_withVenues 47 = .ok (.goto (-27), 3) := by decide +kernel
theorem dX12_withVenues_50 : decode cX12_withVenues 50 = .ok (.iinc 5 1, 3) := by decide +kernel
theorem dX12_withVenues_53 : decode cX12_withVenues 53 = .ok (.goto (-48), 3) := by decide +kernel
theorem dX12_withVenues_56 : decode cX12_withVenues 56 = .ok (.lload_n 3, 1) := by decide +kernel
theorem dX12_withVenues_57 : decode cX12_withVenues 57 = .ok (.lreturn, 1) := by decide +kernel
def sX12_withVenues_20 (k5 : Wl → Int64 → Int32 → Option Int64) : Nat → Wl → Int64 → Int32 → Int32 → Option Int64
  | 0, _, _, _, _ => none
  | n + 1, w, l3, l5, l6 => (if (9 : Int32) ≤ l6 then k5 w l3 (l5 + 1) else (sX8_ofVenue w l5 l6).bind (fun r2 => (sX12_mixed w l3 r2.toInt64).bind (fun r4 => sX12_withVenues_20 k5 n w r4 l5 (l6 + 1))))
theorem tX12_withVenues_20 {X : Cx} {B : Bs} {sz : Nat} {G : Gf} {r : Int64} (hx : Fx X cX12_withVenues 7 RX12 4 0 0) (hr : Rt X (some .long) 0 0 (RdΨ (.long (r)) G sz)) (k5 : Wl → Int64 → Int32 → Option Int64) (hk5 : ∀ (w : Wl) (l3 : Int64) (l5 : Int32) (hW : Wd (xΓ X) B w G) (h : k5 w l3 l5 = some r), J X 7 G sz 0 0 5 [some (.ref (B.1 + 0)), none, none, some (.long l3), none, some (.int l5), none] []) : ∀ (n : Nat), ∀ (w : Wl) (l3 : Int64) (l5 : Int32) (l6 : Int32) (hW : Wd (xΓ X) B w G) (h : sX12_withVenues_20 k5 n w l3 l5 l6 = some r), J X 7 G sz 0 0 20 [some (.ref (B.1 + 0)), none, none, some (.long l3), none, some (.int l5), some (.int l6)] [] := by
  intro n
  induction n with
  | zero => intro w l3 l5 l6 hW h; rw [sX12_withVenues_20.eq_1] at h; cases h
  | succ n ih =>
    intro w l3 l5 l6 hW h
    rw [sX12_withVenues_20.eq_2] at h
    refine J_il hx rfl dX12_withVenues_20 ?_
    refine J_bipush hx (9 : Int32) dX12_withVenues_22 rfl ?_
    refine J_icmp_ge hx 50 dX12_withVenues_24 rfl (fun h1 => ?_) (fun h1 => ?_)
    · replace h := pos h h1
      refine J_iinc hx (v' := (l5 + 1)) rfl rfl (by decide) (hc_of rfl) rfl dX12_withVenues_50 ?_
      refine J_goto hx 5 dX12_withVenues_53 rfl ?_
      refine J_lw (ls' := [some (.ref (B.1 + 0)), none, none, some (.long l3), none, some (.int (l5 + 1)), none]) (lwS (lwN (lwN (lwS (lwN (lwS (lwN lwZ))))))) ?_
      exact hk5 _ _ _  hW h
    · replace h := neg h h1
      refine J_ll4 hx rfl rfl dX12_withVenues_27 ?_
      refine J_al4 hx rfl rfl dX12_withVenues_28 ?_
      refine g12_3 hx hW 75 (rfl : kd 0 = 1) fl_X12_35 rfl dX12_withVenues_29 ?_
      refine J_il hx rfl dX12_withVenues_32 ?_
      refine J_il hx rfl dX12_withVenues_34 ?_
      obtain ⟨r2, hr3, h⟩ := bnd h
      refine J_rdV hx (kX8_ofVenue  hW hr3) ml_X12_208 lk_X8_ofVenue (ci := 7) rfl (hW.obj (rfl : kd 75 = 13) (by decide) (by decide)) (rest := [.long l3]) rfl rfl (by decide) (by decide) (Nat.le_of_ble_eq_true rfl) (Nat.le_refl 0) (Nat.le_refl 0) dX12_withVenues_36 ?_
      refine J_i2l hx dX12_withVenues_39 ?_
      obtain ⟨r4, hr5, h⟩ := bnd h
      refine J_rdS hx (kX12_mixed  hW hr5) ml_X12_284 lk_X12_mixed (rest := []) rfl rfl (by decide) (by decide) (Nat.le_of_ble_eq_true rfl) (Nat.le_refl 0) (Nat.le_refl 0) dX12_withVenues_40 ?_
      refine J_ls4 hx rfl (by decide) (hc_of rfl) rfl dX12_withVenues_43 ?_
      refine J_iinc hx (v' := (l6 + 1)) rfl rfl (by decide) (hc_of rfl) rfl dX12_withVenues_44 ?_
      refine J_goto hx 20 dX12_withVenues_47 rfl ?_
      exact ih _ _ _ _  hW h
def sX12_withVenues_5 : Nat → Wl → Int64 → Int32 → Option Int64
  | 0, _, _, _ => none
  | n + 1, w, l3, l5 => (if (w 1 5) ≤ l5 then some l3 else sX12_withVenues_20 (fun w l3 l5 => sX12_withVenues_5 n w l3 l5) FU w l3 l5 (0 : Int32))
theorem tX12_withVenues_5 {X : Cx} {B : Bs} {sz : Nat} {G : Gf} {r : Int64} (hx : Fx X cX12_withVenues 7 RX12 4 0 0) (hr : Rt X (some .long) 0 0 (RdΨ (.long (r)) G sz)) : ∀ (n : Nat), ∀ (w : Wl) (l3 : Int64) (l5 : Int32) (hW : Wd (xΓ X) B w G) (h : sX12_withVenues_5 n w l3 l5 = some r), J X 7 G sz 0 0 5 [some (.ref (B.1 + 0)), none, none, some (.long l3), none, some (.int l5), none] [] := by
  intro n
  induction n with
  | zero => intro w l3 l5 hW h; rw [sX12_withVenues_5.eq_1] at h; cases h
  | succ n ih =>
    intro w l3 l5 hW h
    rw [sX12_withVenues_5.eq_2] at h
    refine J_il hx rfl dX12_withVenues_5 ?_
    refine J_al4 hx rfl rfl dX12_withVenues_7 ?_
    refine g12_0 hx hW 1 (rfl : kd 0 = 1) fl_X12_10 rfl dX12_withVenues_8 ?_
    refine g6_5 hx hW (rfl : kd 1 = 2) fl_X12_301 dX12_withVenues_11 ?_
    refine J_icmp_ge hx 56 dX12_withVenues_14 rfl (fun h1 => ?_) (fun h1 => ?_)
    · replace h := pos h h1
      refine J_ll4 hx rfl rfl dX12_withVenues_56 ?_
      obtain rfl := Option.some.inj h
      exact J_lretR hx hr dX12_withVenues_57 (Nat.le_refl 0) (Nat.le_refl 0)
    · replace h := neg h h1
      refine J_iconst hx (0 : Int32) dX12_withVenues_17 rfl ?_
      refine J_is hx (by decide) (hc_of rfl) rfl dX12_withVenues_18 ?_
      exact tX12_withVenues_20 hx hr _ ih _ _ _ _ _  hW h
def sX12_withVenues (w : Wl) (l1 : Int64) : Option Int64 := sX12_withVenues_5 FU w l1 (0 : Int32)
theorem kX12_withVenues {l : Launch} {Γ : Gl} {B : Bs} {w : Wl} {G : Gf} {sz : Nat} {l1 : Int64} {r : Int64} (hW : Wd Γ B w G) (h : sX12_withVenues w l1 = some r) : CtR l Γ yX12_withVenues cX12_withVenues 7 (some .long) 4 [.ref (B.1 + 0), .long l1] G sz (.long (r)) := by
  refine Ct.of rfl (Nat.le_of_ble_eq_true rfl) fun X hx hr hl hΓ hnm => ?_
  subst hl hΓ
  show J X 7 G sz 0 0 0 [some (.ref (B.1 + 0)), some (.long l1), none, none, none, none, none] []
  unfold sX12_withVenues at h
  refine J_ll4 hx rfl rfl dX12_withVenues_0 ?_
  refine J_ls4 hx rfl (by decide) (hc_of rfl) rfl dX12_withVenues_1 ?_
  refine J_iconst hx (0 : Int32) dX12_withVenues_2 rfl ?_
  refine J_is hx (by decide) (hc_of rfl) rfl dX12_withVenues_3 ?_
  refine J_lw (ls' := [some (.ref (B.1 + 0)), none, none, some (.long l1), none, some (.int (0 : Int32)), none]) (lwS (lwN (lwN (lwS (lwN (lwS (lwN lwZ))))))) ?_
  exact tX12_withVenues_5 hx hr _ _ _ _  hW h
theorem dX12_withCrates_0 : decode cX12_withCrates 0 = .ok (.lload_n 1, 1) := by decide +kernel
theorem dX12_withCrates_1 : decode cX12_withCrates 1 = .ok (.lstore_n 3, 1) := by decide +kernel
theorem dX12_withCrates_2 : decode cX12_withCrates 2 = .ok (.iconst 0, 1) := by decide +kernel
theorem dX12_withCrates_3 : decode cX12_withCrates 3 = .ok (.istore 5, 2) := by decide +kernel
theorem dX12_withCrates_5 : decode cX12_withCrates 5 = .ok (.iload 5, 2) := by decide +kernel
theorem dX12_withCrates_7 : decode cX12_withCrates 7 = .ok (.aload_n 0, 1) := by decide +kernel
theorem dX12_withCrates_8 : decode cX12_withCrates 8 = .ok (.getfield 10, 3) := by decide +kernel
theorem dX12_withCrates_11 : decode cX12_withCrates 11 = .ok (.getfield 304, 3) := by decide +kernel
theorem dX12_withCrates_14 : decode cX12_withCrates 14 = .ok (.if_icmp .ge 57, 3) := by decide +kernel
theorem dX12_withCrates_17 : decode cX12_withCrates 17 = .ok (.iconst 0, 1) := by decide +kernel
theorem dX12_withCrates_18 : decode cX12_withCrates 18 = .ok (.istore 6, 2) := by decide +kernel
theorem dX12_withCrates_20 : decode cX12_withCrates 20 = .ok (.iload 6, 2) := by decide +kernel
theorem dX12_withCrates_22 : decode cX12_withCrates 22 = .ok (.bipush 14, 2) := by decide +kernel
theorem dX12_withCrates_24 : decode cX12_withCrates 24 = .ok (.if_icmp .ge 26, 3) := by decide +kernel
theorem dX12_withCrates_27 : decode cX12_withCrates 27 = .ok (.lload_n 3, 1) := by decide +kernel
theorem dX12_withCrates_28 : decode cX12_withCrates 28 = .ok (.aload_n 0, 1) := by decide +kernel
theorem dX12_withCrates_29 : decode cX12_withCrates 29 = .ok (.getfield 35, 3) := by decide +kernel
theorem dX12_withCrates_32 : decode cX12_withCrates 32 = .ok (.iload 5, 2) := by decide +kernel
theorem dX12_withCrates_34 : decode cX12_withCrates 34 = .ok (.iload 6, 2) := by decide +kernel
theorem dX12_withCrates_36 : decode cX12_withCrates 36 = .ok (.invokevirtual 184, 3) := by decide +kernel
theorem dX12_withCrates_39 : decode cX12_withCrates 39 = .ok (.i2l, 1) := by decide +kernel
theorem dX12_withCrates_40 : decode cX12_withCrates 40 = .ok (.invokestatic 284, 3) := by decide +kernel
theorem dX12_withCrates_43 : decode cX12_withCrates 43 = .ok (.lstore_n 3, 1) := by decide +kernel
theorem dX12_withCrates_44 : decode cX12_withCrates 44 = .ok (.iinc 6 1, 3) := by decide +kernel
theorem dX12_withCrates_47 : decode cX12_withCrates 47 = .ok (.goto (-27), 3) := by decide +kernel
theorem dX12_withCrates_50 : decode cX12_withCrates 50 = .ok (.lload_n 3, 1) := by decide +kernel
theorem dX12_withCrates_51 : decode cX12_withCrates 51 = .ok (.aload_n 0, 1) := by decide +kernel
theorem dX12_withCrates_52 : decode cX12_withCrates 52 = .ok (.getfield 44, 3) := by decide +kernel
theorem dX12_withCrates_55 : decode cX12_withCrates 55 = .ok (.iload 5, 2) := by decide +kernel
theorem dX12_withCrates_57 : decode cX12_withCrates 57 = .ok (.invokevirtual 228, 3) := by decide +kernel
theorem dX12_withCrates_60 : decode cX12_withCrates 60 = .ok (.i2l, 1) := by decide +kernel
theorem dX12_withCrates_61 : decode cX12_withCrates 61 = .ok (.invokestatic 284, 3) := by decide +kernel
theorem dX12_withCrates_64 : decode cX12_withCrates 64 = .ok (.lstore_n 3, 1) := by decide +kernel
theorem dX12_withCrates_65 : decode cX12_withCrates 65 = .ok (.iinc 5 1, 3) := by decide +kernel
theorem dX12_withCrates_68 : decode cX12_withCrates 68 = .ok (.goto (-63), 3) := by decide +kernel
theorem dX12_withCrates_71 : decode cX12_withCrates 71 = .ok (.lload_n 3, 1) := by decide +kernel
theorem dX12_withCrates_72 : decode cX12_withCrates 72 = .ok (.lreturn, 1) := by decide +kernel
def sX12_withCrates_20 (k5 : Wl → Int64 → Int32 → Option (Int64 × Wl)) : Nat → Wl → Int64 → Int32 → Int32 → Option (Int64 × Wl)
  | 0, _, _, _, _ => none
  | n + 1, w, l3, l5, l6 => (if (14 : Int32) ≤ l6 then (sX5_timeOfCrate w l5).bind (fun r2 => (sX12_mixed r2.2 l3 r2.1.toInt64).bind (fun r6 => k5 r2.2 r6 (l5 + 1))) else (sX8_ofCrate w l5 l6).bind (fun r8 => (sX12_mixed w l3 r8.toInt64).bind (fun r10 => sX12_withCrates_20 k5 n w r10 l5 (l6 + 1))))
theorem tX12_withCrates_20 {X : Cx} {B : Bs} {sz : Nat} {r : (Int64 × Wl)} (hx : Fx X cX12_withCrates 7 RX12 5 0 0) (hr : Rt X (some .long) 0 0 (WΨ (xΓ X) B (some (.long (r.1))) r.2 sz)) (k5 : Wl → Int64 → Int32 → Option (Int64 × Wl)) (hk5 : ∀ (w : Wl) (l3 : Int64) (l5 : Int32) {G : Gf} (hW : Wd (xΓ X) B w G) (h : k5 w l3 l5 = some r), J X 7 G sz 0 0 5 [some (.ref (B.1 + 0)), none, none, some (.long l3), none, some (.int l5), none] []) : ∀ (n : Nat), ∀ (w : Wl) (l3 : Int64) (l5 : Int32) (l6 : Int32) {G : Gf} (hW : Wd (xΓ X) B w G) (h : sX12_withCrates_20 k5 n w l3 l5 l6 = some r), J X 7 G sz 0 0 20 [some (.ref (B.1 + 0)), none, none, some (.long l3), none, some (.int l5), some (.int l6)] [] := by
  intro n
  induction n with
  | zero => intro w l3 l5 l6 G hW h; rw [sX12_withCrates_20.eq_1] at h; cases h
  | succ n ih =>
    intro w l3 l5 l6 G hW h
    rw [sX12_withCrates_20.eq_2] at h
    refine J_il hx rfl dX12_withCrates_20 ?_
    refine J_bipush hx (14 : Int32) dX12_withCrates_22 rfl ?_
    refine J_icmp_ge hx 50 dX12_withCrates_24 rfl (fun h1 => ?_) (fun h1 => ?_)
    · replace h := pos h h1
      refine J_ll4 hx rfl rfl dX12_withCrates_50 ?_
      refine J_al4 hx rfl rfl dX12_withCrates_51 ?_
      refine g12_4 hx hW 76 (rfl : kd 0 = 1) fl_X12_44 rfl dX12_withCrates_52 ?_
      refine J_il hx rfl dX12_withCrates_55 ?_
      obtain ⟨r2, hr3, h⟩ := bnd h
      refine J_wrV hx (kX5_timeOfCrate  hW hr3) ml_X12_228 lk_X5_timeOfCrate (ci := 4) rfl (hW.obj (rfl : kd 76 = 14) (by decide) (by decide)) (rest := [.long l3]) rfl rfl (by decide) (by decide) (Nat.le_of_ble_eq_true rfl) (Nat.le_refl 0) (Nat.le_refl 0) dX12_withCrates_57 fun G4 hW5 => ?_
      show J X 7 G4 sz 0 0 60 [some (.ref (B.1 + 0)), none, none, some (.long l3), none, some (.int l5), some (.int l6)] [.int r2.1, .long l3]
      refine J_i2l hx dX12_withCrates_60 ?_
      obtain ⟨r6, hr7, h⟩ := bnd h
      refine J_rdS hx (kX12_mixed  hW5 hr7) ml_X12_284 lk_X12_mixed (rest := []) rfl rfl (by decide) (by decide) (Nat.le_of_ble_eq_true rfl) (Nat.le_refl 0) (Nat.le_refl 0) dX12_withCrates_61 ?_
      refine J_ls4 hx rfl (by decide) (hc_of rfl) rfl dX12_withCrates_64 ?_
      refine J_iinc hx (v' := (l5 + 1)) rfl rfl (by decide) (hc_of rfl) rfl dX12_withCrates_65 ?_
      refine J_goto hx 5 dX12_withCrates_68 rfl ?_
      refine J_lw (ls' := [some (.ref (B.1 + 0)), none, none, some (.long r6), none, some (.int (l5 + 1)), none]) (lwS (lwN (lwN (lwS (lwN (lwS (lwN lwZ))))))) ?_
      exact hk5 _ _ _  hW5 h
    · replace h := neg h h1
      refine J_ll4 hx rfl rfl dX12_withCrates_27 ?_
      refine J_al4 hx rfl rfl dX12_withCrates_28 ?_
      refine g12_3 hx hW 75 (rfl : kd 0 = 1) fl_X12_35 rfl dX12_withCrates_29 ?_
      refine J_il hx rfl dX12_withCrates_32 ?_
      refine J_il hx rfl dX12_withCrates_34 ?_
      obtain ⟨r8, hr9, h⟩ := bnd h
      refine J_rdV hx (kX8_ofCrate  hW hr9) ml_X12_184 lk_X8_ofCrate (ci := 7) rfl (hW.obj (rfl : kd 75 = 13) (by decide) (by decide)) (rest := [.long l3]) rfl rfl (by decide) (by decide) (Nat.le_of_ble_eq_true rfl) (Nat.le_refl 0) (Nat.le_refl 0) dX12_withCrates_36 ?_
      refine J_i2l hx dX12_withCrates_39 ?_
      obtain ⟨r10, hr11, h⟩ := bnd h
      refine J_rdS hx (kX12_mixed  hW hr11) ml_X12_284 lk_X12_mixed (rest := []) rfl rfl (by decide) (by decide) (Nat.le_of_ble_eq_true rfl) (Nat.le_refl 0) (Nat.le_refl 0) dX12_withCrates_40 ?_
      refine J_ls4 hx rfl (by decide) (hc_of rfl) rfl dX12_withCrates_43 ?_
      refine J_iinc hx (v' := (l6 + 1)) rfl rfl (by decide) (hc_of rfl) rfl dX12_withCrates_44 ?_
      refine J_goto hx 20 dX12_withCrates_47 rfl ?_
      exact ih _ _ _ _  hW h
def sX12_withCrates_5 : Nat → Wl → Int64 → Int32 → Option (Int64 × Wl)
  | 0, _, _, _ => none
  | n + 1, w, l3, l5 => (if (w 1 6) ≤ l5 then some (l3, w) else sX12_withCrates_20 (fun w l3 l5 => sX12_withCrates_5 n w l3 l5) FU w l3 l5 (0 : Int32))
theorem tX12_withCrates_5 {X : Cx} {B : Bs} {sz : Nat} {r : (Int64 × Wl)} (hx : Fx X cX12_withCrates 7 RX12 5 0 0) (hr : Rt X (some .long) 0 0 (WΨ (xΓ X) B (some (.long (r.1))) r.2 sz)) : ∀ (n : Nat), ∀ (w : Wl) (l3 : Int64) (l5 : Int32) {G : Gf} (hW : Wd (xΓ X) B w G) (h : sX12_withCrates_5 n w l3 l5 = some r), J X 7 G sz 0 0 5 [some (.ref (B.1 + 0)), none, none, some (.long l3), none, some (.int l5), none] [] := by
  intro n
  induction n with
  | zero => intro w l3 l5 G hW h; rw [sX12_withCrates_5.eq_1] at h; cases h
  | succ n ih =>
    intro w l3 l5 G hW h
    rw [sX12_withCrates_5.eq_2] at h
    refine J_il hx rfl dX12_withCrates_5 ?_
    refine J_al4 hx rfl rfl dX12_withCrates_7 ?_
    refine g12_0 hx hW 1 (rfl : kd 0 = 1) fl_X12_10 rfl dX12_withCrates_8 ?_
    refine g6_6 hx hW (rfl : kd 1 = 2) fl_X12_304 dX12_withCrates_11 ?_
    refine J_icmp_ge hx 71 dX12_withCrates_14 rfl (fun h1 => ?_) (fun h1 => ?_)
    · replace h := pos h h1
      refine J_ll4 hx rfl rfl dX12_withCrates_71 ?_
      obtain rfl := Option.some.inj h
      exact J_lretW hx hr hW dX12_withCrates_72 (Nat.le_refl 0) (Nat.le_refl 0)
    · replace h := neg h h1
      refine J_iconst hx (0 : Int32) dX12_withCrates_17 rfl ?_
      refine J_is hx (by decide) (hc_of rfl) rfl dX12_withCrates_18 ?_
      exact tX12_withCrates_20 hx hr _ ih _ _ _ _ _  hW h
def sX12_withCrates (w : Wl) (l1 : Int64) : Option (Int64 × Wl) := sX12_withCrates_5 FU w l1 (0 : Int32)
theorem kX12_withCrates {l : Launch} {Γ : Gl} {B : Bs} {w : Wl} {G : Gf} {sz : Nat} {l1 : Int64} {r : (Int64 × Wl)} (hW : Wd Γ B w G) (h : sX12_withCrates w l1 = some r) : CtW l Γ yX12_withCrates cX12_withCrates 7 (some .long) 5 [.ref (B.1 + 0), .long l1] G sz B (some (.long (r.1))) r.2 := by
  refine Ct.of rfl (Nat.le_of_ble_eq_true rfl) fun X hx hr hl hΓ hnm => ?_
  subst hl hΓ
  show J X 7 G sz 0 0 0 [some (.ref (B.1 + 0)), some (.long l1), none, none, none, none, none] []
  unfold sX12_withCrates at h
  refine J_ll4 hx rfl rfl dX12_withCrates_0 ?_
  refine J_ls4 hx rfl (by decide) (hc_of rfl) rfl dX12_withCrates_1 ?_
  refine J_iconst hx (0 : Int32) dX12_withCrates_2 rfl ?_
  refine J_is hx (by decide) (hc_of rfl) rfl dX12_withCrates_3 ?_
  refine J_lw (ls' := [some (.ref (B.1 + 0)), none, none, some (.long l1), none, some (.int (0 : Int32)), none]) (lwS (lwN (lwN (lwS (lwN (lwS (lwN lwZ))))))) ?_
  exact tX12_withCrates_5 hx hr _ _ _ _  hW h
theorem dX12_withWorks_0 : decode cX12_withWorks 0 = .ok (.lload_n 1, 1) := by decide +kernel
theorem dX12_withWorks_1 : decode cX12_withWorks 1 = .ok (.lstore_n 3, 1) := by decide +kernel
theorem dX12_withWorks_2 : decode cX12_withWorks 2 = .ok (.iconst 0, 1) := by decide +kernel
theorem dX12_withWorks_3 : decode cX12_withWorks 3 = .ok (.istore 5, 2) := by decide +kernel
theorem dX12_withWorks_5 : decode cX12_withWorks 5 = .ok (.iload 5, 2) := by decide +kernel
theorem dX12_withWorks_7 : decode cX12_withWorks 7 = .ok (.aload_n 0, 1) := by decide +kernel
theorem dX12_withWorks_8 : decode cX12_withWorks 8 = .ok (.getfield 10, 3) := by decide +kernel
theorem dX12_withWorks_11 : decode cX12_withWorks 11 = .ok (.getfield 307, 3) := by decide +kernel
theorem dX12_withWorks_14 : decode cX12_withWorks 14 = .ok (.if_icmp .ge 94, 3) := by decide +kernel
theorem dX12_withWorks_17 : decode cX12_withWorks 17 = .ok (.iconst 0, 1) := by decide +kernel
theorem dX12_withWorks_18 : decode cX12_withWorks 18 = .ok (.istore 6, 2) := by decide +kernel
theorem dX12_withWorks_20 : decode cX12_withWorks 20 = .ok (.iload 6, 2) := by decide +kernel
theorem dX12_withWorks_22 : decode cX12_withWorks 22 = .ok (.bipush 8, 2) := by decide +kernel
theorem dX12_withWorks_24 : decode cX12_withWorks 24 = .ok (.if_icmp .ge 26, 3) := by decide +kernel
theorem dX12_withWorks_27 : decode cX12_withWorks 27 = .ok (.lload_n 3, 1) := by decide +kernel
theorem dX12_withWorks_28 : decode cX12_withWorks 28 = .ok (.aload_n 0, 1) := by decide +kernel
theorem dX12_withWorks_29 : decode cX12_withWorks 29 = .ok (.getfield 35, 3) := by decide +kernel
theorem dX12_withWorks_32 : decode cX12_withWorks 32 = .ok (.iload 5, 2) := by decide +kernel
theorem dX12_withWorks_34 : decode cX12_withWorks 34 = .ok (.iload 6, 2) := by decide +kernel
theorem dX12_withWorks_36 : decode cX12_withWorks 36 = .ok (.invokevirtual 190, 3) := by decide +kernel
theorem dX12_withWorks_39 : decode cX12_withWorks 39 = .ok (.i2l, 1) := by decide +kernel
theorem dX12_withWorks_40 : decode cX12_withWorks 40 = .ok (.invokestatic 284, 3) := by decide +kernel
theorem dX12_withWorks_43 : decode cX12_withWorks 43 = .ok (.lstore_n 3, 1) := by decide +kernel
theorem dX12_withWorks_44 : decode cX12_withWorks 44 = .ok (.iinc 6 1, 3) := by decide +kernel
theorem dX12_withWorks_47 : decode cX12_withWorks 47 = .ok (.goto (-27), 3) := by decide +kernel
theorem dX12_withWorks_50 : decode cX12_withWorks 50 = .ok (.iconst 0, 1) := by decide +kernel
theorem dX12_withWorks_51 : decode cX12_withWorks 51 = .ok (.istore 6, 2) := by decide +kernel
theorem dX12_withWorks_53 : decode cX12_withWorks 53 = .ok (.iload 6, 2) := by decide +kernel
theorem dX12_withWorks_55 : decode cX12_withWorks 55 = .ok (.bipush 10, 2) := by decide +kernel
theorem dX12_withWorks_57 : decode cX12_withWorks 57 = .ok (.if_icmp .ge 30, 3) := by decide +kernel
theorem dX12_withWorks_60 : decode cX12_withWorks 60 = .ok (.lload_n 3, 1) := by decide +kernel
theorem dX12_withWorks_61 : decode cX12_withWorks 61 = .ok (.aload_n 0, 1) := by decide +kernel
theorem dX12_withWorks_62 : decode cX12_withWorks 62 = .ok (.getfield 10, 3) := by decide +kernel
theorem dX12_withWorks_65 : decode cX12_withWorks 65 = .ok (.getfield 196, 3) := by decide +kernel
theorem dX12_withWorks_68 : decode cX12_withWorks 68 = .ok (.iload 5, 2) := by decide +kernel
theorem dX12_withWorks_70 : decode cX12_withWorks 70 = .ok (.aaload, 1) := by decide +kernel
theorem dX12_withWorks_71 : decode cX12_withWorks 71 = .ok (.iload 6, 2) := by decide +kernel
theorem dX12_withWorks_73 : decode cX12_withWorks 73 = .ok (.invokevirtual 200, 3) := by decide +kernel
theorem dX12_withWorks_76 : decode cX12_withWorks 76 = .ok (.i2l, 1) := by decide +kernel
theorem dX12_withWorks_77 : decode cX12_withWorks 77 = .ok (.invokestatic 284, 3) := by decide +kernel
theorem dX12_withWorks_80 : decode cX12_withWorks 80 = .ok (.lstore_n 3, 1) := by decide +kernel
theorem dX12_withWorks_81 : decode cX12_withWorks 81 = .ok (.iinc 6 1, 3) := by decide +kernel
theorem dX12_withWorks_84 : decode cX12_withWorks 84 = .ok (.goto (-31), 3) := by decide +kernel
theorem dX12_withWorks_87 : decode cX12_withWorks 87 = .ok (.lload_n 3, 1) := by decide +kernel
theorem dX12_withWorks_88 : decode cX12_withWorks 88 = .ok (.aload_n 0, 1) := by decide +kernel
theorem dX12_withWorks_89 : decode cX12_withWorks 89 = .ok (.getfield 44, 3) := by decide +kernel
theorem dX12_withWorks_92 : decode cX12_withWorks 92 = .ok (.iload 5, 2) := by decide +kernel
theorem dX12_withWorks_94 : decode cX12_withWorks 94 = .ok (.invokevirtual 225, 3) := by decide +kernel
theorem dX12_withWorks_97 : decode cX12_withWorks 97 = .ok (.i2l, 1) := by decide +kernel
theorem dX12_withWorks_98 : decode cX12_withWorks 98 = .ok (.invokestatic 284, 3) := by decide +kernel
theorem dX12_withWorks_101 : decode cX12_withWorks 101 = .ok (.lstore_n 3, 1) := by decide +kernel
theorem dX12_withWorks_102 : decode cX12_withWorks 102 = .ok (.iinc 5 1, 3) := by decide +kernel
theorem dX12_withWorks_105 : decode cX12_withWorks 105 = .ok (.goto (-100), 3) := by decide +kernel
theorem dX12_withWorks_108 : decode cX12_withWorks 108 = .ok (.lload_n 3, 1) := by decide +kernel
theorem dX12_withWorks_109 : decode cX12_withWorks 109 = .ok (.lreturn, 1) := by decide +kernel
def sX12_withWorks_53 (k5 : Wl → Int64 → Int32 → Option (Int64 × Wl)) : Nat → Wl → Int64 → Int32 → Int32 → Option (Int64 × Wl)
  | 0, _, _, _, _ => none
  | n + 1, w, l3, l5, l6 => (if (10 : Int32) ≤ l6 then (sX5_timeOfWork w l5).bind (fun r2 => (sX12_mixed r2.2 l3 r2.1.toInt64).bind (fun r6 => k5 r2.2 r6 (l5 + 1))) else (idx l5 16).bind (fun c8 => (sX11_placeNoted w (41 + 2 * c8) l6).bind (fun r11 => (sX12_mixed w l3 r11.toInt64).bind (fun r13 => sX12_withWorks_53 k5 n w r13 l5 (l6 + 1)))))
theorem tX12_withWorks_53 {X : Cx} {B : Bs} {sz : Nat} {r : (Int64 × Wl)} (hx : Fx X cX12_withWorks 7 RX12 4 0 0) (hr : Rt X (some .long) 0 0 (WΨ (xΓ X) B (some (.long (r.1))) r.2 sz)) (k5 : Wl → Int64 → Int32 → Option (Int64 × Wl)) (hk5 : ∀ (w : Wl) (l3 : Int64) (l5 : Int32) {G : Gf} (hW : Wd (xΓ X) B w G) (h : k5 w l3 l5 = some r), J X 7 G sz 0 0 5 [some (.ref (B.1 + 0)), none, none, some (.long l3), none, some (.int l5), none] []) : ∀ (n : Nat), ∀ (w : Wl) (l3 : Int64) (l5 : Int32) (l6 : Int32) {G : Gf} (hW : Wd (xΓ X) B w G) (h : sX12_withWorks_53 k5 n w l3 l5 l6 = some r), J X 7 G sz 0 0 53 [some (.ref (B.1 + 0)), none, none, some (.long l3), none, some (.int l5), some (.int l6)] [] := by
  intro n
  induction n with
  | zero => intro w l3 l5 l6 G hW h; rw [sX12_withWorks_53.eq_1] at h; cases h
  | succ n ih =>
    intro w l3 l5 l6 G hW h
    rw [sX12_withWorks_53.eq_2] at h
    refine J_il hx rfl dX12_withWorks_53 ?_
    refine J_bipush hx (10 : Int32) dX12_withWorks_55 rfl ?_
    refine J_icmp_ge hx 87 dX12_withWorks_57 rfl (fun h1 => ?_) (fun h1 => ?_)
    · replace h := pos h h1
      refine J_ll4 hx rfl rfl dX12_withWorks_87 ?_
      refine J_al4 hx rfl rfl dX12_withWorks_88 ?_
      refine g12_4 hx hW 76 (rfl : kd 0 = 1) fl_X12_44 rfl dX12_withWorks_89 ?_
      refine J_il hx rfl dX12_withWorks_92 ?_
      obtain ⟨r2, hr3, h⟩ := bnd h
      refine J_wrV hx (kX5_timeOfWork  hW hr3) ml_X12_225 lk_X5_timeOfWork (ci := 4) rfl (hW.obj (rfl : kd 76 = 14) (by decide) (by decide)) (rest := [.long l3]) rfl rfl (by decide) (by decide) (Nat.le_of_ble_eq_true rfl) (Nat.le_refl 0) (Nat.le_refl 0) dX12_withWorks_94 fun G4 hW5 => ?_
      show J X 7 G4 sz 0 0 97 [some (.ref (B.1 + 0)), none, none, some (.long l3), none, some (.int l5), some (.int l6)] [.int r2.1, .long l3]
      refine J_i2l hx dX12_withWorks_97 ?_
      obtain ⟨r6, hr7, h⟩ := bnd h
      refine J_rdS hx (kX12_mixed  hW5 hr7) ml_X12_284 lk_X12_mixed (rest := []) rfl rfl (by decide) (by decide) (Nat.le_of_ble_eq_true rfl) (Nat.le_refl 0) (Nat.le_refl 0) dX12_withWorks_98 ?_
      refine J_ls4 hx rfl (by decide) (hc_of rfl) rfl dX12_withWorks_101 ?_
      refine J_iinc hx (v' := (l5 + 1)) rfl rfl (by decide) (hc_of rfl) rfl dX12_withWorks_102 ?_
      refine J_goto hx 5 dX12_withWorks_105 rfl ?_
      refine J_lw (ls' := [some (.ref (B.1 + 0)), none, none, some (.long r6), none, some (.int (l5 + 1)), none]) (lwS (lwN (lwN (lwS (lwN (lwS (lwN lwZ))))))) ?_
      exact hk5 _ _ _  hW5 h
    · replace h := neg h h1
      refine J_ll4 hx rfl rfl dX12_withWorks_60 ?_
      refine J_al4 hx rfl rfl dX12_withWorks_61 ?_
      refine g12_0 hx hW 1 (rfl : kd 0 = 1) fl_X12_10 rfl dX12_withWorks_62 ?_
      refine g6_11 hx hW 4 (rfl : kd 1 = 2) fl_X12_196 rfl dX12_withWorks_65 ?_
      refine J_il hx rfl dX12_withWorks_68 ?_
      obtain ⟨c8, hc9, h⟩ := bnd h
      refine J_a5 hx hW (41 + 2 * c8) (rfl : kd 4 = 5) hc9 rfl dX12_withWorks_70 fun hk10 => ?_
      refine J_il hx rfl dX12_withWorks_71 ?_
      obtain ⟨r11, hr12, h⟩ := bnd h
      refine J_rdV hx (kX11_placeNoted hk10 hW hr12) ml_X12_200 lk_X11_placeNoted (ci := 9) rfl (hW.obj hk10 (by decide) (by decide)) (rest := [.long l3]) rfl rfl (by decide) (by decide) (Nat.le_of_ble_eq_true rfl) (Nat.le_refl 0) (Nat.le_refl 0) dX12_withWorks_73 ?_
      refine J_i2l hx dX12_withWorks_76 ?_
      obtain ⟨r13, hr14, h⟩ := bnd h
      refine J_rdS hx (kX12_mixed  hW hr14) ml_X12_284 lk_X12_mixed (rest := []) rfl rfl (by decide) (by decide) (Nat.le_of_ble_eq_true rfl) (Nat.le_refl 0) (Nat.le_refl 0) dX12_withWorks_77 ?_
      refine J_ls4 hx rfl (by decide) (hc_of rfl) rfl dX12_withWorks_80 ?_
      refine J_iinc hx (v' := (l6 + 1)) rfl rfl (by decide) (hc_of rfl) rfl dX12_withWorks_81 ?_
      refine J_goto hx 53 dX12_withWorks_84 rfl ?_
      exact ih _ _ _ _  hW h
def sX12_withWorks_20 (k5 : Wl → Int64 → Int32 → Option (Int64 × Wl)) : Nat → Wl → Int64 → Int32 → Int32 → Option (Int64 × Wl)
  | 0, _, _, _, _ => none
  | n + 1, w, l3, l5, l6 => (if (8 : Int32) ≤ l6 then sX12_withWorks_53 k5 FU w l3 l5 (0 : Int32) else (sX8_ofWork w l5 l6).bind (fun r2 => (sX12_mixed w l3 r2.toInt64).bind (fun r4 => sX12_withWorks_20 k5 n w r4 l5 (l6 + 1))))
theorem tX12_withWorks_20 {X : Cx} {B : Bs} {sz : Nat} {r : (Int64 × Wl)} (hx : Fx X cX12_withWorks 7 RX12 4 0 0) (hr : Rt X (some .long) 0 0 (WΨ (xΓ X) B (some (.long (r.1))) r.2 sz)) (k5 : Wl → Int64 → Int32 → Option (Int64 × Wl)) (hk5 : ∀ (w : Wl) (l3 : Int64) (l5 : Int32) {G : Gf} (hW : Wd (xΓ X) B w G) (h : k5 w l3 l5 = some r), J X 7 G sz 0 0 5 [some (.ref (B.1 + 0)), none, none, some (.long l3), none, some (.int l5), none] []) : ∀ (n : Nat), ∀ (w : Wl) (l3 : Int64) (l5 : Int32) (l6 : Int32) {G : Gf} (hW : Wd (xΓ X) B w G) (h : sX12_withWorks_20 k5 n w l3 l5 l6 = some r), J X 7 G sz 0 0 20 [some (.ref (B.1 + 0)), none, none, some (.long l3), none, some (.int l5), some (.int l6)] [] := by
  intro n
  induction n with
  | zero => intro w l3 l5 l6 G hW h; rw [sX12_withWorks_20.eq_1] at h; cases h
  | succ n ih =>
    intro w l3 l5 l6 G hW h
    rw [sX12_withWorks_20.eq_2] at h
    refine J_il hx rfl dX12_withWorks_20 ?_
    refine J_bipush hx (8 : Int32) dX12_withWorks_22 rfl ?_
    refine J_icmp_ge hx 50 dX12_withWorks_24 rfl (fun h1 => ?_) (fun h1 => ?_)
    · replace h := pos h h1
      refine J_iconst hx (0 : Int32) dX12_withWorks_50 rfl ?_
      refine J_is hx (by decide) (hc_of rfl) rfl dX12_withWorks_51 ?_
      exact tX12_withWorks_53 hx hr _ hk5 _ _ _ _ _  hW h
    · replace h := neg h h1
      refine J_ll4 hx rfl rfl dX12_withWorks_27 ?_
      refine J_al4 hx rfl rfl dX12_withWorks_28 ?_
      refine g12_3 hx hW 75 (rfl : kd 0 = 1) fl_X12_35 rfl dX12_withWorks_29 ?_
      refine J_il hx rfl dX12_withWorks_32 ?_
      refine J_il hx rfl dX12_withWorks_34 ?_
      obtain ⟨r2, hr3, h⟩ := bnd h
      refine J_rdV hx (kX8_ofWork  hW hr3) ml_X12_190 lk_X8_ofWork (ci := 7) rfl (hW.obj (rfl : kd 75 = 13) (by decide) (by decide)) (rest := [.long l3]) rfl rfl (by decide) (by decide) (Nat.le_of_ble_eq_true rfl) (Nat.le_refl 0) (Nat.le_refl 0) dX12_withWorks_36 ?_
      refine J_i2l hx dX12_withWorks_39 ?_
      obtain ⟨r4, hr5, h⟩ := bnd h
      refine J_rdS hx (kX12_mixed  hW hr5) ml_X12_284 lk_X12_mixed (rest := []) rfl rfl (by decide) (by decide) (Nat.le_of_ble_eq_true rfl) (Nat.le_refl 0) (Nat.le_refl 0) dX12_withWorks_40 ?_
      refine J_ls4 hx rfl (by decide) (hc_of rfl) rfl dX12_withWorks_43 ?_
      refine J_iinc hx (v' := (l6 + 1)) rfl rfl (by decide) (hc_of rfl) rfl dX12_withWorks_44 ?_
      refine J_goto hx 20 dX12_withWorks_47 rfl ?_
      exact ih _ _ _ _  hW h
def sX12_withWorks_5 : Nat → Wl → Int64 → Int32 → Option (Int64 × Wl)
  | 0, _, _, _ => none
  | n + 1, w, l3, l5 => (if (w 1 7) ≤ l5 then some (l3, w) else sX12_withWorks_20 (fun w l3 l5 => sX12_withWorks_5 n w l3 l5) FU w l3 l5 (0 : Int32))
theorem tX12_withWorks_5 {X : Cx} {B : Bs} {sz : Nat} {r : (Int64 × Wl)} (hx : Fx X cX12_withWorks 7 RX12 4 0 0) (hr : Rt X (some .long) 0 0 (WΨ (xΓ X) B (some (.long (r.1))) r.2 sz)) : ∀ (n : Nat), ∀ (w : Wl) (l3 : Int64) (l5 : Int32) {G : Gf} (hW : Wd (xΓ X) B w G) (h : sX12_withWorks_5 n w l3 l5 = some r), J X 7 G sz 0 0 5 [some (.ref (B.1 + 0)), none, none, some (.long l3), none, some (.int l5), none] [] := by
  intro n
  induction n with
  | zero => intro w l3 l5 G hW h; rw [sX12_withWorks_5.eq_1] at h; cases h
  | succ n ih =>
    intro w l3 l5 G hW h
    rw [sX12_withWorks_5.eq_2] at h
    refine J_il hx rfl dX12_withWorks_5 ?_
    refine J_al4 hx rfl rfl dX12_withWorks_7 ?_
    refine g12_0 hx hW 1 (rfl : kd 0 = 1) fl_X12_10 rfl dX12_withWorks_8 ?_
    refine g6_7 hx hW (rfl : kd 1 = 2) fl_X12_307 dX12_withWorks_11 ?_
    refine J_icmp_ge hx 108 dX12_withWorks_14 rfl (fun h1 => ?_) (fun h1 => ?_)
    · replace h := pos h h1
      refine J_ll4 hx rfl rfl dX12_withWorks_108 ?_
      obtain rfl := Option.some.inj h
      exact J_lretW hx hr hW dX12_withWorks_109 (Nat.le_refl 0) (Nat.le_refl 0)
    · replace h := neg h h1
      refine J_iconst hx (0 : Int32) dX12_withWorks_17 rfl ?_
      refine J_is hx (by decide) (hc_of rfl) rfl dX12_withWorks_18 ?_
      exact tX12_withWorks_20 hx hr _ ih _ _ _ _ _  hW h
def sX12_withWorks (w : Wl) (l1 : Int64) : Option (Int64 × Wl) := sX12_withWorks_5 FU w l1 (0 : Int32)
theorem kX12_withWorks {l : Launch} {Γ : Gl} {B : Bs} {w : Wl} {G : Gf} {sz : Nat} {l1 : Int64} {r : (Int64 × Wl)} (hW : Wd Γ B w G) (h : sX12_withWorks w l1 = some r) : CtW l Γ yX12_withWorks cX12_withWorks 7 (some .long) 4 [.ref (B.1 + 0), .long l1] G sz B (some (.long (r.1))) r.2 := by
  refine Ct.of rfl (Nat.le_of_ble_eq_true rfl) fun X hx hr hl hΓ hnm => ?_
  subst hl hΓ
  show J X 7 G sz 0 0 0 [some (.ref (B.1 + 0)), some (.long l1), none, none, none, none, none] []
  unfold sX12_withWorks at h
  refine J_ll4 hx rfl rfl dX12_withWorks_0 ?_
  refine J_ls4 hx rfl (by decide) (hc_of rfl) rfl dX12_withWorks_1 ?_
  refine J_iconst hx (0 : Int32) dX12_withWorks_2 rfl ?_
  refine J_is hx (by decide) (hc_of rfl) rfl dX12_withWorks_3 ?_
  refine J_lw (ls' := [some (.ref (B.1 + 0)), none, none, some (.long l1), none, some (.int (0 : Int32)), none]) (lwS (lwN (lwN (lwS (lwN (lwS (lwN lwZ))))))) ?_
  exact tX12_withWorks_5 hx hr _ _ _ _  hW h
theorem dX12_digest_0 : decode cX12_digest 0 = .ok (.ldc2_w 282, 3) := by decide +kernel
theorem dX12_digest_3 : decode cX12_digest 3 = .ok (.aload_n 0, 1) := by decide +kernel
theorem dX12_digest_4 : decode cX12_digest 4 = .ok (.getfield 51, 3) := by decide +kernel
theorem dX12_digest_7 : decode cX12_digest 7 = .ok (.getfield 275, 3) := by decide +kernel
theorem dX12_digest_10 : decode cX12_digest 10 = .ok (.i2l, 1) := by decide +kernel
theorem dX12_digest_11 : decode cX12_digest 11 = .ok (.invokestatic 284, 3) := by decide +kernel
theorem dX12_digest_14 : decode cX12_digest 14 = .ok (.lstore_n 1, 1) := by decide +kernel
theorem dX12_digest_15 : decode cX12_digest 15 = .ok (.lload_n 1, 1) := by decide +kernel
theorem dX12_digest_16 : decode cX12_digest 16 = .ok (.aload_n 0, 1) := by decide +kernel
theorem dX12_digest_17 : decode cX12_digest 17 = .ok (.getfield 58, 3) := by decide +kernel
theorem dX12_digest_20 : decode cX12_digest 20 = .ok (.getfield 237, 3) := by decide +kernel
theorem dX12_digest_23 : decode cX12_digest 23 = .ok (.i2l, 1) := by decide +kernel
theorem dX12_digest_24 : decode cX12_digest 24 = .ok (.invokestatic 284, 3) := by decide +kernel
theorem dX12_digest_27 : decode cX12_digest 27 = .ok (.lstore_n 1, 1) := by decide +kernel
theorem dX12_digest_28 : decode cX12_digest 28 = .ok (.iconst 0, 1) := by decide +kernel
theorem dX12_digest_29 : decode cX12_digest 29 = .ok (.istore_n 3, 1) := by decide +kernel
theorem dX12_digest_30 : decode cX12_digest 30 = .ok (.iload_n 3, 1) := by decide +kernel
theorem dX12_digest_31 : decode cX12_digest 31 = .ok (.bipush 10, 2) := by decide +kernel
theorem dX12_digest_33 : decode cX12_digest 33 = .ok (.if_icmp .ge 23, 3) := by decide +kernel
theorem dX12_digest_36 : decode cX12_digest 36 = .ok (.lload_n 1, 1) := by decide +kernel
theorem dX12_digest_37 : decode cX12_digest 37 = .ok (.aload_n 0, 1) := by decide +kernel
theorem dX12_digest_38 : decode cX12_digest 38 = .ok (.getfield 35, 3) := by decide +kernel
theorem dX12_digest_41 : decode cX12_digest 41 = .ok (.iload_n 3, 1) := by decide +kernel
theorem dX12_digest_42 : decode cX12_digest 42 = .ok (.invokevirtual 222, 3) := by decide +kernel
theorem dX12_digest_45 : decode cX12_digest 45 = .ok (.i2l, 1) := by decide +kernel
theorem dX12_digest_46 : decode cX12_digest 46 = .ok (.invokestatic 284, 3) := by decide +kernel
theorem dX12_digest_49 : decode cX12_digest 49 = .ok (.lstore_n 1, 1) := by decide +kernel
theorem dX12_digest_50 : decode cX12_digest 50 = .ok (.iinc 3 1, 3) := by decide +kernel
theorem dX12_digest_53 : decode cX12_digest 53 = .ok (.goto (-23), 3) := by decide +kernel
theorem dX12_digest_56 : decode cX12_digest 56 = .ok (.aload_n 0, 1) := by decide +kernel
theorem dX12_digest_57 : decode cX12_digest 57 = .ok (.lload_n 1, 1) := by decide +kernel
theorem dX12_digest_58 : decode cX12_digest 58 = .ok (.invokevirtual 288, 3) := by decide +kernel
theorem dX12_digest_61 : decode cX12_digest 61 = .ok (.lstore_n 1, 1) := by decide +kernel
theorem dX12_digest_62 : decode cX12_digest 62 = .ok (.aload_n 0, 1) := by decide +kernel
theorem dX12_digest_63 : decode cX12_digest 63 = .ok (.lload_n 1, 1) := by decide +kernel
theorem dX12_digest_64 : decode cX12_digest 64 = .ok (.invokevirtual 292, 3) := by decide +kernel
theorem dX12_digest_67 : decode cX12_digest 67 = .ok (.lstore_n 1, 1) := by decide +kernel
theorem dX12_digest_68 : decode cX12_digest 68 = .ok (.aload_n 0, 1) := by decide +kernel
theorem dX12_digest_69 : decode cX12_digest 69 = .ok (.lload_n 1, 1) := by decide +kernel
theorem dX12_digest_70 : decode cX12_digest 70 = .ok (.invokevirtual 295, 3) := by decide +kernel
theorem dX12_digest_73 : decode cX12_digest 73 = .ok (.lstore_n 1, 1) := by decide +kernel
theorem dX12_digest_74 : decode cX12_digest 74 = .ok (.iconst 0, 1) := by decide +kernel
theorem dX12_digest_75 : decode cX12_digest 75 = .ok (.istore_n 3, 1) := by decide +kernel
theorem dX12_digest_76 : decode cX12_digest 76 = .ok (.iload_n 3, 1) := by decide +kernel
theorem dX12_digest_77 : decode cX12_digest 77 = .ok (.aload_n 0, 1) := by decide +kernel
theorem dX12_digest_78 : decode cX12_digest 78 = .ok (.getfield 10, 3) := by decide +kernel
theorem dX12_digest_81 : decode cX12_digest 81 = .ok (.getfield 298, 3) := by decide +kernel
theorem dX12_digest_84 : decode cX12_digest 84 = .ok (.if_icmp .ge 24, 3) := by decide +kernel
theorem dX12_digest_87 : decode cX12_digest 87 = .ok (.lload_n 1, 1) := by decide +kernel
theorem dX12_digest_88 : decode cX12_digest 88 = .ok (.aload_n 0, 1) := by decide +kernel
theorem dX12_digest_89 : decode cX12_digest 89 = .ok (.getfield 10, 3) := by decide +kernel
theorem dX12_digest_92 : decode cX12_digest 92 = .ok (.getfield 218, 3) := by decide +kernel
theorem dX12_digest_95 : decode cX12_digest 95 = .ok (.iload_n 3, 1) := by decide +kernel
theorem dX12_digest_96 : decode cX12_digest 96 = .ok (.iaload, 1) := by decide +kernel
theorem dX12_digest_97 : decode cX12_digest 97 = .ok (.i2l, 1) := by decide +kernel
theorem dX12_digest_98 : decode cX12_digest 98 = .ok (.invokestatic 284, 3) := by decide +kernel
theorem dX12_digest_101 : decode cX12_digest 101 = .ok (.lstore_n 1, 1) := by decide +kernel
theorem dX12_digest_102 : decode cX12_digest 102 = .ok (.iinc 3 1, 3) := by decide +kernel
theorem dX12_digest_105 : decode cX12_digest 105 = .ok (.goto (-29), 3) := by decide +kernel
theorem dX12_digest_108 : decode cX12_digest 108 = .ok (.lload_n 1, 1) := by decide +kernel
theorem dX12_digest_109 : decode cX12_digest 109 = .ok (.lreturn, 1) := by decide +kernel
def sX12_digest_76 : Nat → Wl → Int64 → Int32 → Option (Int64 × Wl)
  | 0, _, _, _ => none
  | n + 1, w, l1, l3 => (if (w 1 8) ≤ l3 then some (l1, w) else (idx l3 4).bind (fun c2 => (sX12_mixed w l1 ((w 5 c2).toInt64)).bind (fun r4 => sX12_digest_76 n w r4 (l3 + 1))))
theorem tX12_digest_76 {X : Cx} {B : Bs} {sz : Nat} {r : (Int64 × Wl)} (hx : Fx X cX12_digest 4 RX12 6 0 0) (hr : Rt X (some .long) 0 0 (WΨ (xΓ X) B (some (.long (r.1))) r.2 sz)) : ∀ (n : Nat), ∀ (w : Wl) (l1 : Int64) (l3 : Int32) {G : Gf} (hW : Wd (xΓ X) B w G) (h : sX12_digest_76 n w l1 l3 = some r), J X 4 G sz 0 0 76 [some (.ref (B.1 + 0)), some (.long l1), none, some (.int l3)] [] := by
  intro n
  induction n with
  | zero => intro w l1 l3 G hW h; rw [sX12_digest_76.eq_1] at h; cases h
  | succ n ih =>
    intro w l1 l3 G hW h
    rw [sX12_digest_76.eq_2] at h
    refine J_il4 hx rfl rfl dX12_digest_76 ?_
    refine J_al4 hx rfl rfl dX12_digest_77 ?_
    refine g12_0 hx hW 1 (rfl : kd 0 = 1) fl_X12_10 rfl dX12_digest_78 ?_
    refine g6_8 hx hW (rfl : kd 1 = 2) fl_X12_298 dX12_digest_81 ?_
    refine J_icmp_ge hx 108 dX12_digest_84 rfl (fun h1 => ?_) (fun h1 => ?_)
    · replace h := pos h h1
      refine J_ll4 hx rfl rfl dX12_digest_108 ?_
      obtain rfl := Option.some.inj h
      exact J_lretW hx hr hW dX12_digest_109 (Nat.le_refl 0) (Nat.le_refl 0)
    · replace h := neg h h1
      refine J_ll4 hx rfl rfl dX12_digest_87 ?_
      refine J_al4 hx rfl rfl dX12_digest_88 ?_
      refine g12_0 hx hW 1 (rfl : kd 0 = 1) fl_X12_10 rfl dX12_digest_89 ?_
      refine g6_12 hx hW 5 (rfl : kd 1 = 2) fl_X12_218 rfl dX12_digest_92 ?_
      refine J_il4 hx rfl rfl dX12_digest_95 ?_
      obtain ⟨c2, hc3, h⟩ := bnd h
      refine J_iaW hx hW (rfl : kd 5 = 104) hc3 dX12_digest_96 ?_
      refine J_i2l hx dX12_digest_97 ?_
      obtain ⟨r4, hr5, h⟩ := bnd h
      refine J_rdS hx (kX12_mixed  hW hr5) ml_X12_284 lk_X12_mixed (rest := []) rfl rfl (by decide) (by decide) (Nat.le_of_ble_eq_true rfl) (Nat.le_refl 0) (Nat.le_refl 0) dX12_digest_98 ?_
      refine J_ls4 hx rfl (by decide) (hc_of rfl) rfl dX12_digest_101 ?_
      refine J_iinc hx (v' := (l3 + 1)) rfl rfl (by decide) (hc_of rfl) rfl dX12_digest_102 ?_
      refine J_goto hx 76 dX12_digest_105 rfl ?_
      exact ih _ _ _  hW h
def sX12_digest_30 : Nat → Wl → Int64 → Int32 → Option (Int64 × Wl)
  | 0, _, _, _ => none
  | n + 1, w, l1, l3 => (if (10 : Int32) ≤ l3 then (sX12_withVenues w l1).bind (fun r2 => (sX12_withCrates w r2).bind (fun r4 => (sX12_withWorks r4.2 r4.1).bind (fun r8 => sX12_digest_76 FU r8.2 r8.1 (0 : Int32)))) else (sX8_ofWhole w l3).bind (fun r12 => (sX12_mixed w l1 r12.toInt64).bind (fun r14 => sX12_digest_30 n w r14 (l3 + 1))))
theorem tX12_digest_30 {X : Cx} {B : Bs} {sz : Nat} {r : (Int64 × Wl)} (hx : Fx X cX12_digest 4 RX12 6 0 0) (hr : Rt X (some .long) 0 0 (WΨ (xΓ X) B (some (.long (r.1))) r.2 sz)) : ∀ (n : Nat), ∀ (w : Wl) (l1 : Int64) (l3 : Int32) {G : Gf} (hW : Wd (xΓ X) B w G) (h : sX12_digest_30 n w l1 l3 = some r), J X 4 G sz 0 0 30 [some (.ref (B.1 + 0)), some (.long l1), none, some (.int l3)] [] := by
  intro n
  induction n with
  | zero => intro w l1 l3 G hW h; rw [sX12_digest_30.eq_1] at h; cases h
  | succ n ih =>
    intro w l1 l3 G hW h
    rw [sX12_digest_30.eq_2] at h
    refine J_il4 hx rfl rfl dX12_digest_30 ?_
    refine J_bipush hx (10 : Int32) dX12_digest_31 rfl ?_
    refine J_icmp_ge hx 56 dX12_digest_33 rfl (fun h1 => ?_) (fun h1 => ?_)
    · replace h := pos h h1
      refine J_al4 hx rfl rfl dX12_digest_56 ?_
      refine J_ll4 hx rfl rfl dX12_digest_57 ?_
      obtain ⟨r2, hr3, h⟩ := bnd h
      refine J_rdV hx (kX12_withVenues  hW hr3) ml_X12_288 lk_X12_withVenues (ci := 10) rfl (hW.obj (rfl : kd 0 = 1) (by decide) (by decide)) (rest := []) rfl rfl (by decide) (by decide) (Nat.le_of_ble_eq_true rfl) (Nat.le_refl 0) (Nat.le_refl 0) dX12_digest_58 ?_
      refine J_ls4 hx rfl (by decide) (hc_of rfl) rfl dX12_digest_61 ?_
      refine J_al4 hx rfl rfl dX12_digest_62 ?_
      refine J_ll4 hx rfl rfl dX12_digest_63 ?_
      obtain ⟨r4, hr5, h⟩ := bnd h
      refine J_wrV hx (kX12_withCrates  hW hr5) ml_X12_292 lk_X12_withCrates (ci := 10) rfl (hW.obj (rfl : kd 0 = 1) (by decide) (by decide)) (rest := []) rfl rfl (by decide) (by decide) (Nat.le_of_ble_eq_true rfl) (Nat.le_refl 0) (Nat.le_refl 0) dX12_digest_64 fun G6 hW7 => ?_
      show J X 4 G6 sz 0 0 67 [some (.ref (B.1 + 0)), some (.long r2), none, some (.int l3)] [.long r4.1]
      refine J_ls4 hx rfl (by decide) (hc_of rfl) rfl dX12_digest_67 ?_
      refine J_al4 hx rfl rfl dX12_digest_68 ?_
      refine J_ll4 hx rfl rfl dX12_digest_69 ?_
      obtain ⟨r8, hr9, h⟩ := bnd h
      refine J_wrV hx (kX12_withWorks  hW7 hr9) ml_X12_295 lk_X12_withWorks (ci := 10) rfl (hW7.obj (rfl : kd 0 = 1) (by decide) (by decide)) (rest := []) rfl rfl (by decide) (by decide) (Nat.le_of_ble_eq_true rfl) (Nat.le_refl 0) (Nat.le_refl 0) dX12_digest_70 fun G10 hW11 => ?_
      show J X 4 G10 sz 0 0 73 [some (.ref (B.1 + 0)), some (.long r4.1), none, some (.int l3)] [.long r8.1]
      refine J_ls4 hx rfl (by decide) (hc_of rfl) rfl dX12_digest_73 ?_
      refine J_iconst hx (0 : Int32) dX12_digest_74 rfl ?_
      refine J_is4 hx rfl (by decide) (hc_of rfl) rfl dX12_digest_75 ?_
      exact tX12_digest_76 hx hr _ _ _ _  hW11 h
    · replace h := neg h h1
      refine J_ll4 hx rfl rfl dX12_digest_36 ?_
      refine J_al4 hx rfl rfl dX12_digest_37 ?_
      refine g12_3 hx hW 75 (rfl : kd 0 = 1) fl_X12_35 rfl dX12_digest_38 ?_
      refine J_il4 hx rfl rfl dX12_digest_41 ?_
      obtain ⟨r12, hr13, h⟩ := bnd h
      refine J_rdV hx (kX8_ofWhole  hW hr13) ml_X12_222 lk_X8_ofWhole (ci := 7) rfl (hW.obj (rfl : kd 75 = 13) (by decide) (by decide)) (rest := [.long l1]) rfl rfl (by decide) (by decide) (Nat.le_of_ble_eq_true rfl) (Nat.le_refl 0) (Nat.le_refl 0) dX12_digest_42 ?_
      refine J_i2l hx dX12_digest_45 ?_
      obtain ⟨r14, hr15, h⟩ := bnd h
      refine J_rdS hx (kX12_mixed  hW hr15) ml_X12_284 lk_X12_mixed (rest := []) rfl rfl (by decide) (by decide) (Nat.le_of_ble_eq_true rfl) (Nat.le_refl 0) (Nat.le_refl 0) dX12_digest_46 ?_
      refine J_ls4 hx rfl (by decide) (hc_of rfl) rfl dX12_digest_49 ?_
      refine J_iinc hx (v' := (l3 + 1)) rfl rfl (by decide) (hc_of rfl) rfl dX12_digest_50 ?_
      refine J_goto hx 30 dX12_digest_53 rfl ?_
      exact ih _ _ _  hW h
def sX12_digest (w : Wl) : Option (Int64 × Wl) := (sX12_mixed w (43003 : Int64) ((w 78 1).toInt64)).bind (fun r1 => (sX12_mixed w r1 ((w 368 1).toInt64)).bind (fun r3 => sX12_digest_30 FU w r3 (0 : Int32)))
theorem kX12_digest {l : Launch} {Γ : Gl} {B : Bs} {w : Wl} {G : Gf} {sz : Nat} {r : (Int64 × Wl)} (hW : Wd Γ B w G) (h : sX12_digest w  = some r) : CtW l Γ yX12_digest cX12_digest 4 (some .long) 6 [.ref (B.1 + 0)] G sz B (some (.long (r.1))) r.2 := by
  refine Ct.of rfl (Nat.le_of_ble_eq_true rfl) fun X hx hr hl hΓ hnm => ?_
  subst hl hΓ
  show J X 4 G sz 0 0 0 [some (.ref (B.1 + 0)), none, none, none] []
  unfold sX12_digest at h
  refine J_ldc2 hx cn_X12_282 dX12_digest_0 ?_
  refine J_al4 hx rfl rfl dX12_digest_3 ?_
  refine g12_5 hx hW 78 (rfl : kd 0 = 1) fl_X12_51 rfl dX12_digest_4 ?_
  refine g7_1 hx hW (rfl : kd 78 = 15) fl_X12_275 dX12_digest_7 ?_
  refine J_i2l hx dX12_digest_10 ?_
  obtain ⟨r1, hr2, h⟩ := bnd h
  refine J_rdS hx (kX12_mixed  hW hr2) ml_X12_284 lk_X12_mixed (rest := []) rfl rfl (by decide) (by decide) (Nat.le_of_ble_eq_true rfl) (Nat.le_refl 0) (Nat.le_refl 0) dX12_digest_11 ?_
  refine J_ls4 hx rfl (by decide) (hc_of rfl) rfl dX12_digest_14 ?_
  refine J_ll4 hx rfl rfl dX12_digest_15 ?_
  refine J_al4 hx rfl rfl dX12_digest_16 ?_
  refine g12_6 hx hW 368 (rfl : kd 0 = 1) fl_X12_58 rfl dX12_digest_17 ?_
  refine g2_1 hx hW (rfl : kd 368 = 17) fl_X12_237 dX12_digest_20 ?_
  refine J_i2l hx dX12_digest_23 ?_
  obtain ⟨r3, hr4, h⟩ := bnd h
  refine J_rdS hx (kX12_mixed  hW hr4) ml_X12_284 lk_X12_mixed (rest := []) rfl rfl (by decide) (by decide) (Nat.le_of_ble_eq_true rfl) (Nat.le_refl 0) (Nat.le_refl 0) dX12_digest_24 ?_
  refine J_ls4 hx rfl (by decide) (hc_of rfl) rfl dX12_digest_27 ?_
  refine J_iconst hx (0 : Int32) dX12_digest_28 rfl ?_
  refine J_is4 hx rfl (by decide) (hc_of rfl) rfl dX12_digest_29 ?_
  exact tX12_digest_30 hx hr _ _ _ _  hW h
