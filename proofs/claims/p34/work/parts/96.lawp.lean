/-! The pieces of the law, by program: wip/p34/lawgen.py -/
/-- lot on the script -/
def LoK (X : Cx) (sb : Nat) (lo : Int32 → Option Int32) : Prop := ∀ (G : Gf) (sz : Nat) (k v : Int32), lo k = some v → CtR (xl X) (xΓ X) yL_lot cL_lot 2 (some .int) 1 [.ref sb, .int k] G sz (.int v)
theorem dL_law_8 : decode cL_law 8 = .ok (.aload_n 1, 1) := by decide +kernel
theorem dL_law_9 : decode cL_law 9 = .ok (.invokestatic 182, 3) := by decide +kernel
theorem dL_law_12 : decode cL_law 12 = .ok (.ifCond .eq 33, 3) := by decide +kernel
theorem dL_law_15 : decode cL_law 15 = .ok (.aload_n 1, 1) := by decide +kernel
theorem dL_law_16 : decode cL_law 16 = .ok (.invokestatic 133, 3) := by decide +kernel
theorem dL_law_19 : decode cL_law 19 = .ok (.ldc 20, 2) := by decide +kernel
theorem dL_law_21 : decode cL_law 21 = .ok (.if_icmp .ne 24, 3) := by decide +kernel
theorem dL_law_24 : decode cL_law 24 = .ok (.aload_n 1, 1) := by decide +kernel
theorem dL_law_25 : decode cL_law 25 = .ok (.invokestatic 186, 3) := by decide +kernel
theorem dL_law_28 : decode cL_law 28 = .ok (.ifCond .eq 17, 3) := by decide +kernel
theorem dL_law_31 : decode cL_law 31 = .ok (.aload_n 1, 1) := by decide +kernel
theorem dL_law_32 : decode cL_law 32 = .ok (.invokevirtual 189, 3) := by decide +kernel
theorem dL_law_35 : decode cL_law 35 = .ok (.ifCond .ne 10, 3) := by decide +kernel
theorem dL_law_38 : decode cL_law 38 = .ok (.aload_n 1, 1) := by decide +kernel
theorem dL_law_39 : decode cL_law 39 = .ok (.invokestatic 133, 3) := by decide +kernel
theorem dL_law_42 : decode cL_law 42 = .ok (.ifCond .eq 5, 3) := by decide +kernel
theorem dL_law_45 : decode cL_law 45 = .ok (.iconst 0, 1) := by decide +kernel
theorem dL_law_46 : decode cL_law 46 = .ok (.ireturn, 1) := by decide +kernel
theorem dL_law_47 : decode cL_law 47 = .ok (.iconst 0, 1) := by decide +kernel
theorem dL_law_48 : decode cL_law 48 = .ok (.istore_n 2, 1) := by decide +kernel
def sL_pro (lo : Int32 → Option Int32) (ln : Int32) (w : Wl) : Option Wl := (sL_refuses w ).bind (fun r1 => (if r1.1 = true then (sL_undo r1.2).bind (fun r7 => (if r7.1 = (-90200 : Int32) then (sL_sound r7.2 ).bind (fun r13 => (if r13.1 = true then (sX12_runCommands r13.2 ).bind (fun r18 => (if r18.1 = 0 then (sO_undo r18.2).bind (fun r23 => (if r23.1 = 0 then some r23.2 else none)) else none)) else none)) else none)) else none))
theorem kL_pro {X : Cx} {B : Bs} {sz : Nat} {G : Gf} {w r : Wl} {sb k n : Nat} {lo : Int32 → Option Int32} {ln : Int32} (hx : Fx X code 16 RL 12 642985 7172742) (hC : GC (xΓ X) B) (htr : (xl X).stackTraces = false) (hX : LoK X sb lo) (hk : k + 32 ≤ 642985) (hn : n + 192 ≤ 7172742) (kk : ∀ (G' : Gf) (sz' : Nat), Wd (xΓ X) B r G' → J X 16 G' sz' (k + 32) (n + 192) 49 [some (.ref sb), some (.ref (B.1 + 0)), some (.int (0 : Int32)), none, none, none, none, none, none, none, none, none, none, none, none, none] []) (hW : Wd (xΓ X) B w G) (h : sL_pro lo ln w = some r) : J X 16 G sz k n 8 [some (.ref sb), some (.ref (B.1 + 0)), none, none, none, none, none, none, none, none, none, none, none, none, none, none] [] := by
  unfold sL_pro at h
  refine J_al4 hx rfl rfl dL_law_8 ?_
  obtain ⟨r1, hr2, h⟩ := bnd h
  refine J_callS hx (kL_refuses  hC htr hW hr2) ml_L_182 lk_L_refuses (rest := []) rfl rfl (by decide) (by decide) (Nat.le_of_ble_eq_true rfl) (by omega) (by omega) dL_law_9 fun x1 G3 z5 hh => ?_
  obtain ⟨rfl, hW4⟩ := hh
  show J X 16 G3 z5 (k + 31) (n + 186) 12 [some (.ref sb), some (.ref (B.1 + 0)), none, none, none, none, none, none, none, none, none, none, none, none, none, none] [.int (bI r1.1)]
  refine J_bif_eq hx 45 dL_law_12 rfl (fun h6 => ?_) (fun h6 => ?_)
  · replace h := neg h (bft h6)
    refine J_iconst hx (0 : Int32) dL_law_45 rfl ?_
    cases h
  · replace h := pos h h6
    refine J_al4 hx rfl rfl dL_law_15 ?_
    obtain ⟨r7, hr8, h⟩ := bnd h
    refine J_callSW hx (kL_undo htr hC hW4 hr8) ml_L_133 cw_undo st_undo ini_L hy_undo (rest := []) rfl rfl (by decide) (by decide) (Nat.le_of_ble_eq_true rfl) (by omega) (by omega) dL_law_16 fun x1 G9 z11 hh => ?_
    obtain ⟨rfl, hW10⟩ := hh
    show J X 16 G9 z11 (k + 32) (n + 192) 19 [some (.ref sb), some (.ref (B.1 + 0)), none, none, none, none, none, none, none, none, none, none, none, none, none, none] [.int r7.1]
    refine J_ldc hx cn_L_20 dL_law_19 ?_
    refine J_icmp_ne hx 45 dL_law_21 rfl (fun h12 => ?_) (fun h12 => ?_)
    · replace h := neg h h12
      refine J_iconst hx (0 : Int32) dL_law_45 rfl ?_
      cases h
    · replace h := pos h h12
      refine J_al4 hx rfl rfl dL_law_24 ?_
      obtain ⟨r13, hr14, h⟩ := bnd h
      refine J_wrS hx (kL_sound  hC htr hW10 hr14) ml_L_186 lk_L_sound (rest := []) rfl rfl (by decide) (by decide) (Nat.le_of_ble_eq_true rfl) (by omega) (by omega) dL_law_25 fun G15 hW16 => ?_
      show J X 16 G15 z11 (k + 32) (n + 192) 28 [some (.ref sb), some (.ref (B.1 + 0)), none, none, none, none, none, none, none, none, none, none, none, none, none, none] [.int (bI r13.1)]
      refine J_bif_eq hx 45 dL_law_28 rfl (fun h17 => ?_) (fun h17 => ?_)
      · replace h := neg h (bft h17)
        refine J_iconst hx (0 : Int32) dL_law_45 rfl ?_
        cases h
      · replace h := pos h h17
        refine J_al4 hx rfl rfl dL_law_31 ?_
        obtain ⟨r18, hr19, h⟩ := bnd h
        refine J_wrV hx (kX12_runCommands  hC hW16 hr19) ml_L_189 lk_X12_runCommands (ci := 10) rfl (hW16.obj (rfl : kd 0 = 1) (by decide) (by decide)) (rest := []) rfl rfl (by decide) (by decide) (Nat.le_of_ble_eq_true rfl) (by omega) (by omega) dL_law_32 fun G20 hW21 => ?_
        show J X 16 G20 z11 (k + 32) (n + 192) 35 [some (.ref sb), some (.ref (B.1 + 0)), none, none, none, none, none, none, none, none, none, none, none, none, none, none] [.int r18.1]
        refine J_if_ne hx 45 dL_law_35 rfl (fun h22 => ?_) (fun h22 => ?_)
        · replace h := neg h h22
          refine J_iconst hx (0 : Int32) dL_law_45 rfl ?_
          cases h
        · replace h := pos h h22
          refine J_al4 hx rfl rfl dL_law_38 ?_
          obtain ⟨r23, hr24, h⟩ := bnd h
          refine J_wrL hx (kP_undo hC hW21 (okS_e hr24)) ml_L_133 cw_undo st_undo ini_L hy_undo (rest := []) rfl rfl (by decide) (by decide) (Nat.le_of_ble_eq_true rfl) (by omega) (by omega) dL_law_39 fun G25 hW26 => ?_
          show J X 16 G25 z11 (k + 32) (n + 192) 42 [some (.ref sb), some (.ref (B.1 + 0)), none, none, none, none, none, none, none, none, none, none, none, none, none, none] [.int r23.1]
          refine J_if_eq hx 47 dL_law_42 rfl (fun h27 => ?_) (fun h27 => ?_)
          · replace h := pos h h27
            refine J_iconst hx (0 : Int32) dL_law_47 rfl ?_
            refine J_is4 hx rfl (by decide) (hc_of rfl) rfl dL_law_48 ?_
            obtain rfl := Option.some.inj h
            exact kk _ _ hW26
          · replace h := neg h h27
            refine J_iconst hx (0 : Int32) dL_law_45 rfl ?_
            cases h
theorem dL_law_55 : decode cL_law 55 = .ok (.aload_n 0, 1) := by decide +kernel
theorem dL_law_56 : decode cL_law 56 = .ok (.iconst 2, 1) := by decide +kernel
theorem dL_law_57 : decode cL_law 57 = .ok (.iload_n 2, 1) := by decide +kernel
theorem dL_law_58 : decode cL_law 58 = .ok (.imul, 1) := by decide +kernel
theorem dL_law_59 : decode cL_law 59 = .ok (.invokestatic 192, 3) := by decide +kernel
theorem dL_law_62 : decode cL_law 62 = .ok (.istore_n 3, 1) := by decide +kernel
theorem dL_law_63 : decode cL_law 63 = .ok (.aload_n 0, 1) := by decide +kernel
theorem dL_law_64 : decode cL_law 64 = .ok (.iconst 2, 1) := by decide +kernel
theorem dL_law_65 : decode cL_law 65 = .ok (.iload_n 2, 1) := by decide +kernel
theorem dL_law_66 : decode cL_law 66 = .ok (.imul, 1) := by decide +kernel
theorem dL_law_67 : decode cL_law 67 = .ok (.iconst 1, 1) := by decide +kernel
theorem dL_law_68 : decode cL_law 68 = .ok (.iadd, 1) := by decide +kernel
theorem dL_law_69 : decode cL_law 69 = .ok (.invokestatic 192, 3) := by decide +kernel
theorem dL_law_72 : decode cL_law 72 = .ok (.istore 4, 2) := by decide +kernel
theorem dL_law_74 : decode cL_law 74 = .ok (.aload_n 1, 1) := by decide +kernel
theorem dL_law_75 : decode cL_law 75 = .ok (.iconst 1, 1) := by decide +kernel
theorem dL_law_76 : decode cL_law 76 = .ok (.invokestatic 110, 3) := by decide +kernel
theorem dL_law_79 : decode cL_law 79 = .ok (.istore 5, 2) := by decide +kernel
theorem dL_law_81 : decode cL_law 81 = .ok (.aload_n 1, 1) := by decide +kernel
theorem dL_law_82 : decode cL_law 82 = .ok (.iconst 2, 1) := by decide +kernel
theorem dL_law_83 : decode cL_law 83 = .ok (.invokestatic 110, 3) := by decide +kernel
theorem dL_law_86 : decode cL_law 86 = .ok (.istore 6, 2) := by decide +kernel
theorem dL_law_88 : decode cL_law 88 = .ok (.aload_n 1, 1) := by decide +kernel
theorem dL_law_89 : decode cL_law 89 = .ok (.iconst 3, 1) := by decide +kernel
theorem dL_law_90 : decode cL_law 90 = .ok (.invokestatic 110, 3) := by decide +kernel
theorem dL_law_93 : decode cL_law 93 = .ok (.istore 7, 2) := by decide +kernel
theorem dL_law_95 : decode cL_law 95 = .ok (.aload_n 1, 1) := by decide +kernel
theorem dL_law_96 : decode cL_law 96 = .ok (.iconst 4, 1) := by decide +kernel
theorem dL_law_97 : decode cL_law 97 = .ok (.invokestatic 110, 3) := by decide +kernel
theorem dL_law_100 : decode cL_law 100 = .ok (.istore 8, 2) := by decide +kernel
theorem dL_law_102 : decode cL_law 102 = .ok (.iload_n 2, 1) := by decide +kernel
theorem dL_law_103 : decode cL_law 103 = .ok (.iconst 3, 1) := by decide +kernel
theorem dL_law_104 : decode cL_law 104 = .ok (.if_icmp .ge 7, 3) := by decide +kernel
theorem dL_law_107 : decode cL_law 107 = .ok (.iconst 0, 1) := by decide +kernel
theorem dL_law_108 : decode cL_law 108 = .ok (.goto 49, 3) := by decide +kernel
theorem dL_law_111 : decode cL_law 111 = .ok (.iload_n 2, 1) := by decide +kernel
theorem dL_law_112 : decode cL_law 112 = .ok (.bipush 8, 2) := by decide +kernel
theorem dL_law_114 : decode cL_law 114 = .ok (.if_icmp .ge 7, 3) := by decide +kernel
theorem dL_law_117 : decode cL_law 117 = .ok (.iconst 1, 1) := by decide +kernel
theorem dL_law_118 : decode cL_law 118 = .ok (.goto 39, 3) := by decide +kernel
theorem dL_law_121 : decode cL_law 121 = .ok (.iload_n 2, 1) := by decide +kernel
theorem dL_law_122 : decode cL_law 122 = .ok (.bipush 13, 2) := by decide +kernel
theorem dL_law_124 : decode cL_law 124 = .ok (.if_icmp .ge 7, 3) := by decide +kernel
theorem dL_law_127 : decode cL_law 127 = .ok (.iconst 2, 1) := by decide +kernel
theorem dL_law_128 : decode cL_law 128 = .ok (.goto 29, 3) := by decide +kernel
theorem dL_law_131 : decode cL_law 131 = .ok (.iload_n 2, 1) := by decide +kernel
theorem dL_law_132 : decode cL_law 132 = .ok (.bipush 19, 2) := by decide +kernel
theorem dL_law_134 : decode cL_law 134 = .ok (.if_icmp .ge 7, 3) := by decide +kernel
theorem dL_law_137 : decode cL_law 137 = .ok (.iconst 3, 1) := by decide +kernel
theorem dL_law_138 : decode cL_law 138 = .ok (.goto 19, 3) := by decide +kernel
theorem dL_law_141 : decode cL_law 141 = .ok (.iload_n 2, 1) := by decide +kernel
theorem dL_law_142 : decode cL_law 142 = .ok (.bipush 21, 2) := by decide +kernel
theorem dL_law_144 : decode cL_law 144 = .ok (.if_icmp .ge 7, 3) := by decide +kernel
theorem dL_law_147 : decode cL_law 147 = .ok (.iconst 4, 1) := by decide +kernel
theorem dL_law_148 : decode cL_law 148 = .ok (.goto 9, 3) := by decide +kernel
theorem dL_law_151 : decode cL_law 151 = .ok (.iload_n 3, 1) := by decide +kernel
theorem dL_law_152 : decode cL_law 152 = .ok (.bipush 22, 2) := by decide +kernel
theorem dL_law_154 : decode cL_law 154 = .ok (.invokestatic 128, 3) := by decide +kernel
theorem dL_law_157 : decode cL_law 157 = .ok (.istore 9, 2) := by decide +kernel
theorem dL_law_159 : decode cL_law 159 = .ok (.iload 5, 2) := by decide +kernel
theorem dL_law_161 : decode cL_law 161 = .ok (.ifCond .ne 7, 3) := by decide +kernel
theorem dL_law_164 : decode cL_law 164 = .ok (.iconst 0, 1) := by decide +kernel
theorem dL_law_165 : decode cL_law 165 = .ok (.goto 11, 3) := by decide +kernel
theorem dL_law_168 : decode cL_law 168 = .ok (.iload_n 3, 1) := by decide +kernel
theorem dL_law_169 : decode cL_law 169 = .ok (.iconst 5, 1) := by decide +kernel
theorem dL_law_170 : decode cL_law 170 = .ok (.ishr, 1) := by decide +kernel
theorem dL_law_171 : decode cL_law 171 = .ok (.iload 5, 2) := by decide +kernel
theorem dL_law_173 : decode cL_law 173 = .ok (.invokestatic 128, 3) := by decide +kernel
theorem dL_law_176 : decode cL_law 176 = .ok (.istore 10, 2) := by decide +kernel
theorem dL_law_178 : decode cL_law 178 = .ok (.iload 6, 2) := by decide +kernel
theorem dL_law_180 : decode cL_law 180 = .ok (.ifCond .ne 7, 3) := by decide +kernel
theorem dL_law_183 : decode cL_law 183 = .ok (.iconst 0, 1) := by decide +kernel
theorem dL_law_184 : decode cL_law 184 = .ok (.goto 12, 3) := by decide +kernel
theorem dL_law_187 : decode cL_law 187 = .ok (.iload_n 3, 1) := by decide +kernel
theorem dL_law_188 : decode cL_law 188 = .ok (.bipush 8, 2) := by decide +kernel
theorem dL_law_190 : decode cL_law 190 = .ok (.ishr, 1) := by decide +kernel
theorem dL_law_191 : decode cL_law 191 = .ok (.iload 6, 2) := by decide +kernel
theorem dL_law_193 : decode cL_law 193 = .ok (.invokestatic 128, 3) := by decide +kernel
theorem dL_law_196 : decode cL_law 196 = .ok (.istore 11, 2) := by decide +kernel
theorem dL_law_198 : decode cL_law 198 = .ok (.iload 7, 2) := by decide +kernel
theorem dL_law_200 : decode cL_law 200 = .ok (.ifCond .ne 7, 3) := by decide +kernel
theorem dL_law_203 : decode cL_law 203 = .ok (.iconst 0, 1) := by decide +kernel
theorem dL_law_204 : decode cL_law 204 = .ok (.goto 12, 3) := by decide +kernel
theorem dL_law_207 : decode cL_law 207 = .ok (.iload_n 3, 1) := by decide +kernel
theorem dL_law_208 : decode cL_law 208 = .ok (.bipush 12, 2) := by decide +kernel
theorem dL_law_210 : decode cL_law 210 = .ok (.ishr, 1) := by decide +kernel
theorem dL_law_211 : decode cL_law 211 = .ok (.iload 7, 2) := by decide +kernel
theorem dL_law_213 : decode cL_law 213 = .ok (.invokestatic 128, 3) := by decide +kernel
theorem dL_law_216 : decode cL_law 216 = .ok (.istore 12, 2) := by decide +kernel
theorem dL_law_218 : decode cL_law 218 = .ok (.iload 9, 2) := by decide +kernel
theorem dL_law_220 : decode cL_law 220 = .ok (.ifCond .ne 123, 3) := by decide +kernel
theorem dL_law_223 : decode cL_law 223 = .ok (.aload_n 1, 1) := by decide +kernel
theorem dL_law_224 : decode cL_law 224 = .ok (.iload 4, 2) := by decide +kernel
theorem dL_law_226 : decode cL_law 226 = .ok (.bipush 51, 2) := by decide +kernel
theorem dL_law_228 : decode cL_law 228 = .ok (.invokestatic 128, 3) := by decide +kernel
theorem dL_law_231 : decode cL_law 231 = .ok (.bipush 10, 2) := by decide +kernel
theorem dL_law_233 : decode cL_law 233 = .ok (.isub, 1) := by decide +kernel
theorem dL_law_234 : decode cL_law 234 = .ok (.bipush 20, 2) := by decide +kernel
theorem dL_law_236 : decode cL_law 236 = .ok (.iload 4, 2) := by decide +kernel
theorem dL_law_238 : decode cL_law 238 = .ok (.bipush 6, 2) := by decide +kernel
theorem dL_law_240 : decode cL_law 240 = .ok (.ishr, 1) := by decide +kernel
theorem dL_law_241 : decode cL_law 241 = .ok (.bipush 71, 2) := by decide +kernel
theorem dL_law_243 : decode cL_law 243 = .ok (.invokestatic 128, 3) := by decide +kernel
theorem dL_law_246 : decode cL_law 246 = .ok (.iadd, 1) := by decide +kernel
theorem dL_law_247 : decode cL_law 247 = .ok (.iload 4, 2) := by decide +kernel
theorem dL_law_249 : decode cL_law 249 = .ok (.bipush 13, 2) := by decide +kernel
theorem dL_law_251 : decode cL_law 251 = .ok (.ishr, 1) := by decide +kernel
theorem dL_law_252 : decode cL_law 252 = .ok (.sipush 501, 3) := by decide +kernel
theorem dL_law_255 : decode cL_law 255 = .ok (.invokestatic 128, 3) := by decide +kernel
theorem dL_law_258 : decode cL_law 258 = .ok (.iload 4, 2) := by decide +kernel
theorem dL_law_260 : decode cL_law 260 = .ok (.bipush 22, 2) := by decide +kernel
theorem dL_law_262 : decode cL_law 262 = .ok (.ishr, 1) := by decide +kernel
theorem dL_law_263 : decode cL_law 263 = .ok (.iconst 3, 1) := by decide +kernel
theorem dL_law_264 : decode cL_law 264 = .ok (.invokestatic 128, 3) := by decide +kernel
theorem dL_law_267 : decode cL_law 267 = .ok (.ifCond .ne 9, 3) := by decide +kernel
theorem dL_law_270 : decode cL_law 270 = .ok (.sipush 2000, 3) := by decide +kernel
theorem dL_law_273 : decode cL_law 273 = .ok (.goto 5, 3) := by decide +kernel
theorem dL_law_276 : decode cL_law 276 = .ok (.ldc 196, 2) := by decide +kernel
theorem dL_law_278 : decode cL_law 278 = .ok (.invokestatic 161, 3) := by decide +kernel
theorem dL_law_281 : decode cL_law 281 = .ok (.istore 13, 2) := by decide +kernel
theorem dL_law_283 : decode cL_law 283 = .ok (.iload 13, 2) := by decide +kernel
theorem dL_law_285 : decode cL_law 285 = .ok (.iload 5, 2) := by decide +kernel
theorem dL_law_287 : decode cL_law 287 = .ok (.bipush 8, 2) := by decide +kernel
theorem dL_law_289 : decode cL_law 289 = .ok (.if_icmp .ne 8, 3) := by decide +kernel
theorem dL_law_292 : decode cL_law 292 = .ok (.ldc 20, 2) := by decide +kernel
theorem dL_law_294 : decode cL_law 294 = .ok (.goto 5, 3) := by decide +kernel
theorem dL_law_297 : decode cL_law 297 = .ok (.iload 5, 2) := by decide +kernel
theorem dL_law_299 : decode cL_law 299 = .ok (.if_icmp .ne 39, 3) := by decide +kernel
theorem dL_law_302 : decode cL_law 302 = .ok (.iload 13, 2) := by decide +kernel
theorem dL_law_304 : decode cL_law 304 = .ok (.ifCond .lt 36, 3) := by decide +kernel
theorem dL_law_307 : decode cL_law 307 = .ok (.aload_n 1, 1) := by decide +kernel
theorem dL_law_308 : decode cL_law 308 = .ok (.iload 13, 2) := by decide +kernel
theorem dL_law_310 : decode cL_law 310 = .ok (.iconst 0, 1) := by decide +kernel
theorem dL_law_311 : decode cL_law 311 = .ok (.invokestatic 124, 3) := by decide +kernel
theorem dL_law_314 : decode cL_law 314 = .ok (.iload 4, 2) := by decide +kernel
theorem dL_law_316 : decode cL_law 316 = .ok (.bipush 51, 2) := by decide +kernel
theorem dL_law_318 : decode cL_law 318 = .ok (.invokestatic 128, 3) := by decide +kernel
theorem dL_law_321 : decode cL_law 321 = .ok (.bipush 10, 2) := by decide +kernel
theorem dL_law_323 : decode cL_law 323 = .ok (.isub, 1) := by decide +kernel
theorem dL_law_324 : decode cL_law 324 = .ok (.if_icmp .ne 14, 3) := by decide +kernel
theorem dL_law_327 : decode cL_law 327 = .ok (.aload_n 1, 1) := by decide +kernel
theorem dL_law_328 : decode cL_law 328 = .ok (.iload 13, 2) := by decide +kernel
theorem dL_law_330 : decode cL_law 330 = .ok (.bipush 8, 2) := by decide +kernel
theorem dL_law_332 : decode cL_law 332 = .ok (.invokestatic 124, 3) := by decide +kernel
theorem dL_law_335 : decode cL_law 335 = .ok (.ifCond .eq 5, 3) := by decide +kernel
theorem dL_law_338 : decode cL_law 338 = .ok (.iconst 0, 1) := by decide +kernel
theorem dL_law_339 : decode cL_law 339 = .ok (.ireturn, 1) := by decide +kernel
theorem dL_law_340 : decode cL_law 340 = .ok (.goto 704, 3) := by decide +kernel
theorem dL_law_343 : decode cL_law 343 = .ok (.iload 9, 2) := by decide +kernel
theorem dL_law_345 : decode cL_law 345 = .ok (.iconst 1, 1) := by decide +kernel
theorem dL_law_346 : decode cL_law 346 = .ok (.if_icmp .ne 91, 3) := by decide +kernel
theorem dL_law_349 : decode cL_law 349 = .ok (.iload 4, 2) := by decide +kernel
theorem dL_law_351 : decode cL_law 351 = .ok (.iload 5, 2) := by decide +kernel
theorem dL_law_353 : decode cL_law 353 = .ok (.invokestatic 128, 3) := by decide +kernel
theorem dL_law_356 : decode cL_law 356 = .ok (.istore 13, 2) := by decide +kernel
theorem dL_law_358 : decode cL_law 358 = .ok (.iconst 1, 1) := by decide +kernel
theorem dL_law_359 : decode cL_law 359 = .ok (.iload 4, 2) := by decide +kernel
theorem dL_law_361 : decode cL_law 361 = .ok (.iconst 4, 1) := by decide +kernel
theorem dL_law_362 : decode cL_law 362 = .ok (.ishr, 1) := by decide +kernel
theorem dL_law_363 : decode cL_law 363 = .ok (.bipush 40, 2) := by decide +kernel
theorem dL_law_365 : decode cL_law 365 = .ok (.invokestatic 128, 3) := by decide +kernel
theorem dL_law_368 : decode cL_law 368 = .ok (.iadd, 1) := by decide +kernel
theorem dL_law_369 : decode cL_law 369 = .ok (.istore 14, 2) := by decide +kernel
theorem dL_law_371 : decode cL_law 371 = .ok (.aload_n 1, 1) := by decide +kernel
theorem dL_law_372 : decode cL_law 372 = .ok (.iload 10, 2) := by decide +kernel
theorem dL_law_374 : decode cL_law 374 = .ok (.iload 13, 2) := by decide +kernel
theorem dL_law_376 : decode cL_law 376 = .ok (.iload 14, 2) := by decide +kernel
theorem dL_law_378 : decode cL_law 378 = .ok (.invokestatic 166, 3) := by decide +kernel
theorem dL_law_381 : decode cL_law 381 = .ok (.istore 15, 2) := by decide +kernel
theorem dL_law_383 : decode cL_law 383 = .ok (.iload 15, 2) := by decide +kernel
theorem dL_law_385 : decode cL_law 385 = .ok (.ldc 17, 2) := by decide +kernel
theorem dL_law_387 : decode cL_law 387 = .ok (.if_icmp .eq 7, 3) := by decide +kernel
theorem dL_law_390 : decode cL_law 390 = .ok (.iconst 1, 1) := by decide +kernel
theorem dL_law_391 : decode cL_law 391 = .ok (.goto 4, 3) := by decide +kernel
theorem dL_law_394 : decode cL_law 394 = .ok (.iconst 0, 1) := by decide +kernel
theorem dL_law_395 : decode cL_law 395 = .ok (.iload 10, 2) := by decide +kernel
theorem dL_law_397 : decode cL_law 397 = .ok (.iload 13, 2) := by decide +kernel
theorem dL_law_399 : decode cL_law 399 = .ok (.if_icmp .eq 7, 3) := by decide +kernel
theorem dL_law_402 : decode cL_law 402 = .ok (.iconst 1, 1) := by decide +kernel
theorem dL_law_403 : decode cL_law 403 = .ok (.goto 4, 3) := by decide +kernel
theorem dL_law_406 : decode cL_law 406 = .ok (.iconst 0, 1) := by decide +kernel
theorem dL_law_407 : decode cL_law 407 = .ok (.if_icmp .ne 25, 3) := by decide +kernel
theorem dL_law_410 : decode cL_law 410 = .ok (.iload 10, 2) := by decide +kernel
theorem dL_law_412 : decode cL_law 412 = .ok (.iload 13, 2) := by decide +kernel
theorem dL_law_414 : decode cL_law 414 = .ok (.if_icmp .eq 20, 3) := by decide +kernel
theorem dL_law_417 : decode cL_law 417 = .ok (.aload_n 1, 1) := by decide +kernel
theorem dL_law_418 : decode cL_law 418 = .ok (.iload 13, 2) := by decide +kernel
theorem dL_law_420 : decode cL_law 420 = .ok (.iload 10, 2) := by decide +kernel
theorem dL_law_422 : decode cL_law 422 = .ok (.iload 14, 2) := by decide +kernel
theorem dL_law_424 : decode cL_law 424 = .ok (.invokestatic 166, 3) := by decide +kernel
theorem dL_law_427 : decode cL_law 427 = .ok (.iload 14, 2) := by decide +kernel
theorem dL_law_429 : decode cL_law 429 = .ok (.if_icmp .eq 5, 3) := by decide +kernel
theorem dL_law_432 : decode cL_law 432 = .ok (.iconst 0, 1) := by decide +kernel
theorem dL_law_433 : decode cL_law 433 = .ok (.ireturn, 1) := by decide +kernel
theorem dL_law_434 : decode cL_law 434 = .ok (.goto 610, 3) := by decide +kernel
theorem dL_law_437 : decode cL_law 437 = .ok (.iload 9, 2) := by decide +kernel
theorem dL_law_439 : decode cL_law 439 = .ok (.iconst 2, 1) := by decide +kernel
theorem dL_law_440 : decode cL_law 440 = .ok (.if_icmp .ne 115, 3) := by decide +kernel
theorem dL_law_443 : decode cL_law 443 = .ok (.iload_n 2, 1) := by decide +kernel
theorem dL_law_444 : decode cL_law 444 = .ok (.bipush 13, 2) := by decide +kernel
theorem dL_law_446 : decode cL_law 446 = .ok (.if_icmp .ge 7, 3) := by decide +kernel
theorem dL_law_449 : decode cL_law 449 = .ok (.iconst 0, 1) := by decide +kernel
theorem dL_law_450 : decode cL_law 450 = .ok (.goto 5, 3) := by decide +kernel
theorem dL_law_453 : decode cL_law 453 = .ok (.iload 10, 2) := by decide +kernel
theorem dL_law_455 : decode cL_law 455 = .ok (.istore 13, 2) := by decide +kernel
theorem dL_law_457 : decode cL_law 457 = .ok (.aload_n 1, 1) := by decide +kernel
theorem dL_law_458 : decode cL_law 458 = .ok (.iload 13, 2) := by decide +kernel
theorem dL_law_460 : decode cL_law 460 = .ok (.iconst 1, 1) := by decide +kernel
theorem dL_law_461 : decode cL_law 461 = .ok (.iload 4, 2) := by decide +kernel
theorem dL_law_463 : decode cL_law 463 = .ok (.iconst 4, 1) := by decide +kernel
theorem dL_law_464 : decode cL_law 464 = .ok (.invokestatic 128, 3) := by decide +kernel
theorem dL_law_467 : decode cL_law 467 = .ok (.iadd, 1) := by decide +kernel
theorem dL_law_468 : decode cL_law 468 = .ok (.invokestatic 174, 3) := by decide +kernel
theorem dL_law_471 : decode cL_law 471 = .ok (.istore 14, 2) := by decide +kernel
theorem dL_law_473 : decode cL_law 473 = .ok (.iload 14, 2) := by decide +kernel
theorem dL_law_475 : decode cL_law 475 = .ok (.iload 6, 2) := by decide +kernel
theorem dL_law_477 : decode cL_law 477 = .ok (.bipush 12, 2) := by decide +kernel
theorem dL_law_479 : decode cL_law 479 = .ok (.if_icmp .ne 8, 3) := by decide +kernel
theorem dL_law_482 : decode cL_law 482 = .ok (.ldc 20, 2) := by decide +kernel
theorem dL_law_484 : decode cL_law 484 = .ok (.goto 5, 3) := by decide +kernel
theorem dL_law_487 : decode cL_law 487 = .ok (.iload 6, 2) := by decide +kernel
theorem dL_law_489 : decode cL_law 489 = .ok (.if_icmp .ne 61, 3) := by decide +kernel
theorem dL_law_492 : decode cL_law 492 = .ok (.iload 14, 2) := by decide +kernel
theorem dL_law_494 : decode cL_law 494 = .ok (.ifCond .lt 58, 3) := by decide +kernel
theorem dL_law_497 : decode cL_law 497 = .ok (.aload_n 1, 1) := by decide +kernel
theorem dL_law_498 : decode cL_law 498 = .ok (.iload 14, 2) := by decide +kernel
theorem dL_law_500 : decode cL_law 500 = .ok (.iconst 1, 1) := by decide +kernel
theorem dL_law_501 : decode cL_law 501 = .ok (.invokestatic 118, 3) := by decide +kernel
theorem dL_law_504 : decode cL_law 504 = .ok (.iconst 1, 1) := by decide +kernel
theorem dL_law_505 : decode cL_law 505 = .ok (.if_icmp .ne 45, 3) := by decide +kernel
theorem dL_law_508 : decode cL_law 508 = .ok (.aload_n 1, 1) := by decide +kernel
theorem dL_law_509 : decode cL_law 509 = .ok (.iload 14, 2) := by decide +kernel
theorem dL_law_511 : decode cL_law 511 = .ok (.iconst 3, 1) := by decide +kernel
theorem dL_law_512 : decode cL_law 512 = .ok (.invokestatic 118, 3) := by decide +kernel
theorem dL_law_515 : decode cL_law 515 = .ok (.iload 13, 2) := by decide +kernel
theorem dL_law_517 : decode cL_law 517 = .ok (.if_icmp .ne 33, 3) := by decide +kernel
theorem dL_law_520 : decode cL_law 520 = .ok (.aload_n 1, 1) := by decide +kernel
theorem dL_law_521 : decode cL_law 521 = .ok (.iload 14, 2) := by decide +kernel
theorem dL_law_523 : decode cL_law 523 = .ok (.bipush 13, 2) := by decide +kernel
theorem dL_law_525 : decode cL_law 525 = .ok (.invokestatic 118, 3) := by decide +kernel
theorem dL_law_528 : decode cL_law 528 = .ok (.iconst 1, 1) := by decide +kernel
theorem dL_law_529 : decode cL_law 529 = .ok (.if_icmp .ne 21, 3) := by decide +kernel
theorem dL_law_532 : decode cL_law 532 = .ok (.aload_n 1, 1) := by decide +kernel
theorem dL_law_533 : decode cL_law 533 = .ok (.iload 14, 2) := by decide +kernel
theorem dL_law_535 : decode cL_law 535 = .ok (.iconst 0, 1) := by decide +kernel
theorem dL_law_536 : decode cL_law 536 = .ok (.invokestatic 118, 3) := by decide +kernel
theorem dL_law_539 : decode cL_law 539 = .ok (.iconst 1, 1) := by decide +kernel
theorem dL_law_540 : decode cL_law 540 = .ok (.iload 4, 2) := by decide +kernel
theorem dL_law_542 : decode cL_law 542 = .ok (.iconst 4, 1) := by decide +kernel
theorem dL_law_543 : decode cL_law 543 = .ok (.invokestatic 128, 3) := by decide +kernel
theorem dL_law_546 : decode cL_law 546 = .ok (.iadd, 1) := by decide +kernel
theorem dL_law_547 : decode cL_law 547 = .ok (.if_icmp .eq 5, 3) := by decide +kernel
theorem dL_law_550 : decode cL_law 550 = .ok (.iconst 0, 1) := by decide +kernel
theorem dL_law_551 : decode cL_law 551 = .ok (.ireturn, 1) := by decide +kernel
theorem dL_law_552 : decode cL_law 552 = .ok (.goto 492, 3) := by decide +kernel
theorem dL_law_555 : decode cL_law 555 = .ok (.iload 9, 2) := by decide +kernel
theorem dL_law_557 : decode cL_law 557 = .ok (.iconst 3, 1) := by decide +kernel
theorem dL_law_558 : decode cL_law 558 = .ok (.if_icmp .ne 145, 3) := by decide +kernel
theorem dL_law_561 : decode cL_law 561 = .ok (.iload_n 2, 1) := by decide +kernel
theorem dL_law_562 : decode cL_law 562 = .ok (.bipush 19, 2) := by decide +kernel
theorem dL_law_564 : decode cL_law 564 = .ok (.if_icmp .ge 7, 3) := by decide +kernel
theorem dL_law_567 : decode cL_law 567 = .ok (.iconst 0, 1) := by decide +kernel
theorem dL_law_568 : decode cL_law 568 = .ok (.goto 5, 3) := by decide +kernel
theorem dL_law_571 : decode cL_law 571 = .ok (.iload 10, 2) := by decide +kernel
theorem dL_law_573 : decode cL_law 573 = .ok (.istore 13, 2) := by decide +kernel
theorem dL_law_575 : decode cL_law 575 = .ok (.aload_n 1, 1) := by decide +kernel
theorem dL_law_576 : decode cL_law 576 = .ok (.iload 13, 2) := by decide +kernel
theorem dL_law_578 : decode cL_law 578 = .ok (.iload 4, 2) := by decide +kernel
theorem dL_law_580 : decode cL_law 580 = .ok (.bipush 6, 2) := by decide +kernel
theorem dL_law_582 : decode cL_law 582 = .ok (.invokestatic 128, 3) := by decide +kernel
theorem dL_law_585 : decode cL_law 585 = .ok (.iconst 1, 1) := by decide +kernel
theorem dL_law_586 : decode cL_law 586 = .ok (.iload 4, 2) := by decide +kernel
theorem dL_law_588 : decode cL_law 588 = .ok (.iconst 3, 1) := by decide +kernel
theorem dL_law_589 : decode cL_law 589 = .ok (.ishr, 1) := by decide +kernel
theorem dL_law_590 : decode cL_law 590 = .ok (.sipush 900, 3) := by decide +kernel
theorem dL_law_593 : decode cL_law 593 = .ok (.invokestatic 128, 3) := by decide +kernel
theorem dL_law_596 : decode cL_law 596 = .ok (.iadd, 1) := by decide +kernel
theorem dL_law_597 : decode cL_law 597 = .ok (.iload 4, 2) := by decide +kernel
theorem dL_law_599 : decode cL_law 599 = .ok (.bipush 13, 2) := by decide +kernel
theorem dL_law_601 : decode cL_law 601 = .ok (.ishr, 1) := by decide +kernel
theorem dL_law_602 : decode cL_law 602 = .ok (.bipush 6, 2) := by decide +kernel
theorem dL_law_604 : decode cL_law 604 = .ok (.invokestatic 128, 3) := by decide +kernel
theorem dL_law_607 : decode cL_law 607 = .ok (.iload 4, 2) := by decide +kernel
theorem dL_law_609 : decode cL_law 609 = .ok (.bipush 16, 2) := by decide +kernel
theorem dL_law_611 : decode cL_law 611 = .ok (.ishr, 1) := by decide +kernel
theorem dL_law_612 : decode cL_law 612 = .ok (.iconst 4, 1) := by decide +kernel
theorem dL_law_613 : decode cL_law 613 = .ok (.invokestatic 128, 3) := by decide +kernel
theorem dL_law_616 : decode cL_law 616 = .ok (.ifCond .ne 7, 3) := by decide +kernel
theorem dL_law_619 : decode cL_law 619 = .ok (.iconst 1, 1) := by decide +kernel
theorem dL_law_620 : decode cL_law 620 = .ok (.goto 4, 3) := by decide +kernel
theorem dL_law_623 : decode cL_law 623 = .ok (.iconst 0, 1) := by decide +kernel
theorem dL_law_624 : decode cL_law 624 = .ok (.invokestatic 176, 3) := by decide +kernel
theorem dL_law_627 : decode cL_law 627 = .ok (.istore 14, 2) := by decide +kernel
theorem dL_law_629 : decode cL_law 629 = .ok (.iload 14, 2) := by decide +kernel
theorem dL_law_631 : decode cL_law 631 = .ok (.iload 7, 2) := by decide +kernel
theorem dL_law_633 : decode cL_law 633 = .ok (.bipush 16, 2) := by decide +kernel
theorem dL_law_635 : decode cL_law 635 = .ok (.if_icmp .ne 8, 3) := by decide +kernel
theorem dL_law_638 : decode cL_law 638 = .ok (.ldc 20, 2) := by decide +kernel
theorem dL_law_640 : decode cL_law 640 = .ok (.goto 5, 3) := by decide +kernel
theorem dL_law_643 : decode cL_law 643 = .ok (.iload 7, 2) := by decide +kernel
theorem dL_law_645 : decode cL_law 645 = .ok (.if_icmp .ne 53, 3) := by decide +kernel
theorem dL_law_648 : decode cL_law 648 = .ok (.iload 14, 2) := by decide +kernel
theorem dL_law_650 : decode cL_law 650 = .ok (.ifCond .lt 50, 3) := by decide +kernel
theorem dL_law_653 : decode cL_law 653 = .ok (.aload_n 1, 1) := by decide +kernel
theorem dL_law_654 : decode cL_law 654 = .ok (.iload 14, 2) := by decide +kernel
theorem dL_law_656 : decode cL_law 656 = .ok (.iconst 5, 1) := by decide +kernel
theorem dL_law_657 : decode cL_law 657 = .ok (.invokestatic 115, 3) := by decide +kernel
theorem dL_law_660 : decode cL_law 660 = .ok (.iload 13, 2) := by decide +kernel
theorem dL_law_662 : decode cL_law 662 = .ok (.if_icmp .ne 36, 3) := by decide +kernel
theorem dL_law_665 : decode cL_law 665 = .ok (.aload_n 1, 1) := by decide +kernel
theorem dL_law_666 : decode cL_law 666 = .ok (.iload 14, 2) := by decide +kernel
theorem dL_law_668 : decode cL_law 668 = .ok (.iconst 4, 1) := by decide +kernel
theorem dL_law_669 : decode cL_law 669 = .ok (.invokestatic 115, 3) := by decide +kernel
theorem dL_law_672 : decode cL_law 672 = .ok (.iconst (-1), 1) := by decide +kernel
theorem dL_law_673 : decode cL_law 673 = .ok (.if_icmp .ne 25, 3) := by decide +kernel
theorem dL_law_676 : decode cL_law 676 = .ok (.aload_n 1, 1) := by decide +kernel
theorem dL_law_677 : decode cL_law 677 = .ok (.iload 14, 2) := by decide +kernel
theorem dL_law_679 : decode cL_law 679 = .ok (.bipush 7, 2) := by decide +kernel
theorem dL_law_681 : decode cL_law 681 = .ok (.invokestatic 115, 3) := by decide +kernel
theorem dL_law_684 : decode cL_law 684 = .ok (.ifCond .ne 14, 3) := by decide +kernel
theorem dL_law_687 : decode cL_law 687 = .ok (.aload_n 1, 1) := by decide +kernel
theorem dL_law_688 : decode cL_law 688 = .ok (.iload 14, 2) := by decide +kernel
theorem dL_law_690 : decode cL_law 690 = .ok (.iconst 0, 1) := by decide +kernel
theorem dL_law_691 : decode cL_law 691 = .ok (.invokestatic 155, 3) := by decide +kernel
theorem dL_law_694 : decode cL_law 694 = .ok (.iconst (-1), 1) := by decide +kernel
theorem dL_law_695 : decode cL_law 695 = .ok (.if_icmp .eq 5, 3) := by decide +kernel
theorem dL_law_698 : decode cL_law 698 = .ok (.iconst 0, 1) := by decide +kernel
theorem dL_law_699 : decode cL_law 699 = .ok (.ireturn, 1) := by decide +kernel
theorem dL_law_700 : decode cL_law 700 = .ok (.goto 344, 3) := by decide +kernel
theorem dL_law_703 : decode cL_law 703 = .ok (.iload 9, 2) := by decide +kernel
theorem dL_law_705 : decode cL_law 705 = .ok (.iconst 4, 1) := by decide +kernel
theorem dL_law_706 : decode cL_law 706 = .ok (.if_icmp .ne 50, 3) := by decide +kernel
theorem dL_law_709 : decode cL_law 709 = .ok (.aload_n 1, 1) := by decide +kernel
theorem dL_law_710 : decode cL_law 710 = .ok (.iload 10, 2) := by decide +kernel
theorem dL_law_712 : decode cL_law 712 = .ok (.invokestatic 172, 3) := by decide +kernel
theorem dL_law_715 : decode cL_law 715 = .ok (.istore 13, 2) := by decide +kernel
theorem dL_law_717 : decode cL_law 717 = .ok (.iload 13, 2) := by decide +kernel
theorem dL_law_719 : decode cL_law 719 = .ok (.iload 8, 2) := by decide +kernel
theorem dL_law_721 : decode cL_law 721 = .ok (.iconst 4, 1) := by decide +kernel
theorem dL_law_722 : decode cL_law 722 = .ok (.if_icmp .ne 8, 3) := by decide +kernel
theorem dL_law_725 : decode cL_law 725 = .ok (.ldc 20, 2) := by decide +kernel
theorem dL_law_727 : decode cL_law 727 = .ok (.goto 5, 3) := by decide +kernel
theorem dL_law_730 : decode cL_law 730 = .ok (.iload 8, 2) := by decide +kernel
theorem dL_law_732 : decode cL_law 732 = .ok (.if_icmp .ne 19, 3) := by decide +kernel
theorem dL_law_735 : decode cL_law 735 = .ok (.iload 13, 2) := by decide +kernel
theorem dL_law_737 : decode cL_law 737 = .ok (.ifCond .lt 16, 3) := by decide +kernel
theorem dL_law_740 : decode cL_law 740 = .ok (.aload_n 1, 1) := by decide +kernel
theorem dL_law_741 : decode cL_law 741 = .ok (.iload 13, 2) := by decide +kernel
theorem dL_law_743 : decode cL_law 743 = .ok (.invokestatic 126, 3) := by decide +kernel
theorem dL_law_746 : decode cL_law 746 = .ok (.iload 10, 2) := by decide +kernel
theorem dL_law_748 : decode cL_law 748 = .ok (.if_icmp .eq 5, 3) := by decide +kernel
theorem dL_law_751 : decode cL_law 751 = .ok (.iconst 0, 1) := by decide +kernel
theorem dL_law_752 : decode cL_law 752 = .ok (.ireturn, 1) := by decide +kernel
theorem dL_law_753 : decode cL_law 753 = .ok (.goto 291, 3) := by decide +kernel
theorem dL_law_756 : decode cL_law 756 = .ok (.iload 9, 2) := by decide +kernel
theorem dL_law_758 : decode cL_law 758 = .ok (.iconst 5, 1) := by decide +kernel
theorem dL_law_759 : decode cL_law 759 = .ok (.if_icmp .ne 76, 3) := by decide +kernel
theorem dL_law_762 : decode cL_law 762 = .ok (.sipush 1000, 3) := by decide +kernel
theorem dL_law_765 : decode cL_law 765 = .ok (.aload_n 1, 1) := by decide +kernel
theorem dL_law_766 : decode cL_law 766 = .ok (.iload 10, 2) := by decide +kernel
theorem dL_law_768 : decode cL_law 768 = .ok (.iconst 0, 1) := by decide +kernel
theorem dL_law_769 : decode cL_law 769 = .ok (.invokestatic 124, 3) := by decide +kernel
theorem dL_law_772 : decode cL_law 772 = .ok (.imul, 1) := by decide +kernel
theorem dL_law_773 : decode cL_law 773 = .ok (.aload_n 1, 1) := by decide +kernel
theorem dL_law_774 : decode cL_law 774 = .ok (.iload 10, 2) := by decide +kernel
theorem dL_law_776 : decode cL_law 776 = .ok (.iconst 1, 1) := by decide +kernel
theorem dL_law_777 : decode cL_law 777 = .ok (.invokestatic 124, 3) := by decide +kernel
theorem dL_law_780 : decode cL_law 780 = .ok (.iadd, 1) := by decide +kernel
theorem dL_law_781 : decode cL_law 781 = .ok (.istore 13, 2) := by decide +kernel
theorem dL_law_783 : decode cL_law 783 = .ok (.aload_n 1, 1) := by decide +kernel
theorem dL_law_784 : decode cL_law 784 = .ok (.iload 10, 2) := by decide +kernel
theorem dL_law_786 : decode cL_law 786 = .ok (.iload 4, 2) := by decide +kernel
theorem dL_law_788 : decode cL_law 788 = .ok (.bipush 30, 2) := by decide +kernel
theorem dL_law_790 : decode cL_law 790 = .ok (.invokestatic 128, 3) := by decide +kernel
theorem dL_law_793 : decode cL_law 793 = .ok (.bipush 20, 2) := by decide +kernel
theorem dL_law_795 : decode cL_law 795 = .ok (.iload 4, 2) := by decide +kernel
theorem dL_law_797 : decode cL_law 797 = .ok (.iconst 5, 1) := by decide +kernel
theorem dL_law_798 : decode cL_law 798 = .ok (.ishr, 1) := by decide +kernel
theorem dL_law_799 : decode cL_law 799 = .ok (.bipush 71, 2) := by decide +kernel
theorem dL_law_801 : decode cL_law 801 = .ok (.invokestatic 128, 3) := by decide +kernel
theorem dL_law_804 : decode cL_law 804 = .ok (.iadd, 1) := by decide +kernel
theorem dL_law_805 : decode cL_law 805 = .ok (.invokestatic 164, 3) := by decide +kernel
theorem dL_law_808 : decode cL_law 808 = .ok (.iload 13, 2) := by decide +kernel
theorem dL_law_810 : decode cL_law 810 = .ok (.if_icmp .ne 20, 3) := by decide +kernel
theorem dL_law_813 : decode cL_law 813 = .ok (.aload_n 1, 1) := by decide +kernel
theorem dL_law_814 : decode cL_law 814 = .ok (.iload 10, 2) := by decide +kernel
theorem dL_law_816 : decode cL_law 816 = .ok (.iconst 0, 1) := by decide +kernel
theorem dL_law_817 : decode cL_law 817 = .ok (.invokestatic 124, 3) := by decide +kernel
theorem dL_law_820 : decode cL_law 820 = .ok (.iload 4, 2) := by decide +kernel
theorem dL_law_822 : decode cL_law 822 = .ok (.bipush 30, 2) := by decide +kernel
theorem dL_law_824 : decode cL_law 824 = .ok (.invokestatic 128, 3) := by decide +kernel
theorem dL_law_827 : decode cL_law 827 = .ok (.if_icmp .eq 5, 3) := by decide +kernel
theorem dL_law_830 : decode cL_law 830 = .ok (.iconst 0, 1) := by decide +kernel
theorem dL_law_831 : decode cL_law 831 = .ok (.ireturn, 1) := by decide +kernel
theorem dL_law_832 : decode cL_law 832 = .ok (.goto 212, 3) := by decide +kernel
theorem dL_law_835 : decode cL_law 835 = .ok (.iload 9, 2) := by decide +kernel
theorem dL_law_837 : decode cL_law 837 = .ok (.bipush 6, 2) := by decide +kernel
theorem dL_law_839 : decode cL_law 839 = .ok (.if_icmp .ne 86, 3) := by decide +kernel
theorem dL_law_842 : decode cL_law 842 = .ok (.iload 4, 2) := by decide +kernel
theorem dL_law_844 : decode cL_law 844 = .ok (.iconst 4, 1) := by decide +kernel
theorem dL_law_845 : decode cL_law 845 = .ok (.invokestatic 128, 3) := by decide +kernel
theorem dL_law_848 : decode cL_law 848 = .ok (.ifCond .ne 31, 3) := by decide +kernel
theorem dL_law_851 : decode cL_law 851 = .ok (.aload_n 1, 1) := by decide +kernel
theorem dL_law_852 : decode cL_law 852 = .ok (.iload 4, 2) := by decide +kernel
theorem dL_law_854 : decode cL_law 854 = .ok (.iconst 2, 1) := by decide +kernel
theorem dL_law_855 : decode cL_law 855 = .ok (.ishr, 1) := by decide +kernel
theorem dL_law_856 : decode cL_law 856 = .ok (.bipush 6, 2) := by decide +kernel
theorem dL_law_858 : decode cL_law 858 = .ok (.invokestatic 128, 3) := by decide +kernel
theorem dL_law_861 : decode cL_law 861 = .ok (.iconst 3, 1) := by decide +kernel
theorem dL_law_862 : decode cL_law 862 = .ok (.iconst 1, 1) := by decide +kernel
theorem dL_law_863 : decode cL_law 863 = .ok (.iload 4, 2) := by decide +kernel
theorem dL_law_865 : decode cL_law 865 = .ok (.iconst 5, 1) := by decide +kernel
theorem dL_law_866 : decode cL_law 866 = .ok (.ishr, 1) := by decide +kernel
theorem dL_law_867 : decode cL_law 867 = .ok (.bipush 8, 2) := by decide +kernel
theorem dL_law_869 : decode cL_law 869 = .ok (.invokestatic 128, 3) := by decide +kernel
theorem dL_law_872 : decode cL_law 872 = .ok (.ishl, 1) := by decide +kernel
theorem dL_law_873 : decode cL_law 873 = .ok (.invokestatic 168, 3) := by decide +kernel
theorem dL_law_876 : decode cL_law 876 = .ok (.goto 29, 3) := by decide +kernel
theorem dL_law_879 : decode cL_law 879 = .ok (.aload_n 1, 1) := by decide +kernel
theorem dL_law_880 : decode cL_law 880 = .ok (.iload 4, 2) := by decide +kernel
theorem dL_law_882 : decode cL_law 882 = .ok (.iconst 2, 1) := by decide +kernel
theorem dL_law_883 : decode cL_law 883 = .ok (.ishr, 1) := by decide +kernel
theorem dL_law_884 : decode cL_law 884 = .ok (.bipush 6, 2) := by decide +kernel
theorem dL_law_886 : decode cL_law 886 = .ok (.invokestatic 128, 3) := by decide +kernel
theorem dL_law_889 : decode cL_law 889 = .ok (.iconst 2, 1) := by decide +kernel
theorem dL_law_890 : decode cL_law 890 = .ok (.bipush 50, 2) := by decide +kernel
theorem dL_law_892 : decode cL_law 892 = .ok (.iload 4, 2) := by decide +kernel
theorem dL_law_894 : decode cL_law 894 = .ok (.iconst 5, 1) := by decide +kernel
theorem dL_law_895 : decode cL_law 895 = .ok (.ishr, 1) := by decide +kernel
theorem dL_law_896 : decode cL_law 896 = .ok (.bipush 41, 2) := by decide +kernel
theorem dL_law_898 : decode cL_law 898 = .ok (.invokestatic 128, 3) := by decide +kernel
theorem dL_law_901 : decode cL_law 901 = .ok (.iadd, 1) := by decide +kernel
theorem dL_law_902 : decode cL_law 902 = .ok (.invokestatic 168, 3) := by decide +kernel
theorem dL_law_905 : decode cL_law 905 = .ok (.istore 13, 2) := by decide +kernel
theorem dL_law_907 : decode cL_law 907 = .ok (.iload 13, 2) := by decide +kernel
theorem dL_law_909 : decode cL_law 909 = .ok (.ifCond .lt 11, 3) := by decide +kernel
theorem dL_law_912 : decode cL_law 912 = .ok (.iload 13, 2) := by decide +kernel
theorem dL_law_914 : decode cL_law 914 = .ok (.sipush 255, 3) := by decide +kernel
theorem dL_law_917 : decode cL_law 917 = .ok (.if_icmp .le 5, 3) := by decide +kernel
theorem dL_law_920 : decode cL_law 920 = .ok (.iconst 0, 1) := by decide +kernel
theorem dL_law_921 : decode cL_law 921 = .ok (.ireturn, 1) := by decide +kernel
theorem dL_law_922 : decode cL_law 922 = .ok (.goto 122, 3) := by decide +kernel
theorem dL_law_925 : decode cL_law 925 = .ok (.iload 9, 2) := by decide +kernel
theorem dL_law_927 : decode cL_law 927 = .ok (.bipush 11, 2) := by decide +kernel
theorem dL_law_929 : decode cL_law 929 = .ok (.if_icmp .ge 16, 3) := by decide +kernel
theorem dL_law_932 : decode cL_law 932 = .ok (.aload_n 1, 1) := by decide +kernel
theorem dL_law_933 : decode cL_law 933 = .ok (.iload 11, 2) := by decide +kernel
theorem dL_law_935 : decode cL_law 935 = .ok (.iload 4, 2) := by decide +kernel
theorem dL_law_937 : decode cL_law 937 = .ok (.invokestatic 197, 3) := by decide +kernel
theorem dL_law_940 : decode cL_law 940 = .ok (.ifCond .ne 104, 3) := by decide +kernel
theorem dL_law_943 : decode cL_law 943 = .ok (.iconst 0, 1) := by decide +kernel
theorem dL_law_944 : decode cL_law 944 = .ok (.ireturn, 1) := by decide +kernel
theorem dL_law_945 : decode cL_law 945 = .ok (.iload 9, 2) := by decide +kernel
theorem dL_law_947 : decode cL_law 947 = .ok (.bipush 15, 2) := by decide +kernel
theorem dL_law_949 : decode cL_law 949 = .ok (.if_icmp .ge 28, 3) := by decide +kernel
theorem dL_law_952 : decode cL_law 952 = .ok (.aload_n 1, 1) := by decide +kernel
theorem dL_law_953 : decode cL_law 953 = .ok (.iload 11, 2) := by decide +kernel
theorem dL_law_955 : decode cL_law 955 = .ok (.iload 4, 2) := by decide +kernel
theorem dL_law_957 : decode cL_law 957 = .ok (.bipush 8, 2) := by decide +kernel
theorem dL_law_959 : decode cL_law 959 = .ok (.ishr, 1) := by decide +kernel
theorem dL_law_960 : decode cL_law 960 = .ok (.iload 6, 2) := by decide +kernel
theorem dL_law_962 : decode cL_law 962 = .ok (.invokestatic 128, 3) := by decide +kernel
theorem dL_law_965 : decode cL_law 965 = .ok (.iload 12, 2) := by decide +kernel
theorem dL_law_967 : decode cL_law 967 = .ok (.iload 4, 2) := by decide +kernel
theorem dL_law_969 : decode cL_law 969 = .ok (.invokestatic 201, 3) := by decide +kernel
theorem dL_law_972 : decode cL_law 972 = .ok (.ifCond .ne 72, 3) := by decide +kernel
theorem dL_law_975 : decode cL_law 975 = .ok (.iconst 0, 1) := by decide +kernel
theorem dL_law_976 : decode cL_law 976 = .ok (.ireturn, 1) := by decide +kernel
theorem dL_law_977 : decode cL_law 977 = .ok (.iload 9, 2) := by decide +kernel
theorem dL_law_979 : decode cL_law 979 = .ok (.bipush 18, 2) := by decide +kernel
theorem dL_law_981 : decode cL_law 981 = .ok (.if_icmp .ge 27, 3) := by decide +kernel
theorem dL_law_984 : decode cL_law 984 = .ok (.aload_n 1, 1) := by decide +kernel
theorem dL_law_985 : decode cL_law 985 = .ok (.iload 11, 2) := by decide +kernel
theorem dL_law_987 : decode cL_law 987 = .ok (.iload 10, 2) := by decide +kernel
theorem dL_law_989 : decode cL_law 989 = .ok (.iload 4, 2) := by decide +kernel
theorem dL_law_991 : decode cL_law 991 = .ok (.iload 8, 2) := by decide +kernel
theorem dL_law_993 : decode cL_law 993 = .ok (.iconst 1, 1) := by decide +kernel
theorem dL_law_994 : decode cL_law 994 = .ok (.iadd, 1) := by decide +kernel
theorem dL_law_995 : decode cL_law 995 = .ok (.invokestatic 128, 3) := by decide +kernel
theorem dL_law_998 : decode cL_law 998 = .ok (.iconst 1, 1) := by decide +kernel
theorem dL_law_999 : decode cL_law 999 = .ok (.isub, 1) := by decide +kernel
theorem dL_law_1000 : decode cL_law 1000 = .ok (.invokestatic 205, 3) := by decide +kernel
theorem dL_law_1003 : decode cL_law 1003 = .ok (.ifCond .ne 41, 3) := by decide +kernel
theorem dL_law_1006 : decode cL_law 1006 = .ok (.iconst 0, 1) := by decide +kernel
theorem dL_law_1007 : decode cL_law 1007 = .ok (.ireturn, 1) := by decide +kernel
theorem dL_law_1008 : decode cL_law 1008 = .ok (.aload_n 1, 1) := by decide +kernel
theorem dL_law_1009 : decode cL_law 1009 = .ok (.iconst 1, 1) := by decide +kernel
theorem dL_law_1010 : decode cL_law 1010 = .ok (.iload 4, 2) := by decide +kernel
theorem dL_law_1012 : decode cL_law 1012 = .ok (.iload 4, 2) := by decide +kernel
theorem dL_law_1014 : decode cL_law 1014 = .ok (.bipush 10, 2) := by decide +kernel
theorem dL_law_1016 : decode cL_law 1016 = .ok (.ishr, 1) := by decide +kernel
theorem dL_law_1017 : decode cL_law 1017 = .ok (.iconst 5, 1) := by decide +kernel
theorem dL_law_1018 : decode cL_law 1018 = .ok (.invokestatic 128, 3) := by decide +kernel
theorem dL_law_1021 : decode cL_law 1021 = .ok (.ifCond .ne 9, 3) := by decide +kernel
theorem dL_law_1024 : decode cL_law 1024 = .ok (.sipush 240, 3) := by decide +kernel
theorem dL_law_1027 : decode cL_law 1027 = .ok (.goto 5, 3) := by decide +kernel
theorem dL_law_1030 : decode cL_law 1030 = .ok (.bipush 26, 2) := by decide +kernel
theorem dL_law_1032 : decode cL_law 1032 = .ok (.invokestatic 128, 3) := by decide +kernel
theorem dL_law_1035 : decode cL_law 1035 = .ok (.iadd, 1) := by decide +kernel
theorem dL_law_1036 : decode cL_law 1036 = .ok (.invokestatic 209, 3) := by decide +kernel
theorem dL_law_1039 : decode cL_law 1039 = .ok (.ifCond .ne 5, 3) := by decide +kernel
theorem dL_law_1042 : decode cL_law 1042 = .ok (.iconst 0, 1) := by decide +kernel
theorem dL_law_1043 : decode cL_law 1043 = .ok (.ireturn, 1) := by decide +kernel
theorem dL_law_1044 : decode cL_law 1044 = .ok (.aload_n 1, 1) := by decide +kernel
theorem dL_law_1045 : decode cL_law 1045 = .ok (.invokestatic 186, 3) := by decide +kernel
theorem dL_law_1048 : decode cL_law 1048 = .ok (.ifCond .ne 5, 3) := by decide +kernel
theorem dL_law_1051 : decode cL_law 1051 = .ok (.iconst 0, 1) := by decide +kernel
theorem dL_law_1052 : decode cL_law 1052 = .ok (.ireturn, 1) := by decide +kernel
def sL_step_1044 (lo : Int32 → Option Int32) (ln : Int32) (w : Wl) : Option Wl := (sL_sound w ).bind (fun r1 => (if r1.1 = true then some r1.2 else none))
theorem tL_step_1044 {X : Cx} {B : Bs} {sz : Nat} {r : Wl} {sb k n : Nat} {lo : Int32 → Option Int32} {ln : Int32} (hx : Fx X code 16 RL 12 642985 7172742) (hC : GC (xΓ X) B) (htr : (xl X).stackTraces = false) (hX : LoK X sb lo) (hk : k + 1 ≤ 642985) (hn : n + 6 ≤ 7172742) (kk : ∀ (G' : Gf) (sz' : Nat), Wd (xΓ X) B r G' → J X 16 G' sz' (k + 1) (n + 6) 1053 [some (.ref sb), some (.ref (B.1 + 0)), some (.int ln), none, none, none, none, none, none, none, none, none, none, none, none, none] [])  : ∀ (w : Wl) {G : Gf} (hW : Wd (xΓ X) B w G) (h : sL_step_1044 lo ln  w  = some r), J X 16 G sz (k + 1) (n + 6) 1044 [some (.ref sb), some (.ref (B.1 + 0)), some (.int ln), none, none, none, none, none, none, none, none, none, none, none, none, none] [] := by
  intro w G hW h
  unfold sL_step_1044 at h
  refine J_al4 hx rfl rfl dL_law_1044 ?_
  obtain ⟨r1, hr2, h⟩ := bnd h
  refine J_wrS hx (kL_sound  hC htr hW hr2) ml_L_186 lk_L_sound (rest := []) rfl rfl (by decide) (by decide) (Nat.le_of_ble_eq_true rfl) (by omega) (by omega) dL_law_1045 fun G3 hW4 => ?_
  show J X 16 G3 sz (k + 1) (n + 6) 1048 [some (.ref sb), some (.ref (B.1 + 0)), some (.int ln), none, none, none, none, none, none, none, none, none, none, none, none, none] [.int (bI r1.1)]
  refine J_bif_ne hx 1053 dL_law_1048 rfl (fun h5 => ?_) (fun h5 => ?_)
  · replace h := pos h h5
    obtain rfl := Option.some.inj h
    exact kk _ _ hW4
  · replace h := neg h (bft h5)
    refine J_iconst hx (0 : Int32) dL_law_1051 rfl ?_
    cases h
def sL_step_1032 (lo : Int32 → Option Int32) (ln : Int32) (w : Wl) (s1 : Int32) (s2 : Int32) (s3 : Int32) : Option Wl := (sL_low w s2 s3).bind (fun r1 => (sL_passes w (s1 + r1)).bind (fun r3 => (if r3.1 = true then sL_step_1044 lo ln r3.2 else none)))
theorem tL_step_1032 {X : Cx} {B : Bs} {sz : Nat} {r : Wl} {sb k n : Nat} {lo : Int32 → Option Int32} {ln : Int32} (hx : Fx X code 16 RL 12 642985 7172742) (hC : GC (xΓ X) B) (htr : (xl X).stackTraces = false) (hX : LoK X sb lo) (hk : k + 1 ≤ 642985) (hn : n + 6 ≤ 7172742) (kk : ∀ (G' : Gf) (sz' : Nat), Wd (xΓ X) B r G' → J X 16 G' sz' (k + 1) (n + 6) 1053 [some (.ref sb), some (.ref (B.1 + 0)), some (.int ln), none, none, none, none, none, none, none, none, none, none, none, none, none] [])  : ∀ (w : Wl) (s1 : Int32) (s2 : Int32) (s3 : Int32) {G : Gf} (hW : Wd (xΓ X) B w G) (h : sL_step_1032 lo ln  w s1 s2 s3 = some r), J X 16 G sz k n 1032 [some (.ref sb), some (.ref (B.1 + 0)), some (.int ln), none, none, none, none, none, none, none, none, none, none, none, none, none] [.int s3, .int s2, .int s1, .ref (B.1 + 0)] := by
  intro w s1 s2 s3 G hW h
  unfold sL_step_1032 at h
  obtain ⟨r1, hr2, h⟩ := bnd h
  refine J_rdS hx (kL_low  hW hr2) ml_L_128 lk_L_low (rest := [.int s1, .ref (B.1 + 0)]) rfl rfl (by decide) (by decide) (Nat.le_of_ble_eq_true rfl) (by omega) (by omega) dL_law_1032 ?_
  refine J_iadd hx dL_law_1035 ?_
  obtain ⟨r3, hr4, h⟩ := bnd h
  refine J_wrS hx (kL_passes  hC htr hW hr4) ml_L_209 lk_L_passes (rest := []) rfl rfl (by decide) (by decide) (Nat.le_of_ble_eq_true rfl) (by omega) (by omega) dL_law_1036 fun G5 hW6 => ?_
  show J X 16 G5 sz k n 1039 [some (.ref sb), some (.ref (B.1 + 0)), some (.int ln), none, none, none, none, none, none, none, none, none, none, none, none, none] [.int (bI r3.1)]
  refine J_bif_ne hx 1044 dL_law_1039 rfl (fun h7 => ?_) (fun h7 => ?_)
  · replace h := pos h h7
    refine J_wide (by omega) (by omega) (show J X 16 G5 sz (k + 1) (n + 6) 1044 [some (.ref sb), some (.ref (B.1 + 0)), some (.int ln), none, none, none, none, none, none, none, none, none, none, none, none, none] [] from ?_)
    exact tL_step_1044 hx hC htr hX hk hn kk _   hW6 h
  · replace h := neg h (bft h7)
    refine J_iconst hx (0 : Int32) dL_law_1042 rfl ?_
    cases h
def sL_step_905 (lo : Int32 → Option Int32) (ln : Int32) (w : Wl) (s0 : Int32) : Option Wl := (if s0 < 0 then none else (if s0 ≤ (255 : Int32) then sL_step_1044 lo ln w else none))
theorem tL_step_905 {X : Cx} {B : Bs} {sz : Nat} {r : Wl} {sb k n : Nat} {lo : Int32 → Option Int32} {ln : Int32} (hx : Fx X code 16 RL 12 642985 7172742) (hC : GC (xΓ X) B) (htr : (xl X).stackTraces = false) (hX : LoK X sb lo) (hk : k + 1 ≤ 642985) (hn : n + 6 ≤ 7172742) (kk : ∀ (G' : Gf) (sz' : Nat), Wd (xΓ X) B r G' → J X 16 G' sz' (k + 1) (n + 6) 1053 [some (.ref sb), some (.ref (B.1 + 0)), some (.int ln), none, none, none, none, none, none, none, none, none, none, none, none, none] [])  : ∀ (w : Wl) (s0 : Int32) {G : Gf} (hW : Wd (xΓ X) B w G) (h : sL_step_905 lo ln  w s0 = some r), J X 16 G sz k n 905 [some (.ref sb), some (.ref (B.1 + 0)), some (.int ln), none, none, none, none, none, none, none, none, none, none, none, none, none] [.int s0] := by
  intro w s0 G hW h
  unfold sL_step_905 at h
  refine J_is hx (by decide) (hc_of rfl) rfl dL_law_905 ?_
  refine J_il hx rfl dL_law_907 ?_
  refine J_if_lt hx 920 dL_law_909 rfl (fun h1 => ?_) (fun h1 => ?_)
  · replace h := pos h h1
    refine J_iconst hx (0 : Int32) dL_law_920 rfl ?_
    cases h
  · replace h := neg h h1
    refine J_il hx rfl dL_law_912 ?_
    refine J_sipush hx (255 : Int32) dL_law_914 rfl ?_
    refine J_icmp_le hx 922 dL_law_917 rfl (fun h2 => ?_) (fun h2 => ?_)
    · replace h := pos h h2
      refine J_goto hx 1044 dL_law_922 rfl ?_
      refine J_wide (by omega) (by omega) (show J X 16 G sz (k + 1) (n + 6) 1044 [some (.ref sb), some (.ref (B.1 + 0)), some (.int ln), none, none, none, none, none, none, none, none, none, none, some (.int s0), none, none] [] from ?_)
      refine J_lw (ls' := [some (.ref sb), some (.ref (B.1 + 0)), some (.int ln), none, none, none, none, none, none, none, none, none, none, none, none, none]) (lwS (lwS (lwS (lwN (lwN (lwN (lwN (lwN (lwN (lwN (lwN (lwN (lwN (lwN (lwN (lwN lwZ)))))))))))))))) ?_
      exact tL_step_1044 hx hC htr hX hk hn kk _   hW h
    · replace h := neg h h2
      refine J_iconst hx (0 : Int32) dL_law_920 rfl ?_
      cases h
def sL_step_732 (lo : Int32 → Option Int32) (ln : Int32) (w : Wl) (l10 : Int32) (l13 : Int32) (s0 : Int32) (s1 : Int32) : Option Wl := (if s0 = s1 then (if l13 < 0 then sL_step_1044 lo ln w else (sO_courier w l13).bind (fun r3 => (if r3 = l10 then sL_step_1044 lo ln w else none))) else none)
theorem tL_step_732 {X : Cx} {B : Bs} {sz : Nat} {r : Wl} {sb k n : Nat} {lo : Int32 → Option Int32} {ln : Int32} (hx : Fx X code 16 RL 12 642985 7172742) (hC : GC (xΓ X) B) (htr : (xl X).stackTraces = false) (hX : LoK X sb lo) (hk : k + 1 ≤ 642985) (hn : n + 6 ≤ 7172742) (kk : ∀ (G' : Gf) (sz' : Nat), Wd (xΓ X) B r G' → J X 16 G' sz' (k + 1) (n + 6) 1053 [some (.ref sb), some (.ref (B.1 + 0)), some (.int ln), none, none, none, none, none, none, none, none, none, none, none, none, none] [])  : ∀ (w : Wl) (l10 : Int32) (l13 : Int32) (s0 : Int32) (s1 : Int32) {G : Gf} (hW : Wd (xΓ X) B w G) (h : sL_step_732 lo ln  w l10 l13 s0 s1 = some r), J X 16 G sz (k + 1) (n + 6) 732 [some (.ref sb), some (.ref (B.1 + 0)), some (.int ln), none, none, none, none, none, none, none, some (.int l10), none, none, some (.int l13), none, none] [.int s1, .int s0] := by
  intro w l10 l13 s0 s1 G hW h
  unfold sL_step_732 at h
  refine J_icmp_ne hx 751 dL_law_732 rfl (fun h1 => ?_) (fun h1 => ?_)
  · replace h := neg h h1
    refine J_iconst hx (0 : Int32) dL_law_751 rfl ?_
    cases h
  · replace h := pos h h1
    refine J_il hx rfl dL_law_735 ?_
    refine J_if_lt hx 753 dL_law_737 rfl (fun h2 => ?_) (fun h2 => ?_)
    · replace h := pos h h2
      refine J_goto hx 1044 dL_law_753 rfl ?_
      refine J_lw (ls' := [some (.ref sb), some (.ref (B.1 + 0)), some (.int ln), none, none, none, none, none, none, none, none, none, none, none, none, none]) (lwS (lwS (lwS (lwN (lwN (lwN (lwN (lwN (lwN (lwN (lwN (lwN (lwN (lwN (lwN (lwN lwZ)))))))))))))))) ?_
      exact tL_step_1044 hx hC htr hX hk hn kk _   hW h
    · replace h := neg h h2
      refine J_al4 hx rfl rfl dL_law_740 ?_
      refine J_il hx rfl dL_law_741 ?_
      obtain ⟨r3, hr4, h⟩ := bnd h
      refine J_rdL hx (kP_courier hC hW (okS_e hr4)) ml_L_126 cw_courier st_courier ini_L hy_courier (rest := []) rfl rfl (by decide) (by decide) (Nat.le_of_ble_eq_true rfl) (by omega) (by omega) dL_law_743 ?_
      refine J_il hx rfl dL_law_746 ?_
      refine J_icmp_eq hx 753 dL_law_748 rfl (fun h5 => ?_) (fun h5 => ?_)
      · replace h := pos h h5
        refine J_goto hx 1044 dL_law_753 rfl ?_
        refine J_lw (ls' := [some (.ref sb), some (.ref (B.1 + 0)), some (.int ln), none, none, none, none, none, none, none, none, none, none, none, none, none]) (lwS (lwS (lwS (lwN (lwN (lwN (lwN (lwN (lwN (lwN (lwN (lwN (lwN (lwN (lwN (lwN lwZ)))))))))))))))) ?_
        exact tL_step_1044 hx hC htr hX hk hn kk _   hW h
      · replace h := neg h h5
        refine J_iconst hx (0 : Int32) dL_law_751 rfl ?_
        cases h
def sL_step_645 (lo : Int32 → Option Int32) (ln : Int32) (w : Wl) (l13 : Int32) (l14 : Int32) (s0 : Int32) (s1 : Int32) : Option Wl := (if s0 = s1 then (if l14 < 0 then sL_step_1044 lo ln w else (sO_work w l14 (5 : Int32)).bind (fun r3 => (if r3 = l13 then (sO_work w l14 (4 : Int32)).bind (fun r6 => (if r6 = (-1 : Int32) then (sO_work w l14 (7 : Int32)).bind (fun r9 => (if r9 = 0 then (sO_noted w l14 (0 : Int32)).bind (fun r12 => (if r12 = (-1 : Int32) then sL_step_1044 lo ln w else none)) else none)) else none)) else none))) else none)
theorem tL_step_645 {X : Cx} {B : Bs} {sz : Nat} {r : Wl} {sb k n : Nat} {lo : Int32 → Option Int32} {ln : Int32} (hx : Fx X code 16 RL 12 642985 7172742) (hC : GC (xΓ X) B) (htr : (xl X).stackTraces = false) (hX : LoK X sb lo) (hk : k + 1 ≤ 642985) (hn : n + 6 ≤ 7172742) (kk : ∀ (G' : Gf) (sz' : Nat), Wd (xΓ X) B r G' → J X 16 G' sz' (k + 1) (n + 6) 1053 [some (.ref sb), some (.ref (B.1 + 0)), some (.int ln), none, none, none, none, none, none, none, none, none, none, none, none, none] [])  : ∀ (w : Wl) (l13 : Int32) (l14 : Int32) (s0 : Int32) (s1 : Int32) {G : Gf} (hW : Wd (xΓ X) B w G) (h : sL_step_645 lo ln  w l13 l14 s0 s1 = some r), J X 16 G sz (k + 1) (n + 6) 645 [some (.ref sb), some (.ref (B.1 + 0)), some (.int ln), none, none, none, none, none, none, none, none, none, none, some (.int l13), some (.int l14), none] [.int s1, .int s0] := by
  intro w l13 l14 s0 s1 G hW h
  unfold sL_step_645 at h
  refine J_icmp_ne hx 698 dL_law_645 rfl (fun h1 => ?_) (fun h1 => ?_)
  · replace h := neg h h1
    refine J_iconst hx (0 : Int32) dL_law_698 rfl ?_
    cases h
  · replace h := pos h h1
    refine J_il hx rfl dL_law_648 ?_
    refine J_if_lt hx 700 dL_law_650 rfl (fun h2 => ?_) (fun h2 => ?_)
    · replace h := pos h h2
      refine J_goto hx 1044 dL_law_700 rfl ?_
      refine J_lw (ls' := [some (.ref sb), some (.ref (B.1 + 0)), some (.int ln), none, none, none, none, none, none, none, none, none, none, none, none, none]) (lwS (lwS (lwS (lwN (lwN (lwN (lwN (lwN (lwN (lwN (lwN (lwN (lwN (lwN (lwN (lwN lwZ)))))))))))))))) ?_
      exact tL_step_1044 hx hC htr hX hk hn kk _   hW h
    · replace h := neg h h2
      refine J_al4 hx rfl rfl dL_law_653 ?_
      refine J_il hx rfl dL_law_654 ?_
      refine J_iconst hx (5 : Int32) dL_law_656 rfl ?_
      obtain ⟨r3, hr4, h⟩ := bnd h
      refine J_rdL hx (kP_work hC hW (okS_e hr4)) ml_L_115 cw_work st_work ini_L hy_work (rest := []) rfl rfl (by decide) (by decide) (Nat.le_of_ble_eq_true rfl) (by omega) (by omega) dL_law_657 ?_
      refine J_il hx rfl dL_law_660 ?_
      refine J_icmp_ne hx 698 dL_law_662 rfl (fun h5 => ?_) (fun h5 => ?_)
      · replace h := neg h h5
        refine J_iconst hx (0 : Int32) dL_law_698 rfl ?_
        cases h
      · replace h := pos h h5
        refine J_al4 hx rfl rfl dL_law_665 ?_
        refine J_il hx rfl dL_law_666 ?_
        refine J_iconst hx (4 : Int32) dL_law_668 rfl ?_
        obtain ⟨r6, hr7, h⟩ := bnd h
        refine J_rdL hx (kP_work hC hW (okS_e hr7)) ml_L_115 cw_work st_work ini_L hy_work (rest := []) rfl rfl (by decide) (by decide) (Nat.le_of_ble_eq_true rfl) (by omega) (by omega) dL_law_669 ?_
        refine J_iconst hx (-1 : Int32) dL_law_672 rfl ?_
        refine J_icmp_ne hx 698 dL_law_673 rfl (fun h8 => ?_) (fun h8 => ?_)
        · replace h := neg h h8
          refine J_iconst hx (0 : Int32) dL_law_698 rfl ?_
          cases h
        · replace h := pos h h8
          refine J_al4 hx rfl rfl dL_law_676 ?_
          refine J_il hx rfl dL_law_677 ?_
          refine J_bipush hx (7 : Int32) dL_law_679 rfl ?_
          obtain ⟨r9, hr10, h⟩ := bnd h
          refine J_rdL hx (kP_work hC hW (okS_e hr10)) ml_L_115 cw_work st_work ini_L hy_work (rest := []) rfl rfl (by decide) (by decide) (Nat.le_of_ble_eq_true rfl) (by omega) (by omega) dL_law_681 ?_
          refine J_if_ne hx 698 dL_law_684 rfl (fun h11 => ?_) (fun h11 => ?_)
          · replace h := neg h h11
            refine J_iconst hx (0 : Int32) dL_law_698 rfl ?_
            cases h
          · replace h := pos h h11
            refine J_al4 hx rfl rfl dL_law_687 ?_
            refine J_il hx rfl dL_law_688 ?_
            refine J_iconst hx (0 : Int32) dL_law_690 rfl ?_
            obtain ⟨r12, hr13, h⟩ := bnd h
            refine J_rdL hx (kP_noted hC hW (okS_e hr13)) ml_L_155 cw_noted st_noted ini_L hy_noted (rest := []) rfl rfl (by decide) (by decide) (Nat.le_of_ble_eq_true rfl) (by omega) (by omega) dL_law_691 ?_
            refine J_iconst hx (-1 : Int32) dL_law_694 rfl ?_
            refine J_icmp_eq hx 700 dL_law_695 rfl (fun h14 => ?_) (fun h14 => ?_)
            · replace h := pos h h14
              refine J_goto hx 1044 dL_law_700 rfl ?_
              refine J_lw (ls' := [some (.ref sb), some (.ref (B.1 + 0)), some (.int ln), none, none, none, none, none, none, none, none, none, none, none, none, none]) (lwS (lwS (lwS (lwN (lwN (lwN (lwN (lwN (lwN (lwN (lwN (lwN (lwN (lwN (lwN (lwN lwZ)))))))))))))))) ?_
              exact tL_step_1044 hx hC htr hX hk hn kk _   hW h
            · replace h := neg h h14
              refine J_iconst hx (0 : Int32) dL_law_698 rfl ?_
              cases h
def sL_step_624 (lo : Int32 → Option Int32) (ln : Int32) (w : Wl) (l7 : Int32) (l13 : Int32) (s1 : Int32) (s2 : Int32) (s3 : Int32) (s4 : Int32) (s5 : Int32) : Option Wl := (sL_addWork w s1 s2 s3 s4 s5).bind (fun r1 => (if l7 = (16 : Int32) then sL_step_645 lo ln r1.2 l13 r1.1 r1.1 (-90200 : Int32) else sL_step_645 lo ln r1.2 l13 r1.1 r1.1 l7))
theorem tL_step_624 {X : Cx} {B : Bs} {sz : Nat} {r : Wl} {sb k n : Nat} {lo : Int32 → Option Int32} {ln : Int32} (hx : Fx X code 16 RL 12 642985 7172742) (hC : GC (xΓ X) B) (htr : (xl X).stackTraces = false) (hX : LoK X sb lo) (hk : k + 1 ≤ 642985) (hn : n + 6 ≤ 7172742) (kk : ∀ (G' : Gf) (sz' : Nat), Wd (xΓ X) B r G' → J X 16 G' sz' (k + 1) (n + 6) 1053 [some (.ref sb), some (.ref (B.1 + 0)), some (.int ln), none, none, none, none, none, none, none, none, none, none, none, none, none] [])  : ∀ (w : Wl) (l7 : Int32) (l13 : Int32) (s1 : Int32) (s2 : Int32) (s3 : Int32) (s4 : Int32) (s5 : Int32) {G : Gf} (hW : Wd (xΓ X) B w G) (h : sL_step_624 lo ln  w l7 l13 s1 s2 s3 s4 s5 = some r), J X 16 G sz k n 624 [some (.ref sb), some (.ref (B.1 + 0)), some (.int ln), none, none, none, none, some (.int l7), none, none, none, none, none, some (.int l13), none, none] [.int s5, .int s4, .int s3, .int s2, .int s1, .ref (B.1 + 0)] := by
  intro w l7 l13 s1 s2 s3 s4 s5 G hW h
  unfold sL_step_624 at h
  obtain ⟨r1, hr2, h⟩ := bnd h
  refine J_callSW hx (kL_addWork htr hC hW hr2) ml_L_176 cw_addWork st_addWork ini_L hy_addWork (rest := []) rfl rfl (by decide) (by decide) (Nat.le_of_ble_eq_true rfl) (by omega) (by omega) dL_law_624 fun x1 G3 z5 hh => ?_
  obtain ⟨rfl, hW4⟩ := hh
  show J X 16 G3 z5 (k + 1) (n + 6) 627 [some (.ref sb), some (.ref (B.1 + 0)), some (.int ln), none, none, none, none, some (.int l7), none, none, none, none, none, some (.int l13), none, none] [.int r1.1]
  refine J_is hx (by decide) (hc_of rfl) rfl dL_law_627 ?_
  refine J_il hx rfl dL_law_629 ?_
  refine J_il hx rfl dL_law_631 ?_
  refine J_bipush hx (16 : Int32) dL_law_633 rfl ?_
  refine J_icmp_ne hx 643 dL_law_635 rfl (fun h6 => ?_) (fun h6 => ?_)
  · replace h := neg h h6
    refine J_il hx rfl dL_law_643 ?_
    refine J_lw (ls' := [some (.ref sb), some (.ref (B.1 + 0)), some (.int ln), none, none, none, none, none, none, none, none, none, none, some (.int l13), some (.int r1.1), none]) (lwS (lwS (lwS (lwN (lwN (lwN (lwN (lwN (lwN (lwN (lwN (lwN (lwN (lwS (lwS (lwN lwZ)))))))))))))))) ?_
    exact tL_step_645 hx hC htr hX hk hn kk _ _ _ _ _  hW4 h
  · replace h := pos h h6
    refine J_ldc hx cn_L_20 dL_law_638 ?_
    refine J_goto hx 645 dL_law_640 rfl ?_
    refine J_lw (ls' := [some (.ref sb), some (.ref (B.1 + 0)), some (.int ln), none, none, none, none, none, none, none, none, none, none, some (.int l13), some (.int r1.1), none]) (lwS (lwS (lwS (lwN (lwN (lwN (lwN (lwN (lwN (lwN (lwN (lwN (lwN (lwS (lwS (lwN lwZ)))))))))))))))) ?_
    exact tL_step_645 hx hC htr hX hk hn kk _ _ _ _ _  hW4 h
def sL_step_573 (lo : Int32 → Option Int32) (ln : Int32) (w : Wl) (l4 : Int32) (l7 : Int32) (s0 : Int32) : Option Wl := (sL_low w l4 (6 : Int32)).bind (fun r1 => (sL_low w (l4 >>> ((3 : Int32) &&& 31)) (900 : Int32)).bind (fun r3 => (sL_low w (l4 >>> ((13 : Int32) &&& 31)) (6 : Int32)).bind (fun r5 => (sL_low w (l4 >>> ((16 : Int32) &&& 31)) (4 : Int32)).bind (fun r7 => (if r7 = 0 then sL_step_624 lo ln w l7 s0 s0 r1 ((1 : Int32) + r3) r5 (1 : Int32) else sL_step_624 lo ln w l7 s0 s0 r1 ((1 : Int32) + r3) r5 (0 : Int32))))))
theorem tL_step_573 {X : Cx} {B : Bs} {sz : Nat} {r : Wl} {sb k n : Nat} {lo : Int32 → Option Int32} {ln : Int32} (hx : Fx X code 16 RL 12 642985 7172742) (hC : GC (xΓ X) B) (htr : (xl X).stackTraces = false) (hX : LoK X sb lo) (hk : k + 1 ≤ 642985) (hn : n + 6 ≤ 7172742) (kk : ∀ (G' : Gf) (sz' : Nat), Wd (xΓ X) B r G' → J X 16 G' sz' (k + 1) (n + 6) 1053 [some (.ref sb), some (.ref (B.1 + 0)), some (.int ln), none, none, none, none, none, none, none, none, none, none, none, none, none] [])  : ∀ (w : Wl) (l4 : Int32) (l7 : Int32) (s0 : Int32) {G : Gf} (hW : Wd (xΓ X) B w G) (h : sL_step_573 lo ln  w l4 l7 s0 = some r), J X 16 G sz k n 573 [some (.ref sb), some (.ref (B.1 + 0)), some (.int ln), none, some (.int l4), none, none, some (.int l7), none, none, none, none, none, none, none, none] [.int s0] := by
  intro w l4 l7 s0 G hW h
  unfold sL_step_573 at h
  refine J_is hx (by decide) (hc_of rfl) rfl dL_law_573 ?_
  refine J_al4 hx rfl rfl dL_law_575 ?_
  refine J_il hx rfl dL_law_576 ?_
  refine J_il hx rfl dL_law_578 ?_
  refine J_bipush hx (6 : Int32) dL_law_580 rfl ?_
  obtain ⟨r1, hr2, h⟩ := bnd h
  refine J_rdS hx (kL_low  hW hr2) ml_L_128 lk_L_low (rest := [.int s0, .ref (B.1 + 0)]) rfl rfl (by decide) (by decide) (Nat.le_of_ble_eq_true rfl) (by omega) (by omega) dL_law_582 ?_
  refine J_iconst hx (1 : Int32) dL_law_585 rfl ?_
  refine J_il hx rfl dL_law_586 ?_
  refine J_iconst hx (3 : Int32) dL_law_588 rfl ?_
  refine J_ishr hx dL_law_589 ?_
  refine J_sipush hx (900 : Int32) dL_law_590 rfl ?_
  obtain ⟨r3, hr4, h⟩ := bnd h
  refine J_rdS hx (kL_low  hW hr4) ml_L_128 lk_L_low (rest := [.int (1 : Int32), .int r1, .int s0, .ref (B.1 + 0)]) rfl rfl (by decide) (by decide) (Nat.le_of_ble_eq_true rfl) (by omega) (by omega) dL_law_593 ?_
  refine J_iadd hx dL_law_596 ?_
  refine J_il hx rfl dL_law_597 ?_
  refine J_bipush hx (13 : Int32) dL_law_599 rfl ?_
  refine J_ishr hx dL_law_601 ?_
  refine J_bipush hx (6 : Int32) dL_law_602 rfl ?_
  obtain ⟨r5, hr6, h⟩ := bnd h
  refine J_rdS hx (kL_low  hW hr6) ml_L_128 lk_L_low (rest := [.int ((1 : Int32) + r3), .int r1, .int s0, .ref (B.1 + 0)]) rfl rfl (by decide) (by decide) (Nat.le_of_ble_eq_true rfl) (by omega) (by omega) dL_law_604 ?_
  refine J_il hx rfl dL_law_607 ?_
  refine J_bipush hx (16 : Int32) dL_law_609 rfl ?_
  refine J_ishr hx dL_law_611 ?_
  refine J_iconst hx (4 : Int32) dL_law_612 rfl ?_
  obtain ⟨r7, hr8, h⟩ := bnd h
  refine J_rdS hx (kL_low  hW hr8) ml_L_128 lk_L_low (rest := [.int r5, .int ((1 : Int32) + r3), .int r1, .int s0, .ref (B.1 + 0)]) rfl rfl (by decide) (by decide) (Nat.le_of_ble_eq_true rfl) (by omega) (by omega) dL_law_613 ?_
  refine J_if_ne hx 623 dL_law_616 rfl (fun h9 => ?_) (fun h9 => ?_)
  · replace h := neg h h9
    refine J_iconst hx (0 : Int32) dL_law_623 rfl ?_
    refine J_lw (ls' := [some (.ref sb), some (.ref (B.1 + 0)), some (.int ln), none, none, none, none, some (.int l7), none, none, none, none, none, some (.int s0), none, none]) (lwS (lwS (lwS (lwN (lwN (lwN (lwN (lwS (lwN (lwN (lwN (lwN (lwN (lwS (lwN (lwN lwZ)))))))))))))))) ?_
    exact tL_step_624 hx hC htr hX hk hn kk _ _ _ _ _ _ _ _  hW h
  · replace h := pos h h9
    refine J_iconst hx (1 : Int32) dL_law_619 rfl ?_
    refine J_goto hx 624 dL_law_620 rfl ?_
    refine J_lw (ls' := [some (.ref sb), some (.ref (B.1 + 0)), some (.int ln), none, none, none, none, some (.int l7), none, none, none, none, none, some (.int s0), none, none]) (lwS (lwS (lwS (lwN (lwN (lwN (lwN (lwS (lwN (lwN (lwN (lwN (lwN (lwS (lwN (lwN lwZ)))))))))))))))) ?_
    exact tL_step_624 hx hC htr hX hk hn kk _ _ _ _ _ _ _ _  hW h
def sL_step_489 (lo : Int32 → Option Int32) (ln : Int32) (w : Wl) (l4 : Int32) (l13 : Int32) (l14 : Int32) (s0 : Int32) (s1 : Int32) : Option Wl := (if s0 = s1 then (if l14 < 0 then sL_step_1044 lo ln w else (sO_crate w l14 (1 : Int32)).bind (fun r3 => (if r3 = (1 : Int32) then (sO_crate w l14 (3 : Int32)).bind (fun r6 => (if r6 = l13 then (sO_crate w l14 (13 : Int32)).bind (fun r9 => (if r9 = (1 : Int32) then (sO_crate w l14 (0 : Int32)).bind (fun r12 => (sL_low w l4 (4 : Int32)).bind (fun r14 => (if r12 = ((1 : Int32) + r14) then sL_step_1044 lo ln w else none))) else none)) else none)) else none))) else none)
theorem tL_step_489 {X : Cx} {B : Bs} {sz : Nat} {r : Wl} {sb k n : Nat} {lo : Int32 → Option Int32} {ln : Int32} (hx : Fx X code 16 RL 12 642985 7172742) (hC : GC (xΓ X) B) (htr : (xl X).stackTraces = false) (hX : LoK X sb lo) (hk : k + 1 ≤ 642985) (hn : n + 6 ≤ 7172742) (kk : ∀ (G' : Gf) (sz' : Nat), Wd (xΓ X) B r G' → J X 16 G' sz' (k + 1) (n + 6) 1053 [some (.ref sb), some (.ref (B.1 + 0)), some (.int ln), none, none, none, none, none, none, none, none, none, none, none, none, none] [])  : ∀ (w : Wl) (l4 : Int32) (l13 : Int32) (l14 : Int32) (s0 : Int32) (s1 : Int32) {G : Gf} (hW : Wd (xΓ X) B w G) (h : sL_step_489 lo ln  w l4 l13 l14 s0 s1 = some r), J X 16 G sz (k + 1) (n + 6) 489 [some (.ref sb), some (.ref (B.1 + 0)), some (.int ln), none, some (.int l4), none, none, none, none, none, none, none, none, some (.int l13), some (.int l14), none] [.int s1, .int s0] := by
  intro w l4 l13 l14 s0 s1 G hW h
  unfold sL_step_489 at h
  refine J_icmp_ne hx 550 dL_law_489 rfl (fun h1 => ?_) (fun h1 => ?_)
  · replace h := neg h h1
    refine J_iconst hx (0 : Int32) dL_law_550 rfl ?_
    cases h
  · replace h := pos h h1
    refine J_il hx rfl dL_law_492 ?_
    refine J_if_lt hx 552 dL_law_494 rfl (fun h2 => ?_) (fun h2 => ?_)
    · replace h := pos h h2
      refine J_goto hx 1044 dL_law_552 rfl ?_
      refine J_lw (ls' := [some (.ref sb), some (.ref (B.1 + 0)), some (.int ln), none, none, none, none, none, none, none, none, none, none, none, none, none]) (lwS (lwS (lwS (lwN (lwN (lwN (lwN (lwN (lwN (lwN (lwN (lwN (lwN (lwN (lwN (lwN lwZ)))))))))))))))) ?_
      exact tL_step_1044 hx hC htr hX hk hn kk _   hW h
    · replace h := neg h h2
      refine J_al4 hx rfl rfl dL_law_497 ?_
      refine J_il hx rfl dL_law_498 ?_
      refine J_iconst hx (1 : Int32) dL_law_500 rfl ?_
      obtain ⟨r3, hr4, h⟩ := bnd h
      refine J_rdL hx (kP_crate hC hW (okS_e hr4)) ml_L_118 cw_crate st_crate ini_L hy_crate (rest := []) rfl rfl (by decide) (by decide) (Nat.le_of_ble_eq_true rfl) (by omega) (by omega) dL_law_501 ?_
      refine J_iconst hx (1 : Int32) dL_law_504 rfl ?_
      refine J_icmp_ne hx 550 dL_law_505 rfl (fun h5 => ?_) (fun h5 => ?_)
      · replace h := neg h h5
        refine J_iconst hx (0 : Int32) dL_law_550 rfl ?_
        cases h
      · replace h := pos h h5
        refine J_al4 hx rfl rfl dL_law_508 ?_
        refine J_il hx rfl dL_law_509 ?_
        refine J_iconst hx (3 : Int32) dL_law_511 rfl ?_
        obtain ⟨r6, hr7, h⟩ := bnd h
        refine J_rdL hx (kP_crate hC hW (okS_e hr7)) ml_L_118 cw_crate st_crate ini_L hy_crate (rest := []) rfl rfl (by decide) (by decide) (Nat.le_of_ble_eq_true rfl) (by omega) (by omega) dL_law_512 ?_
        refine J_il hx rfl dL_law_515 ?_
        refine J_icmp_ne hx 550 dL_law_517 rfl (fun h8 => ?_) (fun h8 => ?_)
        · replace h := neg h h8
          refine J_iconst hx (0 : Int32) dL_law_550 rfl ?_
          cases h
        · replace h := pos h h8
          refine J_al4 hx rfl rfl dL_law_520 ?_
          refine J_il hx rfl dL_law_521 ?_
          refine J_bipush hx (13 : Int32) dL_law_523 rfl ?_
          obtain ⟨r9, hr10, h⟩ := bnd h
          refine J_rdL hx (kP_crate hC hW (okS_e hr10)) ml_L_118 cw_crate st_crate ini_L hy_crate (rest := []) rfl rfl (by decide) (by decide) (Nat.le_of_ble_eq_true rfl) (by omega) (by omega) dL_law_525 ?_
          refine J_iconst hx (1 : Int32) dL_law_528 rfl ?_
          refine J_icmp_ne hx 550 dL_law_529 rfl (fun h11 => ?_) (fun h11 => ?_)
          · replace h := neg h h11
            refine J_iconst hx (0 : Int32) dL_law_550 rfl ?_
            cases h
          · replace h := pos h h11
            refine J_al4 hx rfl rfl dL_law_532 ?_
            refine J_il hx rfl dL_law_533 ?_
            refine J_iconst hx (0 : Int32) dL_law_535 rfl ?_
            obtain ⟨r12, hr13, h⟩ := bnd h
            refine J_rdL hx (kP_crate hC hW (okS_e hr13)) ml_L_118 cw_crate st_crate ini_L hy_crate (rest := []) rfl rfl (by decide) (by decide) (Nat.le_of_ble_eq_true rfl) (by omega) (by omega) dL_law_536 ?_
            refine J_iconst hx (1 : Int32) dL_law_539 rfl ?_
            refine J_il hx rfl dL_law_540 ?_
            refine J_iconst hx (4 : Int32) dL_law_542 rfl ?_
            obtain ⟨r14, hr15, h⟩ := bnd h
            refine J_rdS hx (kL_low  hW hr15) ml_L_128 lk_L_low (rest := [.int (1 : Int32), .int r12]) rfl rfl (by decide) (by decide) (Nat.le_of_ble_eq_true rfl) (by omega) (by omega) dL_law_543 ?_
            refine J_iadd hx dL_law_546 ?_
            refine J_icmp_eq hx 552 dL_law_547 rfl (fun h16 => ?_) (fun h16 => ?_)
            · replace h := pos h h16
              refine J_goto hx 1044 dL_law_552 rfl ?_
              refine J_lw (ls' := [some (.ref sb), some (.ref (B.1 + 0)), some (.int ln), none, none, none, none, none, none, none, none, none, none, none, none, none]) (lwS (lwS (lwS (lwN (lwN (lwN (lwN (lwN (lwN (lwN (lwN (lwN (lwN (lwN (lwN (lwN lwZ)))))))))))))))) ?_
              exact tL_step_1044 hx hC htr hX hk hn kk _   hW h
            · replace h := neg h h16
              refine J_iconst hx (0 : Int32) dL_law_550 rfl ?_
              cases h
def sL_step_455 (lo : Int32 → Option Int32) (ln : Int32) (w : Wl) (l4 : Int32) (l6 : Int32) (s0 : Int32) : Option Wl := (sL_low w l4 (4 : Int32)).bind (fun r1 => (sL_addCrate w s0 ((1 : Int32) + r1)).bind (fun r3 => (if l6 = (12 : Int32) then sL_step_489 lo ln r3.2 l4 s0 r3.1 r3.1 (-90200 : Int32) else sL_step_489 lo ln r3.2 l4 s0 r3.1 r3.1 l6)))
theorem tL_step_455 {X : Cx} {B : Bs} {sz : Nat} {r : Wl} {sb k n : Nat} {lo : Int32 → Option Int32} {ln : Int32} (hx : Fx X code 16 RL 12 642985 7172742) (hC : GC (xΓ X) B) (htr : (xl X).stackTraces = false) (hX : LoK X sb lo) (hk : k + 1 ≤ 642985) (hn : n + 6 ≤ 7172742) (kk : ∀ (G' : Gf) (sz' : Nat), Wd (xΓ X) B r G' → J X 16 G' sz' (k + 1) (n + 6) 1053 [some (.ref sb), some (.ref (B.1 + 0)), some (.int ln), none, none, none, none, none, none, none, none, none, none, none, none, none] [])  : ∀ (w : Wl) (l4 : Int32) (l6 : Int32) (s0 : Int32) {G : Gf} (hW : Wd (xΓ X) B w G) (h : sL_step_455 lo ln  w l4 l6 s0 = some r), J X 16 G sz k n 455 [some (.ref sb), some (.ref (B.1 + 0)), some (.int ln), none, some (.int l4), none, some (.int l6), none, none, none, none, none, none, none, none, none] [.int s0] := by
  intro w l4 l6 s0 G hW h
  unfold sL_step_455 at h
  refine J_is hx (by decide) (hc_of rfl) rfl dL_law_455 ?_
  refine J_al4 hx rfl rfl dL_law_457 ?_
  refine J_il hx rfl dL_law_458 ?_
  refine J_iconst hx (1 : Int32) dL_law_460 rfl ?_
  refine J_il hx rfl dL_law_461 ?_
  refine J_iconst hx (4 : Int32) dL_law_463 rfl ?_
  obtain ⟨r1, hr2, h⟩ := bnd h
  refine J_rdS hx (kL_low  hW hr2) ml_L_128 lk_L_low (rest := [.int (1 : Int32), .int s0, .ref (B.1 + 0)]) rfl rfl (by decide) (by decide) (Nat.le_of_ble_eq_true rfl) (by omega) (by omega) dL_law_464 ?_
  refine J_iadd hx dL_law_467 ?_
  obtain ⟨r3, hr4, h⟩ := bnd h
  refine J_callSW hx (kL_addCrate htr hC hW hr4) ml_L_174 cw_addCrate st_addCrate ini_L hy_addCrate (rest := []) rfl rfl (by decide) (by decide) (Nat.le_of_ble_eq_true rfl) (by omega) (by omega) dL_law_468 fun x1 G5 z7 hh => ?_
  obtain ⟨rfl, hW6⟩ := hh
  show J X 16 G5 z7 (k + 1) (n + 6) 471 [some (.ref sb), some (.ref (B.1 + 0)), some (.int ln), none, some (.int l4), none, some (.int l6), none, none, none, none, none, none, some (.int s0), none, none] [.int r3.1]
  refine J_is hx (by decide) (hc_of rfl) rfl dL_law_471 ?_
  refine J_il hx rfl dL_law_473 ?_
  refine J_il hx rfl dL_law_475 ?_
  refine J_bipush hx (12 : Int32) dL_law_477 rfl ?_
  refine J_icmp_ne hx 487 dL_law_479 rfl (fun h8 => ?_) (fun h8 => ?_)
  · replace h := neg h h8
    refine J_il hx rfl dL_law_487 ?_
    refine J_lw (ls' := [some (.ref sb), some (.ref (B.1 + 0)), some (.int ln), none, some (.int l4), none, none, none, none, none, none, none, none, some (.int s0), some (.int r3.1), none]) (lwS (lwS (lwS (lwN (lwS (lwN (lwN (lwN (lwN (lwN (lwN (lwN (lwN (lwS (lwS (lwN lwZ)))))))))))))))) ?_
    exact tL_step_489 hx hC htr hX hk hn kk _ _ _ _ _ _  hW6 h
  · replace h := pos h h8
    refine J_ldc hx cn_L_20 dL_law_482 ?_
    refine J_goto hx 489 dL_law_484 rfl ?_
    refine J_lw (ls' := [some (.ref sb), some (.ref (B.1 + 0)), some (.int ln), none, some (.int l4), none, none, none, none, none, none, none, none, some (.int s0), some (.int r3.1), none]) (lwS (lwS (lwS (lwN (lwS (lwN (lwN (lwN (lwN (lwN (lwN (lwN (lwN (lwS (lwS (lwN lwZ)))))))))))))))) ?_
    exact tL_step_489 hx hC htr hX hk hn kk _ _ _ _ _ _  hW6 h
def sL_step_407 (lo : Int32 → Option Int32) (ln : Int32) (w : Wl) (l10 : Int32) (l13 : Int32) (l14 : Int32) (s0 : Int32) (s1 : Int32) : Option Wl := (if s0 = s1 then (if l10 = l13 then sL_step_1044 lo ln w else (sO_setWay w l13 l10 l14).bind (fun r3 => (if r3.1 = l14 then sL_step_1044 lo ln r3.2 else none))) else none)
theorem tL_step_407 {X : Cx} {B : Bs} {sz : Nat} {r : Wl} {sb k n : Nat} {lo : Int32 → Option Int32} {ln : Int32} (hx : Fx X code 16 RL 12 642985 7172742) (hC : GC (xΓ X) B) (htr : (xl X).stackTraces = false) (hX : LoK X sb lo) (hk : k + 1 ≤ 642985) (hn : n + 6 ≤ 7172742) (kk : ∀ (G' : Gf) (sz' : Nat), Wd (xΓ X) B r G' → J X 16 G' sz' (k + 1) (n + 6) 1053 [some (.ref sb), some (.ref (B.1 + 0)), some (.int ln), none, none, none, none, none, none, none, none, none, none, none, none, none] [])  : ∀ (w : Wl) (l10 : Int32) (l13 : Int32) (l14 : Int32) (s0 : Int32) (s1 : Int32) {G : Gf} (hW : Wd (xΓ X) B w G) (h : sL_step_407 lo ln  w l10 l13 l14 s0 s1 = some r), J X 16 G sz (k + 1) (n + 6) 407 [some (.ref sb), some (.ref (B.1 + 0)), some (.int ln), none, none, none, none, none, none, none, some (.int l10), none, none, some (.int l13), some (.int l14), none] [.int s1, .int s0] := by
  intro w l10 l13 l14 s0 s1 G hW h
  unfold sL_step_407 at h
  refine J_icmp_ne hx 432 dL_law_407 rfl (fun h1 => ?_) (fun h1 => ?_)
  · replace h := neg h h1
    refine J_iconst hx (0 : Int32) dL_law_432 rfl ?_
    cases h
  · replace h := pos h h1
    refine J_il hx rfl dL_law_410 ?_
    refine J_il hx rfl dL_law_412 ?_
    refine J_icmp_eq hx 434 dL_law_414 rfl (fun h2 => ?_) (fun h2 => ?_)
    · replace h := pos h h2
      refine J_goto hx 1044 dL_law_434 rfl ?_
      refine J_lw (ls' := [some (.ref sb), some (.ref (B.1 + 0)), some (.int ln), none, none, none, none, none, none, none, none, none, none, none, none, none]) (lwS (lwS (lwS (lwN (lwN (lwN (lwN (lwN (lwN (lwN (lwN (lwN (lwN (lwN (lwN (lwN lwZ)))))))))))))))) ?_
      exact tL_step_1044 hx hC htr hX hk hn kk _   hW h
    · replace h := neg h h2
      refine J_al4 hx rfl rfl dL_law_417 ?_
      refine J_il hx rfl dL_law_418 ?_
      refine J_il hx rfl dL_law_420 ?_
      refine J_il hx rfl dL_law_422 ?_
      obtain ⟨r3, hr4, h⟩ := bnd h
      refine J_wrL hx (kP_setWay hC hW (okS_e hr4)) ml_L_166 cw_setWay st_setWay ini_L hy_setWay (rest := []) rfl rfl (by decide) (by decide) (Nat.le_of_ble_eq_true rfl) (by omega) (by omega) dL_law_424 fun G5 hW6 => ?_
      show J X 16 G5 sz (k + 1) (n + 6) 427 [some (.ref sb), some (.ref (B.1 + 0)), some (.int ln), none, none, none, none, none, none, none, some (.int l10), none, none, some (.int l13), some (.int l14), none] [.int r3.1]
      refine J_il hx rfl dL_law_427 ?_
      refine J_icmp_eq hx 434 dL_law_429 rfl (fun h7 => ?_) (fun h7 => ?_)
      · replace h := pos h h7
        refine J_goto hx 1044 dL_law_434 rfl ?_
        refine J_lw (ls' := [some (.ref sb), some (.ref (B.1 + 0)), some (.int ln), none, none, none, none, none, none, none, none, none, none, none, none, none]) (lwS (lwS (lwS (lwN (lwN (lwN (lwN (lwN (lwN (lwN (lwN (lwN (lwN (lwN (lwN (lwN lwZ)))))))))))))))) ?_
        exact tL_step_1044 hx hC htr hX hk hn kk _   hW6 h
      · replace h := neg h h7
        refine J_iconst hx (0 : Int32) dL_law_432 rfl ?_
        cases h
def sL_step_395 (lo : Int32 → Option Int32) (ln : Int32) (w : Wl) (l10 : Int32) (l13 : Int32) (l14 : Int32) (s0 : Int32) : Option Wl := (if l10 = l13 then sL_step_407 lo ln w l10 l13 l14 s0 (0 : Int32) else sL_step_407 lo ln w l10 l13 l14 s0 (1 : Int32))
theorem tL_step_395 {X : Cx} {B : Bs} {sz : Nat} {r : Wl} {sb k n : Nat} {lo : Int32 → Option Int32} {ln : Int32} (hx : Fx X code 16 RL 12 642985 7172742) (hC : GC (xΓ X) B) (htr : (xl X).stackTraces = false) (hX : LoK X sb lo) (hk : k + 1 ≤ 642985) (hn : n + 6 ≤ 7172742) (kk : ∀ (G' : Gf) (sz' : Nat), Wd (xΓ X) B r G' → J X 16 G' sz' (k + 1) (n + 6) 1053 [some (.ref sb), some (.ref (B.1 + 0)), some (.int ln), none, none, none, none, none, none, none, none, none, none, none, none, none] [])  : ∀ (w : Wl) (l10 : Int32) (l13 : Int32) (l14 : Int32) (s0 : Int32) {G : Gf} (hW : Wd (xΓ X) B w G) (h : sL_step_395 lo ln  w l10 l13 l14 s0 = some r), J X 16 G sz (k + 1) (n + 6) 395 [some (.ref sb), some (.ref (B.1 + 0)), some (.int ln), none, none, none, none, none, none, none, some (.int l10), none, none, some (.int l13), some (.int l14), none] [.int s0] := by
  intro w l10 l13 l14 s0 G hW h
  unfold sL_step_395 at h
  refine J_il hx rfl dL_law_395 ?_
  refine J_il hx rfl dL_law_397 ?_
  refine J_icmp_eq hx 406 dL_law_399 rfl (fun h1 => ?_) (fun h1 => ?_)
  · replace h := pos h h1
    refine J_iconst hx (0 : Int32) dL_law_406 rfl ?_
    exact tL_step_407 hx hC htr hX hk hn kk _ _ _ _ _ _  hW h
  · replace h := neg h h1
    refine J_iconst hx (1 : Int32) dL_law_402 rfl ?_
    refine J_goto hx 407 dL_law_403 rfl ?_
    exact tL_step_407 hx hC htr hX hk hn kk _ _ _ _ _ _  hW h
def sL_step_299 (lo : Int32 → Option Int32) (ln : Int32) (w : Wl) (l4 : Int32) (l13 : Int32) (s0 : Int32) (s1 : Int32) : Option Wl := (if s0 = s1 then (if l13 < 0 then sL_step_1044 lo ln w else (sO_venue w l13 (0 : Int32)).bind (fun r3 => (sL_low w l4 (51 : Int32)).bind (fun r5 => (if r3 = (r5 - (10 : Int32)) then (sO_venue w l13 (8 : Int32)).bind (fun r8 => (if r8 = 0 then sL_step_1044 lo ln w else none)) else none)))) else none)
theorem tL_step_299 {X : Cx} {B : Bs} {sz : Nat} {r : Wl} {sb k n : Nat} {lo : Int32 → Option Int32} {ln : Int32} (hx : Fx X code 16 RL 12 642985 7172742) (hC : GC (xΓ X) B) (htr : (xl X).stackTraces = false) (hX : LoK X sb lo) (hk : k + 1 ≤ 642985) (hn : n + 6 ≤ 7172742) (kk : ∀ (G' : Gf) (sz' : Nat), Wd (xΓ X) B r G' → J X 16 G' sz' (k + 1) (n + 6) 1053 [some (.ref sb), some (.ref (B.1 + 0)), some (.int ln), none, none, none, none, none, none, none, none, none, none, none, none, none] [])  : ∀ (w : Wl) (l4 : Int32) (l13 : Int32) (s0 : Int32) (s1 : Int32) {G : Gf} (hW : Wd (xΓ X) B w G) (h : sL_step_299 lo ln  w l4 l13 s0 s1 = some r), J X 16 G sz (k + 1) (n + 6) 299 [some (.ref sb), some (.ref (B.1 + 0)), some (.int ln), none, some (.int l4), none, none, none, none, none, none, none, none, some (.int l13), none, none] [.int s1, .int s0] := by
  intro w l4 l13 s0 s1 G hW h
  unfold sL_step_299 at h
  refine J_icmp_ne hx 338 dL_law_299 rfl (fun h1 => ?_) (fun h1 => ?_)
  · replace h := neg h h1
    refine J_iconst hx (0 : Int32) dL_law_338 rfl ?_
    cases h
  · replace h := pos h h1
    refine J_il hx rfl dL_law_302 ?_
    refine J_if_lt hx 340 dL_law_304 rfl (fun h2 => ?_) (fun h2 => ?_)
    · replace h := pos h h2
      refine J_goto hx 1044 dL_law_340 rfl ?_
      refine J_lw (ls' := [some (.ref sb), some (.ref (B.1 + 0)), some (.int ln), none, none, none, none, none, none, none, none, none, none, none, none, none]) (lwS (lwS (lwS (lwN (lwN (lwN (lwN (lwN (lwN (lwN (lwN (lwN (lwN (lwN (lwN (lwN lwZ)))))))))))))))) ?_
      exact tL_step_1044 hx hC htr hX hk hn kk _   hW h
    · replace h := neg h h2
      refine J_al4 hx rfl rfl dL_law_307 ?_
      refine J_il hx rfl dL_law_308 ?_
      refine J_iconst hx (0 : Int32) dL_law_310 rfl ?_
      obtain ⟨r3, hr4, h⟩ := bnd h
      refine J_rdL hx (kP_venue hC hW (okS_e hr4)) ml_L_124 cw_venue st_venue ini_L hy_venue (rest := []) rfl rfl (by decide) (by decide) (Nat.le_of_ble_eq_true rfl) (by omega) (by omega) dL_law_311 ?_
      refine J_il hx rfl dL_law_314 ?_
      refine J_bipush hx (51 : Int32) dL_law_316 rfl ?_
      obtain ⟨r5, hr6, h⟩ := bnd h
      refine J_rdS hx (kL_low  hW hr6) ml_L_128 lk_L_low (rest := [.int r3]) rfl rfl (by decide) (by decide) (Nat.le_of_ble_eq_true rfl) (by omega) (by omega) dL_law_318 ?_
      refine J_bipush hx (10 : Int32) dL_law_321 rfl ?_
      refine J_isub hx dL_law_323 ?_
      refine J_icmp_ne hx 338 dL_law_324 rfl (fun h7 => ?_) (fun h7 => ?_)
      · replace h := neg h h7
        refine J_iconst hx (0 : Int32) dL_law_338 rfl ?_
        cases h
      · replace h := pos h h7
        refine J_al4 hx rfl rfl dL_law_327 ?_
        refine J_il hx rfl dL_law_328 ?_
        refine J_bipush hx (8 : Int32) dL_law_330 rfl ?_
        obtain ⟨r8, hr9, h⟩ := bnd h
        refine J_rdL hx (kP_venue hC hW (okS_e hr9)) ml_L_124 cw_venue st_venue ini_L hy_venue (rest := []) rfl rfl (by decide) (by decide) (Nat.le_of_ble_eq_true rfl) (by omega) (by omega) dL_law_332 ?_
        refine J_if_eq hx 340 dL_law_335 rfl (fun h10 => ?_) (fun h10 => ?_)
        · replace h := pos h h10
          refine J_goto hx 1044 dL_law_340 rfl ?_
          refine J_lw (ls' := [some (.ref sb), some (.ref (B.1 + 0)), some (.int ln), none, none, none, none, none, none, none, none, none, none, none, none, none]) (lwS (lwS (lwS (lwN (lwN (lwN (lwN (lwN (lwN (lwN (lwN (lwN (lwN (lwN (lwN (lwN lwZ)))))))))))))))) ?_
          exact tL_step_1044 hx hC htr hX hk hn kk _   hW h
        · replace h := neg h h10
          refine J_iconst hx (0 : Int32) dL_law_338 rfl ?_
          cases h
def sL_step_278 (lo : Int32 → Option Int32) (ln : Int32) (w : Wl) (l4 : Int32) (l5 : Int32) (s1 : Int32) (s2 : Int32) (s3 : Int32) (s4 : Int32) : Option Wl := (sL_addVenue w s1 s2 s3 s4).bind (fun r1 => (if l5 = (8 : Int32) then sL_step_299 lo ln r1.2 l4 r1.1 r1.1 (-90200 : Int32) else sL_step_299 lo ln r1.2 l4 r1.1 r1.1 l5))
theorem tL_step_278 {X : Cx} {B : Bs} {sz : Nat} {r : Wl} {sb k n : Nat} {lo : Int32 → Option Int32} {ln : Int32} (hx : Fx X code 16 RL 12 642985 7172742) (hC : GC (xΓ X) B) (htr : (xl X).stackTraces = false) (hX : LoK X sb lo) (hk : k + 1 ≤ 642985) (hn : n + 6 ≤ 7172742) (kk : ∀ (G' : Gf) (sz' : Nat), Wd (xΓ X) B r G' → J X 16 G' sz' (k + 1) (n + 6) 1053 [some (.ref sb), some (.ref (B.1 + 0)), some (.int ln), none, none, none, none, none, none, none, none, none, none, none, none, none] [])  : ∀ (w : Wl) (l4 : Int32) (l5 : Int32) (s1 : Int32) (s2 : Int32) (s3 : Int32) (s4 : Int32) {G : Gf} (hW : Wd (xΓ X) B w G) (h : sL_step_278 lo ln  w l4 l5 s1 s2 s3 s4 = some r), J X 16 G sz k n 278 [some (.ref sb), some (.ref (B.1 + 0)), some (.int ln), none, some (.int l4), some (.int l5), none, none, none, none, none, none, none, none, none, none] [.int s4, .int s3, .int s2, .int s1, .ref (B.1 + 0)] := by
  intro w l4 l5 s1 s2 s3 s4 G hW h
  unfold sL_step_278 at h
  obtain ⟨r1, hr2, h⟩ := bnd h
  refine J_callSW hx (kL_addVenue htr hC hW hr2) ml_L_161 cw_addVenue st_addVenue ini_L hy_addVenue (rest := []) rfl rfl (by decide) (by decide) (Nat.le_of_ble_eq_true rfl) (by omega) (by omega) dL_law_278 fun x1 G3 z5 hh => ?_
  obtain ⟨rfl, hW4⟩ := hh
  show J X 16 G3 z5 (k + 1) (n + 6) 281 [some (.ref sb), some (.ref (B.1 + 0)), some (.int ln), none, some (.int l4), some (.int l5), none, none, none, none, none, none, none, none, none, none] [.int r1.1]
  refine J_is hx (by decide) (hc_of rfl) rfl dL_law_281 ?_
  refine J_il hx rfl dL_law_283 ?_
  refine J_il hx rfl dL_law_285 ?_
  refine J_bipush hx (8 : Int32) dL_law_287 rfl ?_
  refine J_icmp_ne hx 297 dL_law_289 rfl (fun h6 => ?_) (fun h6 => ?_)
  · replace h := neg h h6
    refine J_il hx rfl dL_law_297 ?_
    refine J_lw (ls' := [some (.ref sb), some (.ref (B.1 + 0)), some (.int ln), none, some (.int l4), none, none, none, none, none, none, none, none, some (.int r1.1), none, none]) (lwS (lwS (lwS (lwN (lwS (lwN (lwN (lwN (lwN (lwN (lwN (lwN (lwN (lwS (lwN (lwN lwZ)))))))))))))))) ?_
    exact tL_step_299 hx hC htr hX hk hn kk _ _ _ _ _  hW4 h
  · replace h := pos h h6
    refine J_ldc hx cn_L_20 dL_law_292 ?_
    refine J_goto hx 299 dL_law_294 rfl ?_
    refine J_lw (ls' := [some (.ref sb), some (.ref (B.1 + 0)), some (.int ln), none, some (.int l4), none, none, none, none, none, none, none, none, some (.int r1.1), none, none]) (lwS (lwS (lwS (lwN (lwS (lwN (lwN (lwN (lwN (lwN (lwN (lwN (lwN (lwS (lwN (lwN lwZ)))))))))))))))) ?_
    exact tL_step_299 hx hC htr hX hk hn kk _ _ _ _ _  hW4 h
def sL_step_216 (lo : Int32 → Option Int32) (ln : Int32) (w : Wl) (l4 : Int32) (l5 : Int32) (l6 : Int32) (l7 : Int32) (l8 : Int32) (l9 : Int32) (l10 : Int32) (l11 : Int32) (s0 : Int32) : Option Wl := (if l9 = 0 then (sL_low w l4 (51 : Int32)).bind (fun r91 => (sL_low w (l4 >>> ((6 : Int32) &&& 31)) (71 : Int32)).bind (fun r93 => (sL_low w (l4 >>> ((13 : Int32) &&& 31)) (501 : Int32)).bind (fun r95 => (sL_low w (l4 >>> ((22 : Int32) &&& 31)) (3 : Int32)).bind (fun r97 => (if r97 = 0 then sL_step_278 lo ln w l4 l5 (r91 - (10 : Int32)) ((20 : Int32) + r93) r95 (2000 : Int32) else sL_step_278 lo ln w l4 l5 (r91 - (10 : Int32)) ((20 : Int32) + r93) r95 (10000000 : Int32)))))) else (if l9 = (1 : Int32) then (sL_low w l4 l5).bind (fun r81 => (sL_low w (l4 >>> ((4 : Int32) &&& 31)) (40 : Int32)).bind (fun r83 => (sL_setWay w l10 r81 ((1 : Int32) + r83)).bind (fun r85 => (if r85.1 = (-90100 : Int32) then sL_step_395 lo ln r85.2 l10 r81 ((1 : Int32) + r83) (0 : Int32) else sL_step_395 lo ln r85.2 l10 r81 ((1 : Int32) + r83) (1 : Int32))))) else (if l9 = (2 : Int32) then (if (13 : Int32) ≤ ln then sL_step_455 lo ln w l4 l6 l10 else sL_step_455 lo ln w l4 l6 (0 : Int32)) else (if l9 = (3 : Int32) then (if (19 : Int32) ≤ ln then sL_step_573 lo ln w l4 l7 l10 else sL_step_573 lo ln w l4 l7 (0 : Int32)) else (if l9 = (4 : Int32) then (sL_addCourier w l10).bind (fun r73 => (if l8 = (4 : Int32) then sL_step_732 lo ln r73.2 l10 r73.1 r73.1 (-90200 : Int32) else sL_step_732 lo ln r73.2 l10 r73.1 r73.1 l8)) else (if l9 = (5 : Int32) then (sO_venue w l10 (0 : Int32)).bind (fun r55 => (sO_venue w l10 (1 : Int32)).bind (fun r57 => (sL_low w l4 (30 : Int32)).bind (fun r59 => (sL_low w (l4 >>> ((5 : Int32) &&& 31)) (71 : Int32)).bind (fun r61 => (sO_setClimate w l10 r59 ((20 : Int32) + r61)).bind (fun r63 => (if r63.1 = (((1000 : Int32) * r55) + r57) then (sO_venue r63.2 l10 (0 : Int32)).bind (fun r68 => (sL_low r63.2 l4 (30 : Int32)).bind (fun r70 => (if r68 = r70 then sL_step_1044 lo ln r63.2 else none))) else none)))))) else (if l9 = (6 : Int32) then (sL_low w l4 (4 : Int32)).bind (fun r36 => (if r36 = 0 then (sL_low w (l4 >>> ((2 : Int32) &&& 31)) (6 : Int32)).bind (fun r47 => (sL_low w (l4 >>> ((5 : Int32) &&& 31)) (8 : Int32)).bind (fun r49 => (sO_setLender w r47 (3 : Int32) ((1 : Int32) <<< (r49 &&& 31))).bind (fun r51 => sL_step_905 lo ln r51.2 r51.1))) else (sL_low w (l4 >>> ((2 : Int32) &&& 31)) (6 : Int32)).bind (fun r39 => (sL_low w (l4 >>> ((5 : Int32) &&& 31)) (41 : Int32)).bind (fun r41 => (sO_setLender w r39 (2 : Int32) ((50 : Int32) + r41)).bind (fun r43 => sL_step_905 lo ln r43.2 r43.1))))) else (if (11 : Int32) ≤ l9 then (if (15 : Int32) ≤ l9 then (if (18 : Int32) ≤ l9 then (sL_low w (l4 >>> ((10 : Int32) &&& 31)) (5 : Int32)).bind (fun r11 => (if r11 = 0 then sL_step_1032 lo ln w (1 : Int32) l4 (240 : Int32) else sL_step_1032 lo ln w (1 : Int32) l4 (26 : Int32))) else (sL_low w l4 (l8 + (1 : Int32))).bind (fun r14 => (sL_sends w l11 l10 (r14 - (1 : Int32))).bind (fun r16 => (if r16.1 = true then sL_step_1044 lo ln r16.2 else none)))) else (sL_low w (l4 >>> ((8 : Int32) &&& 31)) l6).bind (fun r22 => (sL_moves w l11 r22 s0 l4).bind (fun r24 => (if r24.1 = true then sL_step_1044 lo ln r24.2 else none)))) else (sL_boxes w l11 l4).bind (fun r30 => (if r30.1 = true then sL_step_1044 lo ln r30.2 else none))))))))))
theorem tL_step_216 {X : Cx} {B : Bs} {sz : Nat} {r : Wl} {sb k n : Nat} {lo : Int32 → Option Int32} {ln : Int32} (hx : Fx X code 16 RL 12 642985 7172742) (hC : GC (xΓ X) B) (htr : (xl X).stackTraces = false) (hX : LoK X sb lo) (hk : k + 1 ≤ 642985) (hn : n + 6 ≤ 7172742) (kk : ∀ (G' : Gf) (sz' : Nat), Wd (xΓ X) B r G' → J X 16 G' sz' (k + 1) (n + 6) 1053 [some (.ref sb), some (.ref (B.1 + 0)), some (.int ln), none, none, none, none, none, none, none, none, none, none, none, none, none] [])  : ∀ (w : Wl) (l4 : Int32) (l5 : Int32) (l6 : Int32) (l7 : Int32) (l8 : Int32) (l9 : Int32) (l10 : Int32) (l11 : Int32) (s0 : Int32) {G : Gf} (hW : Wd (xΓ X) B w G) (h : sL_step_216 lo ln  w l4 l5 l6 l7 l8 l9 l10 l11 s0 = some r), J X 16 G sz k n 216 [some (.ref sb), some (.ref (B.1 + 0)), some (.int ln), none, some (.int l4), some (.int l5), some (.int l6), some (.int l7), some (.int l8), some (.int l9), some (.int l10), some (.int l11), none, none, none, none] [.int s0] := by
  intro w l4 l5 l6 l7 l8 l9 l10 l11 s0 G hW h
  unfold sL_step_216 at h
  refine J_is hx (by decide) (hc_of rfl) rfl dL_law_216 ?_
  refine J_il hx rfl dL_law_218 ?_
  refine J_if_ne hx 343 dL_law_220 rfl (fun h1 => ?_) (fun h1 => ?_)
  · replace h := neg h h1
    refine J_il hx rfl dL_law_343 ?_
    refine J_iconst hx (1 : Int32) dL_law_345 rfl ?_
    refine J_icmp_ne hx 437 dL_law_346 rfl (fun h2 => ?_) (fun h2 => ?_)
    · replace h := neg h h2
      refine J_il hx rfl dL_law_437 ?_
      refine J_iconst hx (2 : Int32) dL_law_439 rfl ?_
      refine J_icmp_ne hx 555 dL_law_440 rfl (fun h3 => ?_) (fun h3 => ?_)
      · replace h := neg h h3
        refine J_il hx rfl dL_law_555 ?_
        refine J_iconst hx (3 : Int32) dL_law_557 rfl ?_
        refine J_icmp_ne hx 703 dL_law_558 rfl (fun h4 => ?_) (fun h4 => ?_)
        · replace h := neg h h4
          refine J_il hx rfl dL_law_703 ?_
          refine J_iconst hx (4 : Int32) dL_law_705 rfl ?_
          refine J_icmp_ne hx 756 dL_law_706 rfl (fun h5 => ?_) (fun h5 => ?_)
          · replace h := neg h h5
            refine J_il hx rfl dL_law_756 ?_
            refine J_iconst hx (5 : Int32) dL_law_758 rfl ?_
            refine J_icmp_ne hx 835 dL_law_759 rfl (fun h6 => ?_) (fun h6 => ?_)
            · replace h := neg h h6
              refine J_il hx rfl dL_law_835 ?_
              refine J_bipush hx (6 : Int32) dL_law_837 rfl ?_
              refine J_icmp_ne hx 925 dL_law_839 rfl (fun h7 => ?_) (fun h7 => ?_)
              · replace h := neg h h7
                refine J_il hx rfl dL_law_925 ?_
                refine J_bipush hx (11 : Int32) dL_law_927 rfl ?_
                refine J_icmp_ge hx 945 dL_law_929 rfl (fun h8 => ?_) (fun h8 => ?_)
                · replace h := pos h h8
                  refine J_il hx rfl dL_law_945 ?_
                  refine J_bipush hx (15 : Int32) dL_law_947 rfl ?_
                  refine J_icmp_ge hx 977 dL_law_949 rfl (fun h9 => ?_) (fun h9 => ?_)
                  · replace h := pos h h9
                    refine J_il hx rfl dL_law_977 ?_
                    refine J_bipush hx (18 : Int32) dL_law_979 rfl ?_
                    refine J_icmp_ge hx 1008 dL_law_981 rfl (fun h10 => ?_) (fun h10 => ?_)
                    · replace h := pos h h10
                      refine J_al4 hx rfl rfl dL_law_1008 ?_
                      refine J_iconst hx (1 : Int32) dL_law_1009 rfl ?_
                      refine J_il hx rfl dL_law_1010 ?_
                      refine J_il hx rfl dL_law_1012 ?_
                      refine J_bipush hx (10 : Int32) dL_law_1014 rfl ?_
                      refine J_ishr hx dL_law_1016 ?_
                      refine J_iconst hx (5 : Int32) dL_law_1017 rfl ?_
                      obtain ⟨r11, hr12, h⟩ := bnd h
                      refine J_rdS hx (kL_low  hW hr12) ml_L_128 lk_L_low (rest := [.int l4, .int (1 : Int32), .ref (B.1 + 0)]) rfl rfl (by decide) (by decide) (Nat.le_of_ble_eq_true rfl) (by omega) (by omega) dL_law_1018 ?_
                      refine J_if_ne hx 1030 dL_law_1021 rfl (fun h13 => ?_) (fun h13 => ?_)
                      · replace h := neg h h13
                        refine J_bipush hx (26 : Int32) dL_law_1030 rfl ?_
                        refine J_lw (ls' := [some (.ref sb), some (.ref (B.1 + 0)), some (.int ln), none, none, none, none, none, none, none, none, none, none, none, none, none]) (lwS (lwS (lwS (lwN (lwN (lwN (lwN (lwN (lwN (lwN (lwN (lwN (lwN (lwN (lwN (lwN lwZ)))))))))))))))) ?_
                        exact tL_step_1032 hx hC htr hX hk hn kk _ _ _ _  hW h
                      · replace h := pos h h13
                        refine J_sipush hx (240 : Int32) dL_law_1024 rfl ?_
                        refine J_goto hx 1032 dL_law_1027 rfl ?_
                        refine J_lw (ls' := [some (.ref sb), some (.ref (B.1 + 0)), some (.int ln), none, none, none, none, none, none, none, none, none, none, none, none, none]) (lwS (lwS (lwS (lwN (lwN (lwN (lwN (lwN (lwN (lwN (lwN (lwN (lwN (lwN (lwN (lwN lwZ)))))))))))))))) ?_
                        exact tL_step_1032 hx hC htr hX hk hn kk _ _ _ _  hW h
                    · replace h := neg h h10
                      refine J_al4 hx rfl rfl dL_law_984 ?_
                      refine J_il hx rfl dL_law_985 ?_
                      refine J_il hx rfl dL_law_987 ?_
                      refine J_il hx rfl dL_law_989 ?_
                      refine J_il hx rfl dL_law_991 ?_
                      refine J_iconst hx (1 : Int32) dL_law_993 rfl ?_
                      refine J_iadd hx dL_law_994 ?_
                      obtain ⟨r14, hr15, h⟩ := bnd h
                      refine J_rdS hx (kL_low  hW hr15) ml_L_128 lk_L_low (rest := [.int l10, .int l11, .ref (B.1 + 0)]) rfl rfl (by decide) (by decide) (Nat.le_of_ble_eq_true rfl) (by omega) (by omega) dL_law_995 ?_
                      refine J_iconst hx (1 : Int32) dL_law_998 rfl ?_
                      refine J_isub hx dL_law_999 ?_
                      obtain ⟨r16, hr17, h⟩ := bnd h
                      refine J_callS hx (kL_sends  hC htr hW hr17) ml_L_205 lk_L_sends (rest := []) rfl rfl (by decide) (by decide) (Nat.le_of_ble_eq_true rfl) (by omega) (by omega) dL_law_1000 fun x1 G18 z20 hh => ?_
                      obtain ⟨rfl, hW19⟩ := hh
                      show J X 16 G18 z20 (k + 1) (n + 6) 1003 [some (.ref sb), some (.ref (B.1 + 0)), some (.int ln), none, some (.int l4), some (.int l5), some (.int l6), some (.int l7), some (.int l8), some (.int l9), some (.int l10), some (.int l11), some (.int s0), none, none, none] [.int (bI r16.1)]
                      refine J_bif_ne hx 1044 dL_law_1003 rfl (fun h21 => ?_) (fun h21 => ?_)
                      · replace h := pos h h21
                        refine J_lw (ls' := [some (.ref sb), some (.ref (B.1 + 0)), some (.int ln), none, none, none, none, none, none, none, none, none, none, none, none, none]) (lwS (lwS (lwS (lwN (lwN (lwN (lwN (lwN (lwN (lwN (lwN (lwN (lwN (lwN (lwN (lwN lwZ)))))))))))))))) ?_
                        exact tL_step_1044 hx hC htr hX hk hn kk _   hW19 h
                      · replace h := neg h (bft h21)
                        refine J_iconst hx (0 : Int32) dL_law_1006 rfl ?_
                        cases h
                  · replace h := neg h h9
                    refine J_al4 hx rfl rfl dL_law_952 ?_
                    refine J_il hx rfl dL_law_953 ?_
                    refine J_il hx rfl dL_law_955 ?_
                    refine J_bipush hx (8 : Int32) dL_law_957 rfl ?_
                    refine J_ishr hx dL_law_959 ?_
                    refine J_il hx rfl dL_law_960 ?_
                    obtain ⟨r22, hr23, h⟩ := bnd h
                    refine J_rdS hx (kL_low  hW hr23) ml_L_128 lk_L_low (rest := [.int l11, .ref (B.1 + 0)]) rfl rfl (by decide) (by decide) (Nat.le_of_ble_eq_true rfl) (by omega) (by omega) dL_law_962 ?_
                    refine J_il hx rfl dL_law_965 ?_
                    refine J_il hx rfl dL_law_967 ?_
                    obtain ⟨r24, hr25, h⟩ := bnd h
                    refine J_callS hx (kL_moves  hC htr hW hr25) ml_L_201 lk_L_moves (rest := []) rfl rfl (by decide) (by decide) (Nat.le_of_ble_eq_true rfl) (by omega) (by omega) dL_law_969 fun x1 G26 z28 hh => ?_
                    obtain ⟨rfl, hW27⟩ := hh
                    show J X 16 G26 z28 (k + 1) (n + 6) 972 [some (.ref sb), some (.ref (B.1 + 0)), some (.int ln), none, some (.int l4), some (.int l5), some (.int l6), some (.int l7), some (.int l8), some (.int l9), some (.int l10), some (.int l11), some (.int s0), none, none, none] [.int (bI r24.1)]
                    refine J_bif_ne hx 1044 dL_law_972 rfl (fun h29 => ?_) (fun h29 => ?_)
                    · replace h := pos h h29
                      refine J_lw (ls' := [some (.ref sb), some (.ref (B.1 + 0)), some (.int ln), none, none, none, none, none, none, none, none, none, none, none, none, none]) (lwS (lwS (lwS (lwN (lwN (lwN (lwN (lwN (lwN (lwN (lwN (lwN (lwN (lwN (lwN (lwN lwZ)))))))))))))))) ?_
                      exact tL_step_1044 hx hC htr hX hk hn kk _   hW27 h
                    · replace h := neg h (bft h29)
                      refine J_iconst hx (0 : Int32) dL_law_975 rfl ?_
                      cases h
                · replace h := neg h h8
                  refine J_al4 hx rfl rfl dL_law_932 ?_
                  refine J_il hx rfl dL_law_933 ?_
                  refine J_il hx rfl dL_law_935 ?_
                  obtain ⟨r30, hr31, h⟩ := bnd h
                  refine J_callS hx (kL_boxes  hC htr hW hr31) ml_L_197 lk_L_boxes (rest := []) rfl rfl (by decide) (by decide) (Nat.le_of_ble_eq_true rfl) (by omega) (by omega) dL_law_937 fun x1 G32 z34 hh => ?_
                  obtain ⟨rfl, hW33⟩ := hh
                  show J X 16 G32 z34 (k + 1) (n + 6) 940 [some (.ref sb), some (.ref (B.1 + 0)), some (.int ln), none, some (.int l4), some (.int l5), some (.int l6), some (.int l7), some (.int l8), some (.int l9), some (.int l10), some (.int l11), some (.int s0), none, none, none] [.int (bI r30.1)]
                  refine J_bif_ne hx 1044 dL_law_940 rfl (fun h35 => ?_) (fun h35 => ?_)
                  · replace h := pos h h35
                    refine J_lw (ls' := [some (.ref sb), some (.ref (B.1 + 0)), some (.int ln), none, none, none, none, none, none, none, none, none, none, none, none, none]) (lwS (lwS (lwS (lwN (lwN (lwN (lwN (lwN (lwN (lwN (lwN (lwN (lwN (lwN (lwN (lwN lwZ)))))))))))))))) ?_
                    exact tL_step_1044 hx hC htr hX hk hn kk _   hW33 h
                  · replace h := neg h (bft h35)
                    refine J_iconst hx (0 : Int32) dL_law_943 rfl ?_
                    cases h
              · replace h := pos h h7
                refine J_il hx rfl dL_law_842 ?_
                refine J_iconst hx (4 : Int32) dL_law_844 rfl ?_
                obtain ⟨r36, hr37, h⟩ := bnd h
                refine J_rdS hx (kL_low  hW hr37) ml_L_128 lk_L_low (rest := []) rfl rfl (by decide) (by decide) (Nat.le_of_ble_eq_true rfl) (by omega) (by omega) dL_law_845 ?_
                refine J_if_ne hx 879 dL_law_848 rfl (fun h38 => ?_) (fun h38 => ?_)
                · replace h := neg h h38
                  refine J_al4 hx rfl rfl dL_law_879 ?_
                  refine J_il hx rfl dL_law_880 ?_
                  refine J_iconst hx (2 : Int32) dL_law_882 rfl ?_
                  refine J_ishr hx dL_law_883 ?_
                  refine J_bipush hx (6 : Int32) dL_law_884 rfl ?_
                  obtain ⟨r39, hr40, h⟩ := bnd h
                  refine J_rdS hx (kL_low  hW hr40) ml_L_128 lk_L_low (rest := [.ref (B.1 + 0)]) rfl rfl (by decide) (by decide) (Nat.le_of_ble_eq_true rfl) (by omega) (by omega) dL_law_886 ?_
                  refine J_iconst hx (2 : Int32) dL_law_889 rfl ?_
                  refine J_bipush hx (50 : Int32) dL_law_890 rfl ?_
                  refine J_il hx rfl dL_law_892 ?_
                  refine J_iconst hx (5 : Int32) dL_law_894 rfl ?_
                  refine J_ishr hx dL_law_895 ?_
                  refine J_bipush hx (41 : Int32) dL_law_896 rfl ?_
                  obtain ⟨r41, hr42, h⟩ := bnd h
                  refine J_rdS hx (kL_low  hW hr42) ml_L_128 lk_L_low (rest := [.int (50 : Int32), .int (2 : Int32), .int r39, .ref (B.1 + 0)]) rfl rfl (by decide) (by decide) (Nat.le_of_ble_eq_true rfl) (by omega) (by omega) dL_law_898 ?_
                  refine J_iadd hx dL_law_901 ?_
                  obtain ⟨r43, hr44, h⟩ := bnd h
                  refine J_wrL hx (kP_setLender hC hW (okS_e hr44)) ml_L_168 cw_setLender st_setLender ini_L hy_setLender (rest := []) rfl rfl (by decide) (by decide) (Nat.le_of_ble_eq_true rfl) (by omega) (by omega) dL_law_902 fun G45 hW46 => ?_
                  show J X 16 G45 sz k n 905 [some (.ref sb), some (.ref (B.1 + 0)), some (.int ln), none, some (.int l4), some (.int l5), some (.int l6), some (.int l7), some (.int l8), some (.int l9), some (.int l10), some (.int l11), some (.int s0), none, none, none] [.int r43.1]
                  refine J_lw (ls' := [some (.ref sb), some (.ref (B.1 + 0)), some (.int ln), none, none, none, none, none, none, none, none, none, none, none, none, none]) (lwS (lwS (lwS (lwN (lwN (lwN (lwN (lwN (lwN (lwN (lwN (lwN (lwN (lwN (lwN (lwN lwZ)))))))))))))))) ?_
                  exact tL_step_905 hx hC htr hX hk hn kk _ _  hW46 h
                · replace h := pos h h38
                  refine J_al4 hx rfl rfl dL_law_851 ?_
                  refine J_il hx rfl dL_law_852 ?_
                  refine J_iconst hx (2 : Int32) dL_law_854 rfl ?_
                  refine J_ishr hx dL_law_855 ?_
                  refine J_bipush hx (6 : Int32) dL_law_856 rfl ?_
                  obtain ⟨r47, hr48, h⟩ := bnd h
                  refine J_rdS hx (kL_low  hW hr48) ml_L_128 lk_L_low (rest := [.ref (B.1 + 0)]) rfl rfl (by decide) (by decide) (Nat.le_of_ble_eq_true rfl) (by omega) (by omega) dL_law_858 ?_
                  refine J_iconst hx (3 : Int32) dL_law_861 rfl ?_
                  refine J_iconst hx (1 : Int32) dL_law_862 rfl ?_
                  refine J_il hx rfl dL_law_863 ?_
                  refine J_iconst hx (5 : Int32) dL_law_865 rfl ?_
                  refine J_ishr hx dL_law_866 ?_
                  refine J_bipush hx (8 : Int32) dL_law_867 rfl ?_
                  obtain ⟨r49, hr50, h⟩ := bnd h
                  refine J_rdS hx (kL_low  hW hr50) ml_L_128 lk_L_low (rest := [.int (1 : Int32), .int (3 : Int32), .int r47, .ref (B.1 + 0)]) rfl rfl (by decide) (by decide) (Nat.le_of_ble_eq_true rfl) (by omega) (by omega) dL_law_869 ?_
                  refine J_ishl hx dL_law_872 ?_
                  obtain ⟨r51, hr52, h⟩ := bnd h
                  refine J_wrL hx (kP_setLender hC hW (okS_e hr52)) ml_L_168 cw_setLender st_setLender ini_L hy_setLender (rest := []) rfl rfl (by decide) (by decide) (Nat.le_of_ble_eq_true rfl) (by omega) (by omega) dL_law_873 fun G53 hW54 => ?_
                  show J X 16 G53 sz k n 876 [some (.ref sb), some (.ref (B.1 + 0)), some (.int ln), none, some (.int l4), some (.int l5), some (.int l6), some (.int l7), some (.int l8), some (.int l9), some (.int l10), some (.int l11), some (.int s0), none, none, none] [.int r51.1]
                  refine J_goto hx 905 dL_law_876 rfl ?_
                  refine J_lw (ls' := [some (.ref sb), some (.ref (B.1 + 0)), some (.int ln), none, none, none, none, none, none, none, none, none, none, none, none, none]) (lwS (lwS (lwS (lwN (lwN (lwN (lwN (lwN (lwN (lwN (lwN (lwN (lwN (lwN (lwN (lwN lwZ)))))))))))))))) ?_
                  exact tL_step_905 hx hC htr hX hk hn kk _ _  hW54 h
            · replace h := pos h h6
              refine J_sipush hx (1000 : Int32) dL_law_762 rfl ?_
              refine J_al4 hx rfl rfl dL_law_765 ?_
              refine J_il hx rfl dL_law_766 ?_
              refine J_iconst hx (0 : Int32) dL_law_768 rfl ?_
              obtain ⟨r55, hr56, h⟩ := bnd h
              refine J_rdL hx (kP_venue hC hW (okS_e hr56)) ml_L_124 cw_venue st_venue ini_L hy_venue (rest := [.int (1000 : Int32)]) rfl rfl (by decide) (by decide) (Nat.le_of_ble_eq_true rfl) (by omega) (by omega) dL_law_769 ?_
              refine J_imul hx dL_law_772 ?_
              refine J_al4 hx rfl rfl dL_law_773 ?_
              refine J_il hx rfl dL_law_774 ?_
              refine J_iconst hx (1 : Int32) dL_law_776 rfl ?_
              obtain ⟨r57, hr58, h⟩ := bnd h
              refine J_rdL hx (kP_venue hC hW (okS_e hr58)) ml_L_124 cw_venue st_venue ini_L hy_venue (rest := [.int ((1000 : Int32) * r55)]) rfl rfl (by decide) (by decide) (Nat.le_of_ble_eq_true rfl) (by omega) (by omega) dL_law_777 ?_
              refine J_iadd hx dL_law_780 ?_
              refine J_is hx (by decide) (hc_of rfl) rfl dL_law_781 ?_
              refine J_al4 hx rfl rfl dL_law_783 ?_
              refine J_il hx rfl dL_law_784 ?_
              refine J_il hx rfl dL_law_786 ?_
              refine J_bipush hx (30 : Int32) dL_law_788 rfl ?_
              obtain ⟨r59, hr60, h⟩ := bnd h
              refine J_rdS hx (kL_low  hW hr60) ml_L_128 lk_L_low (rest := [.int l10, .ref (B.1 + 0)]) rfl rfl (by decide) (by decide) (Nat.le_of_ble_eq_true rfl) (by omega) (by omega) dL_law_790 ?_
              refine J_bipush hx (20 : Int32) dL_law_793 rfl ?_
              refine J_il hx rfl dL_law_795 ?_
              refine J_iconst hx (5 : Int32) dL_law_797 rfl ?_
              refine J_ishr hx dL_law_798 ?_
              refine J_bipush hx (71 : Int32) dL_law_799 rfl ?_
              obtain ⟨r61, hr62, h⟩ := bnd h
              refine J_rdS hx (kL_low  hW hr62) ml_L_128 lk_L_low (rest := [.int (20 : Int32), .int r59, .int l10, .ref (B.1 + 0)]) rfl rfl (by decide) (by decide) (Nat.le_of_ble_eq_true rfl) (by omega) (by omega) dL_law_801 ?_
              refine J_iadd hx dL_law_804 ?_
              obtain ⟨r63, hr64, h⟩ := bnd h
              refine J_wrL hx (kP_setClimate hC hW (okS_e hr64)) ml_L_164 cw_setClimate st_setClimate ini_L hy_setClimate (rest := []) rfl rfl (by decide) (by decide) (Nat.le_of_ble_eq_true rfl) (by omega) (by omega) dL_law_805 fun G65 hW66 => ?_
              show J X 16 G65 sz k n 808 [some (.ref sb), some (.ref (B.1 + 0)), some (.int ln), none, some (.int l4), some (.int l5), some (.int l6), some (.int l7), some (.int l8), some (.int l9), some (.int l10), some (.int l11), some (.int s0), some (.int (((1000 : Int32) * r55) + r57)), none, none] [.int r63.1]
              refine J_il hx rfl dL_law_808 ?_
              refine J_icmp_ne hx 830 dL_law_810 rfl (fun h67 => ?_) (fun h67 => ?_)
              · replace h := neg h h67
                refine J_iconst hx (0 : Int32) dL_law_830 rfl ?_
                cases h
              · replace h := pos h h67
                refine J_al4 hx rfl rfl dL_law_813 ?_
                refine J_il hx rfl dL_law_814 ?_
                refine J_iconst hx (0 : Int32) dL_law_816 rfl ?_
                obtain ⟨r68, hr69, h⟩ := bnd h
                refine J_rdL hx (kP_venue hC hW66 (okS_e hr69)) ml_L_124 cw_venue st_venue ini_L hy_venue (rest := []) rfl rfl (by decide) (by decide) (Nat.le_of_ble_eq_true rfl) (by omega) (by omega) dL_law_817 ?_
                refine J_il hx rfl dL_law_820 ?_
                refine J_bipush hx (30 : Int32) dL_law_822 rfl ?_
                obtain ⟨r70, hr71, h⟩ := bnd h
                refine J_rdS hx (kL_low  hW66 hr71) ml_L_128 lk_L_low (rest := [.int r68]) rfl rfl (by decide) (by decide) (Nat.le_of_ble_eq_true rfl) (by omega) (by omega) dL_law_824 ?_
                refine J_icmp_eq hx 832 dL_law_827 rfl (fun h72 => ?_) (fun h72 => ?_)
                · replace h := pos h h72
                  refine J_goto hx 1044 dL_law_832 rfl ?_
                  refine J_wide (by omega) (by omega) (show J X 16 G65 sz (k + 1) (n + 6) 1044 [some (.ref sb), some (.ref (B.1 + 0)), some (.int ln), none, some (.int l4), some (.int l5), some (.int l6), some (.int l7), some (.int l8), some (.int l9), some (.int l10), some (.int l11), some (.int s0), some (.int (((1000 : Int32) * r55) + r57)), none, none] [] from ?_)
                  refine J_lw (ls' := [some (.ref sb), some (.ref (B.1 + 0)), some (.int ln), none, none, none, none, none, none, none, none, none, none, none, none, none]) (lwS (lwS (lwS (lwN (lwN (lwN (lwN (lwN (lwN (lwN (lwN (lwN (lwN (lwN (lwN (lwN lwZ)))))))))))))))) ?_
                  exact tL_step_1044 hx hC htr hX hk hn kk _   hW66 h
                · replace h := neg h h72
                  refine J_iconst hx (0 : Int32) dL_law_830 rfl ?_
                  cases h
          · replace h := pos h h5
            refine J_al4 hx rfl rfl dL_law_709 ?_
            refine J_il hx rfl dL_law_710 ?_
            obtain ⟨r73, hr74, h⟩ := bnd h
            refine J_callSW hx (kL_addCourier htr hC hW hr74) ml_L_172 cw_addCourier st_addCourier ini_L hy_addCourier (rest := []) rfl rfl (by decide) (by decide) (Nat.le_of_ble_eq_true rfl) (by omega) (by omega) dL_law_712 fun x1 G75 z77 hh => ?_
            obtain ⟨rfl, hW76⟩ := hh
            show J X 16 G75 z77 (k + 1) (n + 6) 715 [some (.ref sb), some (.ref (B.1 + 0)), some (.int ln), none, some (.int l4), some (.int l5), some (.int l6), some (.int l7), some (.int l8), some (.int l9), some (.int l10), some (.int l11), some (.int s0), none, none, none] [.int r73.1]
            refine J_is hx (by decide) (hc_of rfl) rfl dL_law_715 ?_
            refine J_il hx rfl dL_law_717 ?_
            refine J_il hx rfl dL_law_719 ?_
            refine J_iconst hx (4 : Int32) dL_law_721 rfl ?_
            refine J_icmp_ne hx 730 dL_law_722 rfl (fun h78 => ?_) (fun h78 => ?_)
            · replace h := neg h h78
              refine J_il hx rfl dL_law_730 ?_
              refine J_lw (ls' := [some (.ref sb), some (.ref (B.1 + 0)), some (.int ln), none, none, none, none, none, none, none, some (.int l10), none, none, some (.int r73.1), none, none]) (lwS (lwS (lwS (lwN (lwN (lwN (lwN (lwN (lwN (lwN (lwS (lwN (lwN (lwS (lwN (lwN lwZ)))))))))))))))) ?_
              exact tL_step_732 hx hC htr hX hk hn kk _ _ _ _ _  hW76 h
            · replace h := pos h h78
              refine J_ldc hx cn_L_20 dL_law_725 ?_
              refine J_goto hx 732 dL_law_727 rfl ?_
              refine J_lw (ls' := [some (.ref sb), some (.ref (B.1 + 0)), some (.int ln), none, none, none, none, none, none, none, some (.int l10), none, none, some (.int r73.1), none, none]) (lwS (lwS (lwS (lwN (lwN (lwN (lwN (lwN (lwN (lwN (lwS (lwN (lwN (lwS (lwN (lwN lwZ)))))))))))))))) ?_
              exact tL_step_732 hx hC htr hX hk hn kk _ _ _ _ _  hW76 h
        · replace h := pos h h4
          refine J_il4 hx rfl rfl dL_law_561 ?_
          refine J_bipush hx (19 : Int32) dL_law_562 rfl ?_
          refine J_icmp_ge hx 571 dL_law_564 rfl (fun h79 => ?_) (fun h79 => ?_)
          · replace h := pos h h79
            refine J_il hx rfl dL_law_571 ?_
            refine J_lw (ls' := [some (.ref sb), some (.ref (B.1 + 0)), some (.int ln), none, some (.int l4), none, none, some (.int l7), none, none, none, none, none, none, none, none]) (lwS (lwS (lwS (lwN (lwS (lwN (lwN (lwS (lwN (lwN (lwN (lwN (lwN (lwN (lwN (lwN lwZ)))))))))))))))) ?_
            exact tL_step_573 hx hC htr hX hk hn kk _ _ _ _  hW h
          · replace h := neg h h79
            refine J_iconst hx (0 : Int32) dL_law_567 rfl ?_
            refine J_goto hx 573 dL_law_568 rfl ?_
            refine J_lw (ls' := [some (.ref sb), some (.ref (B.1 + 0)), some (.int ln), none, some (.int l4), none, none, some (.int l7), none, none, none, none, none, none, none, none]) (lwS (lwS (lwS (lwN (lwS (lwN (lwN (lwS (lwN (lwN (lwN (lwN (lwN (lwN (lwN (lwN lwZ)))))))))))))))) ?_
            exact tL_step_573 hx hC htr hX hk hn kk _ _ _ _  hW h
      · replace h := pos h h3
        refine J_il4 hx rfl rfl dL_law_443 ?_
        refine J_bipush hx (13 : Int32) dL_law_444 rfl ?_
        refine J_icmp_ge hx 453 dL_law_446 rfl (fun h80 => ?_) (fun h80 => ?_)
        · replace h := pos h h80
          refine J_il hx rfl dL_law_453 ?_
          refine J_lw (ls' := [some (.ref sb), some (.ref (B.1 + 0)), some (.int ln), none, some (.int l4), none, some (.int l6), none, none, none, none, none, none, none, none, none]) (lwS (lwS (lwS (lwN (lwS (lwN (lwS (lwN (lwN (lwN (lwN (lwN (lwN (lwN (lwN (lwN lwZ)))))))))))))))) ?_
          exact tL_step_455 hx hC htr hX hk hn kk _ _ _ _  hW h
        · replace h := neg h h80
          refine J_iconst hx (0 : Int32) dL_law_449 rfl ?_
          refine J_goto hx 455 dL_law_450 rfl ?_
          refine J_lw (ls' := [some (.ref sb), some (.ref (B.1 + 0)), some (.int ln), none, some (.int l4), none, some (.int l6), none, none, none, none, none, none, none, none, none]) (lwS (lwS (lwS (lwN (lwS (lwN (lwS (lwN (lwN (lwN (lwN (lwN (lwN (lwN (lwN (lwN lwZ)))))))))))))))) ?_
          exact tL_step_455 hx hC htr hX hk hn kk _ _ _ _  hW h
    · replace h := pos h h2
      refine J_il hx rfl dL_law_349 ?_
      refine J_il hx rfl dL_law_351 ?_
      obtain ⟨r81, hr82, h⟩ := bnd h
      refine J_rdS hx (kL_low  hW hr82) ml_L_128 lk_L_low (rest := []) rfl rfl (by decide) (by decide) (Nat.le_of_ble_eq_true rfl) (by omega) (by omega) dL_law_353 ?_
      refine J_is hx (by decide) (hc_of rfl) rfl dL_law_356 ?_
      refine J_iconst hx (1 : Int32) dL_law_358 rfl ?_
      refine J_il hx rfl dL_law_359 ?_
      refine J_iconst hx (4 : Int32) dL_law_361 rfl ?_
      refine J_ishr hx dL_law_362 ?_
      refine J_bipush hx (40 : Int32) dL_law_363 rfl ?_
      obtain ⟨r83, hr84, h⟩ := bnd h
      refine J_rdS hx (kL_low  hW hr84) ml_L_128 lk_L_low (rest := [.int (1 : Int32)]) rfl rfl (by decide) (by decide) (Nat.le_of_ble_eq_true rfl) (by omega) (by omega) dL_law_365 ?_
      refine J_iadd hx dL_law_368 ?_
      refine J_is hx (by decide) (hc_of rfl) rfl dL_law_369 ?_
      refine J_al4 hx rfl rfl dL_law_371 ?_
      refine J_il hx rfl dL_law_372 ?_
      refine J_il hx rfl dL_law_374 ?_
      refine J_il hx rfl dL_law_376 ?_
      obtain ⟨r85, hr86, h⟩ := bnd h
      refine J_callSW hx (kL_setWay htr hC hW hr86) ml_L_166 cw_setWay st_setWay ini_L hy_setWay (rest := []) rfl rfl (by decide) (by decide) (Nat.le_of_ble_eq_true rfl) (by omega) (by omega) dL_law_378 fun x1 G87 z89 hh => ?_
      obtain ⟨rfl, hW88⟩ := hh
      show J X 16 G87 z89 (k + 1) (n + 6) 381 [some (.ref sb), some (.ref (B.1 + 0)), some (.int ln), none, some (.int l4), some (.int l5), some (.int l6), some (.int l7), some (.int l8), some (.int l9), some (.int l10), some (.int l11), some (.int s0), some (.int r81), some (.int ((1 : Int32) + r83)), none] [.int r85.1]
      refine J_is hx (by decide) (hc_of rfl) rfl dL_law_381 ?_
      refine J_il hx rfl dL_law_383 ?_
      refine J_ldc hx cn_L_17 dL_law_385 ?_
      refine J_icmp_eq hx 394 dL_law_387 rfl (fun h90 => ?_) (fun h90 => ?_)
      · replace h := pos h h90
        refine J_iconst hx (0 : Int32) dL_law_394 rfl ?_
        refine J_lw (ls' := [some (.ref sb), some (.ref (B.1 + 0)), some (.int ln), none, none, none, none, none, none, none, some (.int l10), none, none, some (.int r81), some (.int ((1 : Int32) + r83)), none]) (lwS (lwS (lwS (lwN (lwN (lwN (lwN (lwN (lwN (lwN (lwS (lwN (lwN (lwS (lwS (lwN lwZ)))))))))))))))) ?_
        exact tL_step_395 hx hC htr hX hk hn kk _ _ _ _ _  hW88 h
      · replace h := neg h h90
        refine J_iconst hx (1 : Int32) dL_law_390 rfl ?_
        refine J_goto hx 395 dL_law_391 rfl ?_
        refine J_lw (ls' := [some (.ref sb), some (.ref (B.1 + 0)), some (.int ln), none, none, none, none, none, none, none, some (.int l10), none, none, some (.int r81), some (.int ((1 : Int32) + r83)), none]) (lwS (lwS (lwS (lwN (lwN (lwN (lwN (lwN (lwN (lwN (lwS (lwN (lwN (lwS (lwS (lwN lwZ)))))))))))))))) ?_
        exact tL_step_395 hx hC htr hX hk hn kk _ _ _ _ _  hW88 h
  · replace h := pos h h1
    refine J_al4 hx rfl rfl dL_law_223 ?_
    refine J_il hx rfl dL_law_224 ?_
    refine J_bipush hx (51 : Int32) dL_law_226 rfl ?_
    obtain ⟨r91, hr92, h⟩ := bnd h
    refine J_rdS hx (kL_low  hW hr92) ml_L_128 lk_L_low (rest := [.ref (B.1 + 0)]) rfl rfl (by decide) (by decide) (Nat.le_of_ble_eq_true rfl) (by omega) (by omega) dL_law_228 ?_
    refine J_bipush hx (10 : Int32) dL_law_231 rfl ?_
    refine J_isub hx dL_law_233 ?_
    refine J_bipush hx (20 : Int32) dL_law_234 rfl ?_
    refine J_il hx rfl dL_law_236 ?_
    refine J_bipush hx (6 : Int32) dL_law_238 rfl ?_
    refine J_ishr hx dL_law_240 ?_
    refine J_bipush hx (71 : Int32) dL_law_241 rfl ?_
    obtain ⟨r93, hr94, h⟩ := bnd h
    refine J_rdS hx (kL_low  hW hr94) ml_L_128 lk_L_low (rest := [.int (20 : Int32), .int (r91 - (10 : Int32)), .ref (B.1 + 0)]) rfl rfl (by decide) (by decide) (Nat.le_of_ble_eq_true rfl) (by omega) (by omega) dL_law_243 ?_
    refine J_iadd hx dL_law_246 ?_
    refine J_il hx rfl dL_law_247 ?_
    refine J_bipush hx (13 : Int32) dL_law_249 rfl ?_
    refine J_ishr hx dL_law_251 ?_
    refine J_sipush hx (501 : Int32) dL_law_252 rfl ?_
    obtain ⟨r95, hr96, h⟩ := bnd h
    refine J_rdS hx (kL_low  hW hr96) ml_L_128 lk_L_low (rest := [.int ((20 : Int32) + r93), .int (r91 - (10 : Int32)), .ref (B.1 + 0)]) rfl rfl (by decide) (by decide) (Nat.le_of_ble_eq_true rfl) (by omega) (by omega) dL_law_255 ?_
    refine J_il hx rfl dL_law_258 ?_
    refine J_bipush hx (22 : Int32) dL_law_260 rfl ?_
    refine J_ishr hx dL_law_262 ?_
    refine J_iconst hx (3 : Int32) dL_law_263 rfl ?_
    obtain ⟨r97, hr98, h⟩ := bnd h
    refine J_rdS hx (kL_low  hW hr98) ml_L_128 lk_L_low (rest := [.int r95, .int ((20 : Int32) + r93), .int (r91 - (10 : Int32)), .ref (B.1 + 0)]) rfl rfl (by decide) (by decide) (Nat.le_of_ble_eq_true rfl) (by omega) (by omega) dL_law_264 ?_
    refine J_if_ne hx 276 dL_law_267 rfl (fun h99 => ?_) (fun h99 => ?_)
    · replace h := neg h h99
      refine J_ldc hx cn_L_196 dL_law_276 ?_
      refine J_lw (ls' := [some (.ref sb), some (.ref (B.1 + 0)), some (.int ln), none, some (.int l4), some (.int l5), none, none, none, none, none, none, none, none, none, none]) (lwS (lwS (lwS (lwN (lwS (lwS (lwN (lwN (lwN (lwN (lwN (lwN (lwN (lwN (lwN (lwN lwZ)))))))))))))))) ?_
      exact tL_step_278 hx hC htr hX hk hn kk _ _ _ _ _ _ _  hW h
    · replace h := pos h h99
      refine J_sipush hx (2000 : Int32) dL_law_270 rfl ?_
      refine J_goto hx 278 dL_law_273 rfl ?_
      refine J_lw (ls' := [some (.ref sb), some (.ref (B.1 + 0)), some (.int ln), none, some (.int l4), some (.int l5), none, none, none, none, none, none, none, none, none, none]) (lwS (lwS (lwS (lwN (lwS (lwS (lwN (lwN (lwN (lwN (lwN (lwN (lwN (lwN (lwN (lwN lwZ)))))))))))))))) ?_
      exact tL_step_278 hx hC htr hX hk hn kk _ _ _ _ _ _ _  hW h
def sL_step_196 (lo : Int32 → Option Int32) (ln : Int32) (w : Wl) (l3 : Int32) (l4 : Int32) (l5 : Int32) (l6 : Int32) (l7 : Int32) (l8 : Int32) (l9 : Int32) (l10 : Int32) (s0 : Int32) : Option Wl := (if l7 = 0 then sL_step_216 lo ln w l4 l5 l6 l7 l8 l9 l10 s0 (0 : Int32) else (sL_low w (l3 >>> ((12 : Int32) &&& 31)) l7).bind (fun r2 => sL_step_216 lo ln w l4 l5 l6 l7 l8 l9 l10 s0 r2))
theorem tL_step_196 {X : Cx} {B : Bs} {sz : Nat} {r : Wl} {sb k n : Nat} {lo : Int32 → Option Int32} {ln : Int32} (hx : Fx X code 16 RL 12 642985 7172742) (hC : GC (xΓ X) B) (htr : (xl X).stackTraces = false) (hX : LoK X sb lo) (hk : k + 1 ≤ 642985) (hn : n + 6 ≤ 7172742) (kk : ∀ (G' : Gf) (sz' : Nat), Wd (xΓ X) B r G' → J X 16 G' sz' (k + 1) (n + 6) 1053 [some (.ref sb), some (.ref (B.1 + 0)), some (.int ln), none, none, none, none, none, none, none, none, none, none, none, none, none] [])  : ∀ (w : Wl) (l3 : Int32) (l4 : Int32) (l5 : Int32) (l6 : Int32) (l7 : Int32) (l8 : Int32) (l9 : Int32) (l10 : Int32) (s0 : Int32) {G : Gf} (hW : Wd (xΓ X) B w G) (h : sL_step_196 lo ln  w l3 l4 l5 l6 l7 l8 l9 l10 s0 = some r), J X 16 G sz k n 196 [some (.ref sb), some (.ref (B.1 + 0)), some (.int ln), some (.int l3), some (.int l4), some (.int l5), some (.int l6), some (.int l7), some (.int l8), some (.int l9), some (.int l10), none, none, none, none, none] [.int s0] := by
  intro w l3 l4 l5 l6 l7 l8 l9 l10 s0 G hW h
  unfold sL_step_196 at h
  refine J_is hx (by decide) (hc_of rfl) rfl dL_law_196 ?_
  refine J_il hx rfl dL_law_198 ?_
  refine J_if_ne hx 207 dL_law_200 rfl (fun h1 => ?_) (fun h1 => ?_)
  · replace h := neg h h1
    refine J_il4 hx rfl rfl dL_law_207 ?_
    refine J_bipush hx (12 : Int32) dL_law_208 rfl ?_
    refine J_ishr hx dL_law_210 ?_
    refine J_il hx rfl dL_law_211 ?_
    obtain ⟨r2, hr3, h⟩ := bnd h
    refine J_rdS hx (kL_low  hW hr3) ml_L_128 lk_L_low (rest := []) rfl rfl (by decide) (by decide) (Nat.le_of_ble_eq_true rfl) (by omega) (by omega) dL_law_213 ?_
    refine J_lw (ls' := [some (.ref sb), some (.ref (B.1 + 0)), some (.int ln), none, some (.int l4), some (.int l5), some (.int l6), some (.int l7), some (.int l8), some (.int l9), some (.int l10), some (.int s0), none, none, none, none]) (lwS (lwS (lwS (lwN (lwS (lwS (lwS (lwS (lwS (lwS (lwS (lwS (lwN (lwN (lwN (lwN lwZ)))))))))))))))) ?_
    exact tL_step_216 hx hC htr hX hk hn kk _ _ _ _ _ _ _ _ _ _  hW h
  · replace h := pos h h1
    refine J_iconst hx (0 : Int32) dL_law_203 rfl ?_
    refine J_goto hx 216 dL_law_204 rfl ?_
    refine J_lw (ls' := [some (.ref sb), some (.ref (B.1 + 0)), some (.int ln), none, some (.int l4), some (.int l5), some (.int l6), some (.int l7), some (.int l8), some (.int l9), some (.int l10), some (.int s0), none, none, none, none]) (lwS (lwS (lwS (lwN (lwS (lwS (lwS (lwS (lwS (lwS (lwS (lwS (lwN (lwN (lwN (lwN lwZ)))))))))))))))) ?_
    exact tL_step_216 hx hC htr hX hk hn kk _ _ _ _ _ _ _ _ _ _  hW h
def sL_step_176 (lo : Int32 → Option Int32) (ln : Int32) (w : Wl) (l3 : Int32) (l4 : Int32) (l5 : Int32) (l6 : Int32) (l7 : Int32) (l8 : Int32) (l9 : Int32) (s0 : Int32) : Option Wl := (if l6 = 0 then sL_step_196 lo ln w l3 l4 l5 l6 l7 l8 l9 s0 (0 : Int32) else (sL_low w (l3 >>> ((8 : Int32) &&& 31)) l6).bind (fun r2 => sL_step_196 lo ln w l3 l4 l5 l6 l7 l8 l9 s0 r2))
theorem tL_step_176 {X : Cx} {B : Bs} {sz : Nat} {r : Wl} {sb k n : Nat} {lo : Int32 → Option Int32} {ln : Int32} (hx : Fx X code 16 RL 12 642985 7172742) (hC : GC (xΓ X) B) (htr : (xl X).stackTraces = false) (hX : LoK X sb lo) (hk : k + 1 ≤ 642985) (hn : n + 6 ≤ 7172742) (kk : ∀ (G' : Gf) (sz' : Nat), Wd (xΓ X) B r G' → J X 16 G' sz' (k + 1) (n + 6) 1053 [some (.ref sb), some (.ref (B.1 + 0)), some (.int ln), none, none, none, none, none, none, none, none, none, none, none, none, none] [])  : ∀ (w : Wl) (l3 : Int32) (l4 : Int32) (l5 : Int32) (l6 : Int32) (l7 : Int32) (l8 : Int32) (l9 : Int32) (s0 : Int32) {G : Gf} (hW : Wd (xΓ X) B w G) (h : sL_step_176 lo ln  w l3 l4 l5 l6 l7 l8 l9 s0 = some r), J X 16 G sz k n 176 [some (.ref sb), some (.ref (B.1 + 0)), some (.int ln), some (.int l3), some (.int l4), some (.int l5), some (.int l6), some (.int l7), some (.int l8), some (.int l9), none, none, none, none, none, none] [.int s0] := by
  intro w l3 l4 l5 l6 l7 l8 l9 s0 G hW h
  unfold sL_step_176 at h
  refine J_is hx (by decide) (hc_of rfl) rfl dL_law_176 ?_
  refine J_il hx rfl dL_law_178 ?_
  refine J_if_ne hx 187 dL_law_180 rfl (fun h1 => ?_) (fun h1 => ?_)
  · replace h := neg h h1
    refine J_il4 hx rfl rfl dL_law_187 ?_
    refine J_bipush hx (8 : Int32) dL_law_188 rfl ?_
    refine J_ishr hx dL_law_190 ?_
    refine J_il hx rfl dL_law_191 ?_
    obtain ⟨r2, hr3, h⟩ := bnd h
    refine J_rdS hx (kL_low  hW hr3) ml_L_128 lk_L_low (rest := []) rfl rfl (by decide) (by decide) (Nat.le_of_ble_eq_true rfl) (by omega) (by omega) dL_law_193 ?_
    exact tL_step_196 hx hC htr hX hk hn kk _ _ _ _ _ _ _ _ _ _  hW h
  · replace h := pos h h1
    refine J_iconst hx (0 : Int32) dL_law_183 rfl ?_
    refine J_goto hx 196 dL_law_184 rfl ?_
    exact tL_step_196 hx hC htr hX hk hn kk _ _ _ _ _ _ _ _ _ _  hW h
def sL_step_157 (lo : Int32 → Option Int32) (ln : Int32) (w : Wl) (l3 : Int32) (l4 : Int32) (l5 : Int32) (l6 : Int32) (l7 : Int32) (l8 : Int32) (s0 : Int32) : Option Wl := (if l5 = 0 then sL_step_176 lo ln w l3 l4 l5 l6 l7 l8 s0 (0 : Int32) else (sL_low w (l3 >>> ((5 : Int32) &&& 31)) l5).bind (fun r2 => sL_step_176 lo ln w l3 l4 l5 l6 l7 l8 s0 r2))
theorem tL_step_157 {X : Cx} {B : Bs} {sz : Nat} {r : Wl} {sb k n : Nat} {lo : Int32 → Option Int32} {ln : Int32} (hx : Fx X code 16 RL 12 642985 7172742) (hC : GC (xΓ X) B) (htr : (xl X).stackTraces = false) (hX : LoK X sb lo) (hk : k + 1 ≤ 642985) (hn : n + 6 ≤ 7172742) (kk : ∀ (G' : Gf) (sz' : Nat), Wd (xΓ X) B r G' → J X 16 G' sz' (k + 1) (n + 6) 1053 [some (.ref sb), some (.ref (B.1 + 0)), some (.int ln), none, none, none, none, none, none, none, none, none, none, none, none, none] [])  : ∀ (w : Wl) (l3 : Int32) (l4 : Int32) (l5 : Int32) (l6 : Int32) (l7 : Int32) (l8 : Int32) (s0 : Int32) {G : Gf} (hW : Wd (xΓ X) B w G) (h : sL_step_157 lo ln  w l3 l4 l5 l6 l7 l8 s0 = some r), J X 16 G sz k n 157 [some (.ref sb), some (.ref (B.1 + 0)), some (.int ln), some (.int l3), some (.int l4), some (.int l5), some (.int l6), some (.int l7), some (.int l8), none, none, none, none, none, none, none] [.int s0] := by
  intro w l3 l4 l5 l6 l7 l8 s0 G hW h
  unfold sL_step_157 at h
  refine J_is hx (by decide) (hc_of rfl) rfl dL_law_157 ?_
  refine J_il hx rfl dL_law_159 ?_
  refine J_if_ne hx 168 dL_law_161 rfl (fun h1 => ?_) (fun h1 => ?_)
  · replace h := neg h h1
    refine J_il4 hx rfl rfl dL_law_168 ?_
    refine J_iconst hx (5 : Int32) dL_law_169 rfl ?_
    refine J_ishr hx dL_law_170 ?_
    refine J_il hx rfl dL_law_171 ?_
    obtain ⟨r2, hr3, h⟩ := bnd h
    refine J_rdS hx (kL_low  hW hr3) ml_L_128 lk_L_low (rest := []) rfl rfl (by decide) (by decide) (Nat.le_of_ble_eq_true rfl) (by omega) (by omega) dL_law_173 ?_
    exact tL_step_176 hx hC htr hX hk hn kk _ _ _ _ _ _ _ _ _  hW h
  · replace h := pos h h1
    refine J_iconst hx (0 : Int32) dL_law_164 rfl ?_
    refine J_goto hx 176 dL_law_165 rfl ?_
    exact tL_step_176 hx hC htr hX hk hn kk _ _ _ _ _ _ _ _ _  hW h
def sL_step (lo : Int32 → Option Int32) (ln : Int32) (w : Wl) : Option Wl := (lo ((2 : Int32) * ln)).bind (fun r1 => (lo (((2 : Int32) * ln) + (1 : Int32))).bind (fun r3 => (sO_whole w (1 : Int32)).bind (fun r5 => (sO_whole w (2 : Int32)).bind (fun r7 => (sO_whole w (3 : Int32)).bind (fun r9 => (sO_whole w (4 : Int32)).bind (fun r11 => (if (3 : Int32) ≤ ln then (if (8 : Int32) ≤ ln then (if (13 : Int32) ≤ ln then (if (19 : Int32) ≤ ln then (if (21 : Int32) ≤ ln then (sL_low w r1 (22 : Int32)).bind (fun r18 => sL_step_157 lo ln w r1 r3 r5 r7 r9 r11 r18) else sL_step_157 lo ln w r1 r3 r5 r7 r9 r11 (4 : Int32)) else sL_step_157 lo ln w r1 r3 r5 r7 r9 r11 (3 : Int32)) else sL_step_157 lo ln w r1 r3 r5 r7 r9 r11 (2 : Int32)) else sL_step_157 lo ln w r1 r3 r5 r7 r9 r11 (1 : Int32)) else sL_step_157 lo ln w r1 r3 r5 r7 r9 r11 (0 : Int32))))))))
theorem kL_step {X : Cx} {B : Bs} {sz : Nat} {G : Gf} {w r : Wl} {sb k n : Nat} {lo : Int32 → Option Int32} {ln : Int32} (hx : Fx X code 16 RL 12 642985 7172742) (hC : GC (xΓ X) B) (htr : (xl X).stackTraces = false) (hX : LoK X sb lo) (hk : k + 1 ≤ 642985) (hn : n + 6 ≤ 7172742) (kk : ∀ (G' : Gf) (sz' : Nat), Wd (xΓ X) B r G' → J X 16 G' sz' (k + 1) (n + 6) 1053 [some (.ref sb), some (.ref (B.1 + 0)), some (.int ln), none, none, none, none, none, none, none, none, none, none, none, none, none] []) (hW : Wd (xΓ X) B w G) (h : sL_step lo ln w = some r) : J X 16 G sz k n 55 [some (.ref sb), some (.ref (B.1 + 0)), some (.int ln), none, none, none, none, none, none, none, none, none, none, none, none, none] [] := by
  unfold sL_step at h
  refine J_al4 hx rfl rfl dL_law_55 ?_
  refine J_iconst hx (2 : Int32) dL_law_56 rfl ?_
  refine J_il4 hx rfl rfl dL_law_57 ?_
  refine J_imul hx dL_law_58 ?_
  obtain ⟨r1, hr2, h⟩ := bnd h
  refine J_rdS hx (hX _ _ _ _ hr2) ml_L_192 lk_L_lot (rest := []) rfl rfl (by decide) (by decide) (Nat.le_of_ble_eq_true rfl) (by omega) (by omega) dL_law_59 ?_
  refine J_is4 hx rfl (by decide) (hc_of rfl) rfl dL_law_62 ?_
  refine J_al4 hx rfl rfl dL_law_63 ?_
  refine J_iconst hx (2 : Int32) dL_law_64 rfl ?_
  refine J_il4 hx rfl rfl dL_law_65 ?_
  refine J_imul hx dL_law_66 ?_
  refine J_iconst hx (1 : Int32) dL_law_67 rfl ?_
  refine J_iadd hx dL_law_68 ?_
  obtain ⟨r3, hr4, h⟩ := bnd h
  refine J_rdS hx (hX _ _ _ _ hr4) ml_L_192 lk_L_lot (rest := []) rfl rfl (by decide) (by decide) (Nat.le_of_ble_eq_true rfl) (by omega) (by omega) dL_law_69 ?_
  refine J_is hx (by decide) (hc_of rfl) rfl dL_law_72 ?_
  refine J_al4 hx rfl rfl dL_law_74 ?_
  refine J_iconst hx (1 : Int32) dL_law_75 rfl ?_
  obtain ⟨r5, hr6, h⟩ := bnd h
  refine J_rdL hx (kP_whole hC hW (okS_e hr6)) ml_L_110 cw_whole st_whole ini_L hy_whole (rest := []) rfl rfl (by decide) (by decide) (Nat.le_of_ble_eq_true rfl) (by omega) (by omega) dL_law_76 ?_
  refine J_is hx (by decide) (hc_of rfl) rfl dL_law_79 ?_
  refine J_al4 hx rfl rfl dL_law_81 ?_
  refine J_iconst hx (2 : Int32) dL_law_82 rfl ?_
  obtain ⟨r7, hr8, h⟩ := bnd h
  refine J_rdL hx (kP_whole hC hW (okS_e hr8)) ml_L_110 cw_whole st_whole ini_L hy_whole (rest := []) rfl rfl (by decide) (by decide) (Nat.le_of_ble_eq_true rfl) (by omega) (by omega) dL_law_83 ?_
  refine J_is hx (by decide) (hc_of rfl) rfl dL_law_86 ?_
  refine J_al4 hx rfl rfl dL_law_88 ?_
  refine J_iconst hx (3 : Int32) dL_law_89 rfl ?_
  obtain ⟨r9, hr10, h⟩ := bnd h
  refine J_rdL hx (kP_whole hC hW (okS_e hr10)) ml_L_110 cw_whole st_whole ini_L hy_whole (rest := []) rfl rfl (by decide) (by decide) (Nat.le_of_ble_eq_true rfl) (by omega) (by omega) dL_law_90 ?_
  refine J_is hx (by decide) (hc_of rfl) rfl dL_law_93 ?_
  refine J_al4 hx rfl rfl dL_law_95 ?_
  refine J_iconst hx (4 : Int32) dL_law_96 rfl ?_
  obtain ⟨r11, hr12, h⟩ := bnd h
  refine J_rdL hx (kP_whole hC hW (okS_e hr12)) ml_L_110 cw_whole st_whole ini_L hy_whole (rest := []) rfl rfl (by decide) (by decide) (Nat.le_of_ble_eq_true rfl) (by omega) (by omega) dL_law_97 ?_
  refine J_is hx (by decide) (hc_of rfl) rfl dL_law_100 ?_
  refine J_il4 hx rfl rfl dL_law_102 ?_
  refine J_iconst hx (3 : Int32) dL_law_103 rfl ?_
  refine J_icmp_ge hx 111 dL_law_104 rfl (fun h13 => ?_) (fun h13 => ?_)
  · replace h := pos h h13
    refine J_il4 hx rfl rfl dL_law_111 ?_
    refine J_bipush hx (8 : Int32) dL_law_112 rfl ?_
    refine J_icmp_ge hx 121 dL_law_114 rfl (fun h14 => ?_) (fun h14 => ?_)
    · replace h := pos h h14
      refine J_il4 hx rfl rfl dL_law_121 ?_
      refine J_bipush hx (13 : Int32) dL_law_122 rfl ?_
      refine J_icmp_ge hx 131 dL_law_124 rfl (fun h15 => ?_) (fun h15 => ?_)
      · replace h := pos h h15
        refine J_il4 hx rfl rfl dL_law_131 ?_
        refine J_bipush hx (19 : Int32) dL_law_132 rfl ?_
        refine J_icmp_ge hx 141 dL_law_134 rfl (fun h16 => ?_) (fun h16 => ?_)
        · replace h := pos h h16
          refine J_il4 hx rfl rfl dL_law_141 ?_
          refine J_bipush hx (21 : Int32) dL_law_142 rfl ?_
          refine J_icmp_ge hx 151 dL_law_144 rfl (fun h17 => ?_) (fun h17 => ?_)
          · replace h := pos h h17
            refine J_il4 hx rfl rfl dL_law_151 ?_
            refine J_bipush hx (22 : Int32) dL_law_152 rfl ?_
            obtain ⟨r18, hr19, h⟩ := bnd h
            refine J_rdS hx (kL_low  hW hr19) ml_L_128 lk_L_low (rest := []) rfl rfl (by decide) (by decide) (Nat.le_of_ble_eq_true rfl) (by omega) (by omega) dL_law_154 ?_
            exact tL_step_157 hx hC htr hX hk hn kk _ _ _ _ _ _ _ _  hW h
          · replace h := neg h h17
            refine J_iconst hx (4 : Int32) dL_law_147 rfl ?_
            refine J_goto hx 157 dL_law_148 rfl ?_
            exact tL_step_157 hx hC htr hX hk hn kk _ _ _ _ _ _ _ _  hW h
        · replace h := neg h h16
          refine J_iconst hx (3 : Int32) dL_law_137 rfl ?_
          refine J_goto hx 157 dL_law_138 rfl ?_
          exact tL_step_157 hx hC htr hX hk hn kk _ _ _ _ _ _ _ _  hW h
      · replace h := neg h h15
        refine J_iconst hx (2 : Int32) dL_law_127 rfl ?_
        refine J_goto hx 157 dL_law_128 rfl ?_
        exact tL_step_157 hx hC htr hX hk hn kk _ _ _ _ _ _ _ _  hW h
    · replace h := neg h h14
      refine J_iconst hx (1 : Int32) dL_law_117 rfl ?_
      refine J_goto hx 157 dL_law_118 rfl ?_
      exact tL_step_157 hx hC htr hX hk hn kk _ _ _ _ _ _ _ _  hW h
  · replace h := neg h h13
    refine J_iconst hx (0 : Int32) dL_law_107 rfl ?_
    refine J_goto hx 157 dL_law_108 rfl ?_
    exact tL_step_157 hx hC htr hX hk hn kk _ _ _ _ _ _ _ _  hW h
theorem dL_law_0 : decode cL_law 0 = .ok (.new 10, 3) := by decide +kernel
theorem dL_law_3 : decode cL_law 3 = .ok (.dup, 1) := by decide +kernel
theorem dL_law_4 : decode cL_law 4 = .ok (.invokespecial 181, 3) := by decide +kernel
theorem dL_law_7 : decode cL_law 7 = .ok (.astore_n 1, 1) := by decide +kernel
theorem dL_law_49 : decode cL_law 49 = .ok (.iload_n 2, 1) := by decide +kernel
theorem dL_law_50 : decode cL_law 50 = .ok (.bipush 76, 2) := by decide +kernel
theorem dL_law_52 : decode cL_law 52 = .ok (.if_icmp .ge 1007, 3) := by decide +kernel
theorem dL_law_1053 : decode cL_law 1053 = .ok (.iinc 2 1, 3) := by decide +kernel
theorem dL_law_1056 : decode cL_law 1056 = .ok (.goto (-1007), 3) := by decide +kernel
theorem dL_law_1059 : decode cL_law 1059 = .ok (.aload_n 1, 1) := by decide +kernel
theorem dL_law_1060 : decode cL_law 1060 = .ok (.invokestatic 182, 3) := by decide +kernel
theorem dL_law_1063 : decode cL_law 1063 = .ok (.ireturn, 1) := by decide +kernel
