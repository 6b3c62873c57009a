/-! The law's own methods, by program: wip/p34/lawgen.py -/
theorem lk_L_low : LkS yL_low cL_low 2 (some .int) 2 := ⟨⟨(wtm_4 90 rfl (by decide +kernel)), ini_L, by decide +kernel, by decide +kernel, by decide +kernel⟩, (wtm_4 89 (by decide +kernel) (by decide +kernel))⟩
theorem lk_L_lot : LkS yL_lot cL_lot 2 (some .int) 2 := ⟨⟨(wtm_4 86 rfl (by decide +kernel)), ini_L, by decide +kernel, by decide +kernel, by decide +kernel⟩, (wtm_4 85 (by decide +kernel) (by decide +kernel))⟩
theorem lk_L_boxes : LkS yL_boxes cL_boxes 9 (some .boolean) 3 := ⟨⟨(wtm_6 12 rfl (by decide +kernel)), ini_L, by decide +kernel, by decide +kernel, by decide +kernel⟩, (wtm_6 11 (by decide +kernel) (by decide +kernel))⟩
theorem lk_L_moves : LkS yL_moves cL_moves 11 (some .boolean) 5 := ⟨⟨(wtm_6 29 rfl (by decide +kernel)), ini_L, by decide +kernel, by decide +kernel, by decide +kernel⟩, (wtm_6 28 (by decide +kernel) (by decide +kernel))⟩
theorem lk_L_sends : LkS yL_sends cL_sends 11 (some .boolean) 4 := ⟨⟨(wtm_6 60 rfl (by decide +kernel)), ini_L, by decide +kernel, by decide +kernel, by decide +kernel⟩, (wtm_6 59 (by decide +kernel) (by decide +kernel))⟩
theorem lk_L_passes : LkS yL_passes cL_passes 9 (some .boolean) 2 := ⟨⟨(wtm_6 97 rfl (by decide +kernel)), ini_L, by decide +kernel, by decide +kernel, by decide +kernel⟩, (wtm_6 96 (by decide +kernel) (by decide +kernel))⟩
theorem lk_L_refuses : LkS yL_refuses cL_refuses 8 (some .boolean) 1 := ⟨⟨(wtm_6 107 rfl (by decide +kernel)), ini_L, by decide +kernel, by decide +kernel, by decide +kernel⟩, (wtm_6 106 (by decide +kernel) (by decide +kernel))⟩
theorem lk_L_sound : LkS yL_sound cL_sound 17 (some .boolean) 1 := ⟨⟨(wtm_5 210 rfl (by decide +kernel)), ini_L, by decide +kernel, by decide +kernel, by decide +kernel⟩, (wtm_5 209 (by decide +kernel) (by decide +kernel))⟩
theorem dL_low_0 : decode cL_low 0 = .ok (.iload_n 0, 1) := by decide +kernel
theorem dL_low_1 : decode cL_low 1 = .ok (.ldc 8, 2) := by decide +kernel
theorem dL_low_3 : decode cL_low 3 = .ok (.iand, 1) := by decide +kernel
theorem dL_low_4 : decode cL_low 4 = .ok (.iload_n 1, 1) := by decide +kernel
theorem dL_low_5 : decode cL_low 5 = .ok (.irem, 1) := by decide +kernel
theorem dL_low_6 : decode cL_low 6 = .ok (.ireturn, 1) := by decide +kernel
def sL_low (w : Wl) (l0 : Int32) (l1 : Int32) : Option Int32 := (if ¬ l1 = 0 then some ((l0 &&& (2147483647 : Int32)) - ((l0 &&& (2147483647 : Int32)) / l1) * l1) else none)
theorem kL_low {l : Launch} {Γ : Gl} {B : Bs} {w : Wl} {G : Gf} {sz : Nat} {l0 : Int32} {l1 : Int32} {r : Int32} (hW : Wd Γ B w G) (h : sL_low w l0 l1 = some r) : CtR l Γ yL_low cL_low 2 (some .int) 0 [.int l0, .int l1] G sz (.int (r)) := by
  refine Ct.of rfl (Nat.le_of_ble_eq_true rfl) fun X hx hr hl hΓ hnm => ?_
  subst hl hΓ
  show J X 2 G sz 0 0 0 [some (.int l0), some (.int l1)] []
  unfold sL_low at h
  refine J_il4 hx rfl rfl dL_low_0 ?_
  refine J_ldc hx cn_L_8 dL_low_1 ?_
  refine J_iand hx dL_low_3 ?_
  refine J_il4 hx rfl rfl dL_low_4 ?_
  obtain ⟨z1, h⟩ := grd h
  refine J_irem hx z1 dL_low_5 ?_
  exact J_iretR hx hr dL_low_6 (Nat.le_refl 0) (Nat.le_refl 0) (Option.some.inj h)
theorem dL_boxes_0 : decode cL_boxes 0 = .ok (.aload_n 0, 1) := by decide +kernel
theorem dL_boxes_1 : decode cL_boxes 1 = .ok (.iconst 0, 1) := by decide +kernel
theorem dL_boxes_2 : decode cL_boxes 2 = .ok (.invokestatic 110, 3) := by decide +kernel
theorem dL_boxes_5 : decode cL_boxes 5 = .ok (.istore_n 3, 1) := by decide +kernel
theorem dL_boxes_6 : decode cL_boxes 6 = .ok (.aload_n 0, 1) := by decide +kernel
theorem dL_boxes_7 : decode cL_boxes 7 = .ok (.iload_n 1, 1) := by decide +kernel
theorem dL_boxes_8 : decode cL_boxes 8 = .ok (.iconst 1, 1) := by decide +kernel
theorem dL_boxes_9 : decode cL_boxes 9 = .ok (.invokestatic 118, 3) := by decide +kernel
theorem dL_boxes_12 : decode cL_boxes 12 = .ok (.ifCond .ne 7, 3) := by decide +kernel
theorem dL_boxes_15 : decode cL_boxes 15 = .ok (.iconst 1, 1) := by decide +kernel
theorem dL_boxes_16 : decode cL_boxes 16 = .ok (.goto 4, 3) := by decide +kernel
theorem dL_boxes_19 : decode cL_boxes 19 = .ok (.iconst 0, 1) := by decide +kernel
theorem dL_boxes_20 : decode cL_boxes 20 = .ok (.istore 4, 2) := by decide +kernel
theorem dL_boxes_22 : decode cL_boxes 22 = .ok (.aload_n 0, 1) := by decide +kernel
theorem dL_boxes_23 : decode cL_boxes 23 = .ok (.iload_n 1, 1) := by decide +kernel
theorem dL_boxes_24 : decode cL_boxes 24 = .ok (.bipush 13, 2) := by decide +kernel
theorem dL_boxes_26 : decode cL_boxes 26 = .ok (.invokestatic 118, 3) := by decide +kernel
theorem dL_boxes_29 : decode cL_boxes 29 = .ok (.iconst 1, 1) := by decide +kernel
theorem dL_boxes_30 : decode cL_boxes 30 = .ok (.if_icmp .ne 7, 3) := by decide +kernel
theorem dL_boxes_33 : decode cL_boxes 33 = .ok (.iconst 1, 1) := by decide +kernel
theorem dL_boxes_34 : decode cL_boxes 34 = .ok (.goto 4, 3) := by decide +kernel
theorem dL_boxes_37 : decode cL_boxes 37 = .ok (.iconst 0, 1) := by decide +kernel
theorem dL_boxes_38 : decode cL_boxes 38 = .ok (.istore 5, 2) := by decide +kernel
theorem dL_boxes_40 : decode cL_boxes 40 = .ok (.iload_n 2, 1) := by decide +kernel
theorem dL_boxes_41 : decode cL_boxes 41 = .ok (.iconst 2, 1) := by decide +kernel
theorem dL_boxes_42 : decode cL_boxes 42 = .ok (.invokestatic 128, 3) := by decide +kernel
theorem dL_boxes_45 : decode cL_boxes 45 = .ok (.ifCond .ne 196, 3) := by decide +kernel
theorem dL_boxes_48 : decode cL_boxes 48 = .ok (.iload 4, 2) := by decide +kernel
theorem dL_boxes_50 : decode cL_boxes 50 = .ok (.ifCond .eq 31, 3) := by decide +kernel
theorem dL_boxes_53 : decode cL_boxes 53 = .ok (.iload 5, 2) := by decide +kernel
theorem dL_boxes_55 : decode cL_boxes 55 = .ok (.ifCond .eq 26, 3) := by decide +kernel
theorem dL_boxes_58 : decode cL_boxes 58 = .ok (.iload_n 3, 1) := by decide +kernel
theorem dL_boxes_59 : decode cL_boxes 59 = .ok (.aload_n 0, 1) := by decide +kernel
theorem dL_boxes_60 : decode cL_boxes 60 = .ok (.iload_n 1, 1) := by decide +kernel
theorem dL_boxes_61 : decode cL_boxes 61 = .ok (.bipush 8, 2) := by decide +kernel
theorem dL_boxes_63 : decode cL_boxes 63 = .ok (.invokestatic 118, 3) := by decide +kernel
theorem dL_boxes_66 : decode cL_boxes 66 = .ok (.aload_n 0, 1) := by decide +kernel
theorem dL_boxes_67 : decode cL_boxes 67 = .ok (.iload_n 1, 1) := by decide +kernel
theorem dL_boxes_68 : decode cL_boxes 68 = .ok (.bipush 9, 2) := by decide +kernel
theorem dL_boxes_70 : decode cL_boxes 70 = .ok (.invokestatic 118, 3) := by decide +kernel
theorem dL_boxes_73 : decode cL_boxes 73 = .ok (.iadd, 1) := by decide +kernel
theorem dL_boxes_74 : decode cL_boxes 74 = .ok (.if_icmp .lt 7, 3) := by decide +kernel
theorem dL_boxes_77 : decode cL_boxes 77 = .ok (.iconst 1, 1) := by decide +kernel
theorem dL_boxes_78 : decode cL_boxes 78 = .ok (.goto 4, 3) := by decide +kernel
theorem dL_boxes_81 : decode cL_boxes 81 = .ok (.iconst 0, 1) := by decide +kernel
theorem dL_boxes_82 : decode cL_boxes 82 = .ok (.istore 6, 2) := by decide +kernel
theorem dL_boxes_84 : decode cL_boxes 84 = .ok (.aload_n 0, 1) := by decide +kernel
theorem dL_boxes_85 : decode cL_boxes 85 = .ok (.iload_n 1, 1) := by decide +kernel
theorem dL_boxes_86 : decode cL_boxes 86 = .ok (.invokestatic 131, 3) := by decide +kernel
theorem dL_boxes_89 : decode cL_boxes 89 = .ok (.istore 7, 2) := by decide +kernel
theorem dL_boxes_91 : decode cL_boxes 91 = .ok (.iload 6, 2) := by decide +kernel
theorem dL_boxes_93 : decode cL_boxes 93 = .ok (.ifCond .ne 35, 3) := by decide +kernel
theorem dL_boxes_96 : decode cL_boxes 96 = .ok (.iload 7, 2) := by decide +kernel
theorem dL_boxes_98 : decode cL_boxes 98 = .ok (.ldc 20, 2) := by decide +kernel
theorem dL_boxes_100 : decode cL_boxes 100 = .ok (.if_icmp .ne 26, 3) := by decide +kernel
theorem dL_boxes_103 : decode cL_boxes 103 = .ok (.aload_n 0, 1) := by decide +kernel
theorem dL_boxes_104 : decode cL_boxes 104 = .ok (.iload_n 1, 1) := by decide +kernel
theorem dL_boxes_105 : decode cL_boxes 105 = .ok (.iconst 1, 1) := by decide +kernel
theorem dL_boxes_106 : decode cL_boxes 106 = .ok (.invokestatic 118, 3) := by decide +kernel
theorem dL_boxes_109 : decode cL_boxes 109 = .ok (.iload 4, 2) := by decide +kernel
theorem dL_boxes_111 : decode cL_boxes 111 = .ok (.ifCond .eq 7, 3) := by decide +kernel
theorem dL_boxes_114 : decode cL_boxes 114 = .ok (.iconst 0, 1) := by decide +kernel
theorem dL_boxes_115 : decode cL_boxes 115 = .ok (.goto 4, 3) := by decide +kernel
theorem dL_boxes_118 : decode cL_boxes 118 = .ok (.iconst 1, 1) := by decide +kernel
theorem dL_boxes_119 : decode cL_boxes 119 = .ok (.if_icmp .ne 7, 3) := by decide +kernel
theorem dL_boxes_122 : decode cL_boxes 122 = .ok (.iconst 1, 1) := by decide +kernel
theorem dL_boxes_123 : decode cL_boxes 123 = .ok (.goto 4, 3) := by decide +kernel
theorem dL_boxes_126 : decode cL_boxes 126 = .ok (.iconst 0, 1) := by decide +kernel
theorem dL_boxes_127 : decode cL_boxes 127 = .ok (.ireturn, 1) := by decide +kernel
theorem dL_boxes_128 : decode cL_boxes 128 = .ok (.iconst 0, 1) := by decide +kernel
theorem dL_boxes_129 : decode cL_boxes 129 = .ok (.istore 8, 2) := by decide +kernel
theorem dL_boxes_131 : decode cL_boxes 131 = .ok (.iload 8, 2) := by decide +kernel
theorem dL_boxes_133 : decode cL_boxes 133 = .ok (.aload_n 0, 1) := by decide +kernel
theorem dL_boxes_134 : decode cL_boxes 134 = .ok (.iconst 2, 1) := by decide +kernel
theorem dL_boxes_135 : decode cL_boxes 135 = .ok (.invokestatic 110, 3) := by decide +kernel
theorem dL_boxes_138 : decode cL_boxes 138 = .ok (.if_icmp .ge 44, 3) := by decide +kernel
theorem dL_boxes_141 : decode cL_boxes 141 = .ok (.aload_n 0, 1) := by decide +kernel
theorem dL_boxes_142 : decode cL_boxes 142 = .ok (.iload 8, 2) := by decide +kernel
theorem dL_boxes_144 : decode cL_boxes 144 = .ok (.iconst 2, 1) := by decide +kernel
theorem dL_boxes_145 : decode cL_boxes 145 = .ok (.invokestatic 118, 3) := by decide +kernel
theorem dL_boxes_148 : decode cL_boxes 148 = .ok (.iload_n 1, 1) := by decide +kernel
theorem dL_boxes_149 : decode cL_boxes 149 = .ok (.if_icmp .ne 27, 3) := by decide +kernel
theorem dL_boxes_152 : decode cL_boxes 152 = .ok (.aload_n 0, 1) := by decide +kernel
theorem dL_boxes_153 : decode cL_boxes 153 = .ok (.iload 8, 2) := by decide +kernel
theorem dL_boxes_155 : decode cL_boxes 155 = .ok (.iconst 1, 1) := by decide +kernel
theorem dL_boxes_156 : decode cL_boxes 156 = .ok (.invokestatic 118, 3) := by decide +kernel
theorem dL_boxes_159 : decode cL_boxes 159 = .ok (.ifCond .ne 17, 3) := by decide +kernel
theorem dL_boxes_162 : decode cL_boxes 162 = .ok (.aload_n 0, 1) := by decide +kernel
theorem dL_boxes_163 : decode cL_boxes 163 = .ok (.iload 8, 2) := by decide +kernel
theorem dL_boxes_165 : decode cL_boxes 165 = .ok (.bipush 8, 2) := by decide +kernel
theorem dL_boxes_167 : decode cL_boxes 167 = .ok (.invokestatic 118, 3) := by decide +kernel
theorem dL_boxes_170 : decode cL_boxes 170 = .ok (.iload_n 3, 1) := by decide +kernel
theorem dL_boxes_171 : decode cL_boxes 171 = .ok (.if_icmp .eq 5, 3) := by decide +kernel
theorem dL_boxes_174 : decode cL_boxes 174 = .ok (.iconst 0, 1) := by decide +kernel
theorem dL_boxes_175 : decode cL_boxes 175 = .ok (.ireturn, 1) := by decide +kernel
theorem dL_boxes_176 : decode cL_boxes 176 = .ok (.iinc 8 1, 3) := by decide +kernel
theorem dL_boxes_179 : decode cL_boxes 179 = .ok (.goto (-48), 3) := by decide +kernel
theorem dL_boxes_182 : decode cL_boxes 182 = .ok (.iload 7, 2) := by decide +kernel
theorem dL_boxes_184 : decode cL_boxes 184 = .ok (.ifCond .lt 55, 3) := by decide +kernel
theorem dL_boxes_187 : decode cL_boxes 187 = .ok (.iload 7, 2) := by decide +kernel
theorem dL_boxes_189 : decode cL_boxes 189 = .ok (.aload_n 0, 1) := by decide +kernel
theorem dL_boxes_190 : decode cL_boxes 190 = .ok (.iload_n 1, 1) := by decide +kernel
theorem dL_boxes_191 : decode cL_boxes 191 = .ok (.bipush 10, 2) := by decide +kernel
theorem dL_boxes_193 : decode cL_boxes 193 = .ok (.invokestatic 118, 3) := by decide +kernel
theorem dL_boxes_196 : decode cL_boxes 196 = .ok (.if_icmp .gt 43, 3) := by decide +kernel
theorem dL_boxes_199 : decode cL_boxes 199 = .ok (.aload_n 0, 1) := by decide +kernel
theorem dL_boxes_200 : decode cL_boxes 200 = .ok (.iload_n 1, 1) := by decide +kernel
theorem dL_boxes_201 : decode cL_boxes 201 = .ok (.iconst 1, 1) := by decide +kernel
theorem dL_boxes_202 : decode cL_boxes 202 = .ok (.invokestatic 118, 3) := by decide +kernel
theorem dL_boxes_205 : decode cL_boxes 205 = .ok (.iconst 1, 1) := by decide +kernel
theorem dL_boxes_206 : decode cL_boxes 206 = .ok (.if_icmp .ne 33, 3) := by decide +kernel
theorem dL_boxes_209 : decode cL_boxes 209 = .ok (.aload_n 0, 1) := by decide +kernel
theorem dL_boxes_210 : decode cL_boxes 210 = .ok (.invokestatic 133, 3) := by decide +kernel
theorem dL_boxes_213 : decode cL_boxes 213 = .ok (.ifCond .lt 26, 3) := by decide +kernel
theorem dL_boxes_216 : decode cL_boxes 216 = .ok (.aload_n 0, 1) := by decide +kernel
theorem dL_boxes_217 : decode cL_boxes 217 = .ok (.iload_n 1, 1) := by decide +kernel
theorem dL_boxes_218 : decode cL_boxes 218 = .ok (.iconst 1, 1) := by decide +kernel
theorem dL_boxes_219 : decode cL_boxes 219 = .ok (.invokestatic 118, 3) := by decide +kernel
theorem dL_boxes_222 : decode cL_boxes 222 = .ok (.ifCond .ne 17, 3) := by decide +kernel
theorem dL_boxes_225 : decode cL_boxes 225 = .ok (.aload_n 0, 1) := by decide +kernel
theorem dL_boxes_226 : decode cL_boxes 226 = .ok (.iload_n 1, 1) := by decide +kernel
theorem dL_boxes_227 : decode cL_boxes 227 = .ok (.invokestatic 131, 3) := by decide +kernel
theorem dL_boxes_230 : decode cL_boxes 230 = .ok (.iload 7, 2) := by decide +kernel
theorem dL_boxes_232 : decode cL_boxes 232 = .ok (.if_icmp .ne 7, 3) := by decide +kernel
theorem dL_boxes_235 : decode cL_boxes 235 = .ok (.iconst 1, 1) := by decide +kernel
theorem dL_boxes_236 : decode cL_boxes 236 = .ok (.goto 4, 3) := by decide +kernel
theorem dL_boxes_239 : decode cL_boxes 239 = .ok (.iconst 0, 1) := by decide +kernel
theorem dL_boxes_240 : decode cL_boxes 240 = .ok (.ireturn, 1) := by decide +kernel
theorem dL_boxes_241 : decode cL_boxes 241 = .ok (.iload 4, 2) := by decide +kernel
theorem dL_boxes_243 : decode cL_boxes 243 = .ok (.ifCond .ne 7, 3) := by decide +kernel
theorem dL_boxes_246 : decode cL_boxes 246 = .ok (.iconst 1, 1) := by decide +kernel
theorem dL_boxes_247 : decode cL_boxes 247 = .ok (.goto 4, 3) := by decide +kernel
theorem dL_boxes_250 : decode cL_boxes 250 = .ok (.iconst 0, 1) := by decide +kernel
theorem dL_boxes_251 : decode cL_boxes 251 = .ok (.istore 6, 2) := by decide +kernel
theorem dL_boxes_253 : decode cL_boxes 253 = .ok (.iconst 0, 1) := by decide +kernel
theorem dL_boxes_254 : decode cL_boxes 254 = .ok (.istore 7, 2) := by decide +kernel
theorem dL_boxes_256 : decode cL_boxes 256 = .ok (.iload 7, 2) := by decide +kernel
theorem dL_boxes_258 : decode cL_boxes 258 = .ok (.aload_n 0, 1) := by decide +kernel
theorem dL_boxes_259 : decode cL_boxes 259 = .ok (.iconst 2, 1) := by decide +kernel
theorem dL_boxes_260 : decode cL_boxes 260 = .ok (.invokestatic 110, 3) := by decide +kernel
theorem dL_boxes_263 : decode cL_boxes 263 = .ok (.if_icmp .ge 42, 3) := by decide +kernel
theorem dL_boxes_266 : decode cL_boxes 266 = .ok (.iload 6, 2) := by decide +kernel
theorem dL_boxes_268 : decode cL_boxes 268 = .ok (.ifCond .eq 28, 3) := by decide +kernel
theorem dL_boxes_271 : decode cL_boxes 271 = .ok (.aload_n 0, 1) := by decide +kernel
theorem dL_boxes_272 : decode cL_boxes 272 = .ok (.iload 7, 2) := by decide +kernel
theorem dL_boxes_274 : decode cL_boxes 274 = .ok (.iconst 2, 1) := by decide +kernel
theorem dL_boxes_275 : decode cL_boxes 275 = .ok (.invokestatic 118, 3) := by decide +kernel
theorem dL_boxes_278 : decode cL_boxes 278 = .ok (.iload_n 1, 1) := by decide +kernel
theorem dL_boxes_279 : decode cL_boxes 279 = .ok (.if_icmp .ne 13, 3) := by decide +kernel
theorem dL_boxes_282 : decode cL_boxes 282 = .ok (.aload_n 0, 1) := by decide +kernel
theorem dL_boxes_283 : decode cL_boxes 283 = .ok (.iload 7, 2) := by decide +kernel
theorem dL_boxes_285 : decode cL_boxes 285 = .ok (.iconst 1, 1) := by decide +kernel
theorem dL_boxes_286 : decode cL_boxes 286 = .ok (.invokestatic 118, 3) := by decide +kernel
theorem dL_boxes_289 : decode cL_boxes 289 = .ok (.ifCond .ne 7, 3) := by decide +kernel
theorem dL_boxes_292 : decode cL_boxes 292 = .ok (.iconst 1, 1) := by decide +kernel
theorem dL_boxes_293 : decode cL_boxes 293 = .ok (.goto 4, 3) := by decide +kernel
theorem dL_boxes_296 : decode cL_boxes 296 = .ok (.iconst 0, 1) := by decide +kernel
theorem dL_boxes_297 : decode cL_boxes 297 = .ok (.istore 6, 2) := by decide +kernel
theorem dL_boxes_299 : decode cL_boxes 299 = .ok (.iinc 7 1, 3) := by decide +kernel
theorem dL_boxes_302 : decode cL_boxes 302 = .ok (.goto (-46), 3) := by decide +kernel
theorem dL_boxes_305 : decode cL_boxes 305 = .ok (.aload_n 0, 1) := by decide +kernel
theorem dL_boxes_306 : decode cL_boxes 306 = .ok (.iload_n 1, 1) := by decide +kernel
theorem dL_boxes_307 : decode cL_boxes 307 = .ok (.bipush 6, 2) := by decide +kernel
theorem dL_boxes_309 : decode cL_boxes 309 = .ok (.invokestatic 118, 3) := by decide +kernel
theorem dL_boxes_312 : decode cL_boxes 312 = .ok (.istore 7, 2) := by decide +kernel
theorem dL_boxes_314 : decode cL_boxes 314 = .ok (.aload_n 0, 1) := by decide +kernel
theorem dL_boxes_315 : decode cL_boxes 315 = .ok (.iload_n 1, 1) := by decide +kernel
theorem dL_boxes_316 : decode cL_boxes 316 = .ok (.invokestatic 136, 3) := by decide +kernel
theorem dL_boxes_319 : decode cL_boxes 319 = .ok (.istore 8, 2) := by decide +kernel
theorem dL_boxes_321 : decode cL_boxes 321 = .ok (.iload 6, 2) := by decide +kernel
theorem dL_boxes_323 : decode cL_boxes 323 = .ok (.ifCond .ne 16, 3) := by decide +kernel
theorem dL_boxes_326 : decode cL_boxes 326 = .ok (.iload 8, 2) := by decide +kernel
theorem dL_boxes_328 : decode cL_boxes 328 = .ok (.ldc 20, 2) := by decide +kernel
theorem dL_boxes_330 : decode cL_boxes 330 = .ok (.if_icmp .ne 7, 3) := by decide +kernel
theorem dL_boxes_333 : decode cL_boxes 333 = .ok (.iconst 1, 1) := by decide +kernel
theorem dL_boxes_334 : decode cL_boxes 334 = .ok (.goto 4, 3) := by decide +kernel
theorem dL_boxes_337 : decode cL_boxes 337 = .ok (.iconst 0, 1) := by decide +kernel
theorem dL_boxes_338 : decode cL_boxes 338 = .ok (.ireturn, 1) := by decide +kernel
theorem dL_boxes_339 : decode cL_boxes 339 = .ok (.iload 8, 2) := by decide +kernel
theorem dL_boxes_341 : decode cL_boxes 341 = .ok (.aload_n 0, 1) := by decide +kernel
theorem dL_boxes_342 : decode cL_boxes 342 = .ok (.iload_n 1, 1) := by decide +kernel
theorem dL_boxes_343 : decode cL_boxes 343 = .ok (.bipush 10, 2) := by decide +kernel
theorem dL_boxes_345 : decode cL_boxes 345 = .ok (.invokestatic 118, 3) := by decide +kernel
theorem dL_boxes_348 : decode cL_boxes 348 = .ok (.if_icmp .ne 67, 3) := by decide +kernel
theorem dL_boxes_351 : decode cL_boxes 351 = .ok (.aload_n 0, 1) := by decide +kernel
theorem dL_boxes_352 : decode cL_boxes 352 = .ok (.iload_n 1, 1) := by decide +kernel
theorem dL_boxes_353 : decode cL_boxes 353 = .ok (.iconst 1, 1) := by decide +kernel
theorem dL_boxes_354 : decode cL_boxes 354 = .ok (.invokestatic 118, 3) := by decide +kernel
theorem dL_boxes_357 : decode cL_boxes 357 = .ok (.ifCond .ne 58, 3) := by decide +kernel
theorem dL_boxes_360 : decode cL_boxes 360 = .ok (.aload_n 0, 1) := by decide +kernel
theorem dL_boxes_361 : decode cL_boxes 361 = .ok (.iload_n 1, 1) := by decide +kernel
theorem dL_boxes_362 : decode cL_boxes 362 = .ok (.bipush 9, 2) := by decide +kernel
theorem dL_boxes_364 : decode cL_boxes 364 = .ok (.invokestatic 118, 3) := by decide +kernel
theorem dL_boxes_367 : decode cL_boxes 367 = .ok (.ifCond .ne 48, 3) := by decide +kernel
theorem dL_boxes_370 : decode cL_boxes 370 = .ok (.aload_n 0, 1) := by decide +kernel
theorem dL_boxes_371 : decode cL_boxes 371 = .ok (.iload_n 1, 1) := by decide +kernel
theorem dL_boxes_372 : decode cL_boxes 372 = .ok (.bipush 8, 2) := by decide +kernel
theorem dL_boxes_374 : decode cL_boxes 374 = .ok (.invokestatic 118, 3) := by decide +kernel
theorem dL_boxes_377 : decode cL_boxes 377 = .ok (.iload_n 3, 1) := by decide +kernel
theorem dL_boxes_378 : decode cL_boxes 378 = .ok (.if_icmp .ne 37, 3) := by decide +kernel
theorem dL_boxes_381 : decode cL_boxes 381 = .ok (.aload_n 0, 1) := by decide +kernel
theorem dL_boxes_382 : decode cL_boxes 382 = .ok (.iload_n 1, 1) := by decide +kernel
theorem dL_boxes_383 : decode cL_boxes 383 = .ok (.bipush 6, 2) := by decide +kernel
theorem dL_boxes_385 : decode cL_boxes 385 = .ok (.invokestatic 118, 3) := by decide +kernel
theorem dL_boxes_388 : decode cL_boxes 388 = .ok (.iload 7, 2) := by decide +kernel
theorem dL_boxes_390 : decode cL_boxes 390 = .ok (.if_icmp .ne 25, 3) := by decide +kernel
theorem dL_boxes_393 : decode cL_boxes 393 = .ok (.aload_n 0, 1) := by decide +kernel
theorem dL_boxes_394 : decode cL_boxes 394 = .ok (.iload_n 1, 1) := by decide +kernel
theorem dL_boxes_395 : decode cL_boxes 395 = .ok (.invokestatic 131, 3) := by decide +kernel
theorem dL_boxes_398 : decode cL_boxes 398 = .ok (.ifCond .lt 17, 3) := by decide +kernel
theorem dL_boxes_401 : decode cL_boxes 401 = .ok (.aload_n 0, 1) := by decide +kernel
theorem dL_boxes_402 : decode cL_boxes 402 = .ok (.iload_n 1, 1) := by decide +kernel
theorem dL_boxes_403 : decode cL_boxes 403 = .ok (.invokestatic 136, 3) := by decide +kernel
theorem dL_boxes_406 : decode cL_boxes 406 = .ok (.iload 8, 2) := by decide +kernel
theorem dL_boxes_408 : decode cL_boxes 408 = .ok (.if_icmp .ne 7, 3) := by decide +kernel
theorem dL_boxes_411 : decode cL_boxes 411 = .ok (.iconst 1, 1) := by decide +kernel
theorem dL_boxes_412 : decode cL_boxes 412 = .ok (.goto 4, 3) := by decide +kernel
theorem dL_boxes_415 : decode cL_boxes 415 = .ok (.iconst 0, 1) := by decide +kernel
theorem dL_boxes_416 : decode cL_boxes 416 = .ok (.ireturn, 1) := by decide +kernel
def sL_boxes_256 : Nat → Wl → Int32 → Int32 → Int32 → Int32 → Option (Bool × Wl)
  | 0, _, _, _, _, _ => none
  | n + 1, w, l1, l3, l6, l7 => (sO_whole w (2 : Int32)).bind (fun r1 => (if r1 ≤ l7 then (sO_crate w l1 (6 : Int32)).bind (fun r4 => (sL_close w l1).bind (fun r6 => (if l6 = 0 then (if r6.1 = (-90200 : Int32) then some (true, r6.2) else some (false, r6.2)) else (sO_crate r6.2 l1 (10 : Int32)).bind (fun r12 => (if r6.1 = r12 then (sO_crate r6.2 l1 (1 : Int32)).bind (fun r15 => (if r15 = 0 then (sO_crate r6.2 l1 (9 : Int32)).bind (fun r18 => (if r18 = 0 then (sO_crate r6.2 l1 (8 : Int32)).bind (fun r21 => (if r21 = l3 then (sO_crate r6.2 l1 (6 : Int32)).bind (fun r24 => (if r24 = r4 then (sO_open r6.2 l1).bind (fun r27 => (if r27.1 < 0 then some (false, r27.2) else (sO_close r27.2 l1).bind (fun r32 => (if r32.1 = r6.1 then some (true, r32.2) else some (false, r32.2))))) else some (false, r6.2))) else some (false, r6.2))) else some (false, r6.2))) else some (false, r6.2))) else some (false, r6.2)))))) else (if l6 = 0 then sL_boxes_256 n w l1 l3 (0 : Int32) (l7 + 1) else (sO_crate w l7 (2 : Int32)).bind (fun r39 => (if r39 = l1 then (sO_crate w l7 (1 : Int32)).bind (fun r42 => (if r42 = 0 then sL_boxes_256 n w l1 l3 (1 : Int32) (l7 + 1) else sL_boxes_256 n w l1 l3 (0 : Int32) (l7 + 1))) else sL_boxes_256 n w l1 l3 (1 : Int32) (l7 + 1))))))
theorem tL_boxes_256 {X : Cx} {B : Bs} {sz : Nat} {r : (Bool × Wl)} (hx : Fx X cL_boxes 9 RL 9 1 6) (hC : GC (xΓ X) B) (htr : (xl X).stackTraces = false) (hr : Rt X (some .boolean) 1 6 (WX (xΓ X) B (some (.int (bI r.1))) r.2)) : ∀ (n : Nat), ∀ (w : Wl) (l1 : Int32) (l3 : Int32) (l6 : Int32) (l7 : Int32) {G : Gf} (hW : Wd (xΓ X) B w G) (h : sL_boxes_256 n w l1 l3 l6 l7 = some r), J X 9 G sz 0 0 256 [some (.ref (B.1 + 0)), some (.int l1), none, some (.int l3), none, none, some (.int l6), some (.int l7), none] [] := by
  intro n
  induction n with
  | zero => intro w l1 l3 l6 l7 G hW h; rw [sL_boxes_256.eq_1] at h; cases h
  | succ n ih =>
    intro w l1 l3 l6 l7 G hW h
    rw [sL_boxes_256.eq_2] at h
    refine J_il hx rfl dL_boxes_256 ?_
    refine J_al4 hx rfl rfl dL_boxes_258 ?_
    refine J_iconst hx (2 : Int32) dL_boxes_259 rfl ?_
    obtain ⟨r1, hr2, h⟩ := bnd h
    refine J_rdL hx (kP_whole hC hW (okS_e hr2)) ml_L_110 cw_whole st_whole ini_L hy_whole (rest := [.int l7]) rfl rfl (by decide) (by decide) (Nat.le_of_ble_eq_true rfl) (by decide) (by decide) dL_boxes_260 ?_
    refine J_icmp_ge hx 305 dL_boxes_263 rfl (fun h3 => ?_) (fun h3 => ?_)
    · replace h := pos h h3
      refine J_al4 hx rfl rfl dL_boxes_305 ?_
      refine J_il4 hx rfl rfl dL_boxes_306 ?_
      refine J_bipush hx (6 : Int32) dL_boxes_307 rfl ?_
      obtain ⟨r4, hr5, h⟩ := bnd h
      refine J_rdL hx (kP_crate hC hW (okS_e hr5)) ml_L_118 cw_crate st_crate ini_L hy_crate (rest := []) rfl rfl (by decide) (by decide) (Nat.le_of_ble_eq_true rfl) (by decide) (by decide) dL_boxes_309 ?_
      refine J_is hx (by decide) (hc_of rfl) rfl dL_boxes_312 ?_
      refine J_al4 hx rfl rfl dL_boxes_314 ?_
      refine J_il4 hx rfl rfl dL_boxes_315 ?_
      obtain ⟨r6, hr7, h⟩ := bnd h
      refine J_callSW hx (kL_close htr hC hW hr7) ml_L_136 cw_close st_close ini_L hy_close (rest := []) rfl rfl (by decide) (by decide) (Nat.le_of_ble_eq_true rfl) (by decide) (by decide) dL_boxes_316 fun x1 G8 z10 hh => ?_
      obtain ⟨rfl, hW9⟩ := hh
      show J X 9 G8 z10 1 6 319 [some (.ref (B.1 + 0)), some (.int l1), none, some (.int l3), none, none, some (.int l6), some (.int r4), none] [.int r6.1]
      refine J_is hx (by decide) (hc_of rfl) rfl dL_boxes_319 ?_
      refine J_il hx rfl dL_boxes_321 ?_
      refine J_if_ne hx 339 dL_boxes_323 rfl (fun h11 => ?_) (fun h11 => ?_)
      · replace h := neg h h11
        refine J_il hx rfl dL_boxes_339 ?_
        refine J_al4 hx rfl rfl dL_boxes_341 ?_
        refine J_il4 hx rfl rfl dL_boxes_342 ?_
        refine J_bipush hx (10 : Int32) dL_boxes_343 rfl ?_
        obtain ⟨r12, hr13, h⟩ := bnd h
        refine J_rdL hx (kP_crate hC hW9 (okS_e hr13)) ml_L_118 cw_crate st_crate ini_L hy_crate (rest := [.int r6.1]) rfl rfl (by decide) (by decide) (Nat.le_of_ble_eq_true rfl) (by decide) (by decide) dL_boxes_345 ?_
        refine J_icmp_ne hx 415 dL_boxes_348 rfl (fun h14 => ?_) (fun h14 => ?_)
        · replace h := neg h h14
          refine J_iconst hx (0 : Int32) dL_boxes_415 rfl ?_
          obtain rfl := Option.some.inj h
          exact J_zretX (b := false) hx hr hW9 dL_boxes_416 (by decide) (by decide)
        · replace h := pos h h14
          refine J_al4 hx rfl rfl dL_boxes_351 ?_
          refine J_il4 hx rfl rfl dL_boxes_352 ?_
          refine J_iconst hx (1 : Int32) dL_boxes_353 rfl ?_
          obtain ⟨r15, hr16, h⟩ := bnd h
          refine J_rdL hx (kP_crate hC hW9 (okS_e hr16)) ml_L_118 cw_crate st_crate ini_L hy_crate (rest := []) rfl rfl (by decide) (by decide) (Nat.le_of_ble_eq_true rfl) (by decide) (by decide) dL_boxes_354 ?_
          refine J_if_ne hx 415 dL_boxes_357 rfl (fun h17 => ?_) (fun h17 => ?_)
          · replace h := neg h h17
            refine J_iconst hx (0 : Int32) dL_boxes_415 rfl ?_
            obtain rfl := Option.some.inj h
            exact J_zretX (b := false) hx hr hW9 dL_boxes_416 (by decide) (by decide)
          · replace h := pos h h17
            refine J_al4 hx rfl rfl dL_boxes_360 ?_
            refine J_il4 hx rfl rfl dL_boxes_361 ?_
            refine J_bipush hx (9 : Int32) dL_boxes_362 rfl ?_
            obtain ⟨r18, hr19, h⟩ := bnd h
            refine J_rdL hx (kP_crate hC hW9 (okS_e hr19)) ml_L_118 cw_crate st_crate ini_L hy_crate (rest := []) rfl rfl (by decide) (by decide) (Nat.le_of_ble_eq_true rfl) (by decide) (by decide) dL_boxes_364 ?_
            refine J_if_ne hx 415 dL_boxes_367 rfl (fun h20 => ?_) (fun h20 => ?_)
            · replace h := neg h h20
              refine J_iconst hx (0 : Int32) dL_boxes_415 rfl ?_
              obtain rfl := Option.some.inj h
              exact J_zretX (b := false) hx hr hW9 dL_boxes_416 (by decide) (by decide)
            · replace h := pos h h20
              refine J_al4 hx rfl rfl dL_boxes_370 ?_
              refine J_il4 hx rfl rfl dL_boxes_371 ?_
              refine J_bipush hx (8 : Int32) dL_boxes_372 rfl ?_
              obtain ⟨r21, hr22, h⟩ := bnd h
              refine J_rdL hx (kP_crate hC hW9 (okS_e hr22)) ml_L_118 cw_crate st_crate ini_L hy_crate (rest := []) rfl rfl (by decide) (by decide) (Nat.le_of_ble_eq_true rfl) (by decide) (by decide) dL_boxes_374 ?_
              refine J_il4 hx rfl rfl dL_boxes_377 ?_
              refine J_icmp_ne hx 415 dL_boxes_378 rfl (fun h23 => ?_) (fun h23 => ?_)
              · replace h := neg h h23
                refine J_iconst hx (0 : Int32) dL_boxes_415 rfl ?_
                obtain rfl := Option.some.inj h
                exact J_zretX (b := false) hx hr hW9 dL_boxes_416 (by decide) (by decide)
              · replace h := pos h h23
                refine J_al4 hx rfl rfl dL_boxes_381 ?_
                refine J_il4 hx rfl rfl dL_boxes_382 ?_
                refine J_bipush hx (6 : Int32) dL_boxes_383 rfl ?_
                obtain ⟨r24, hr25, h⟩ := bnd h
                refine J_rdL hx (kP_crate hC hW9 (okS_e hr25)) ml_L_118 cw_crate st_crate ini_L hy_crate (rest := []) rfl rfl (by decide) (by decide) (Nat.le_of_ble_eq_true rfl) (by decide) (by decide) dL_boxes_385 ?_
                refine J_il hx rfl dL_boxes_388 ?_
                refine J_icmp_ne hx 415 dL_boxes_390 rfl (fun h26 => ?_) (fun h26 => ?_)
                · replace h := neg h h26
                  refine J_iconst hx (0 : Int32) dL_boxes_415 rfl ?_
                  obtain rfl := Option.some.inj h
                  exact J_zretX (b := false) hx hr hW9 dL_boxes_416 (by decide) (by decide)
                · replace h := pos h h26
                  refine J_al4 hx rfl rfl dL_boxes_393 ?_
                  refine J_il4 hx rfl rfl dL_boxes_394 ?_
                  obtain ⟨r27, hr28, h⟩ := bnd h
                  refine J_wrL hx (kP_open hC hW9 (okS_e hr28)) ml_L_131 cw_open st_open ini_L hy_open (rest := []) rfl rfl (by decide) (by decide) (Nat.le_of_ble_eq_true rfl) (by decide) (by decide) dL_boxes_395 fun G29 hW30 => ?_
                  show J X 9 G29 z10 1 6 398 [some (.ref (B.1 + 0)), some (.int l1), none, some (.int l3), none, none, some (.int l6), some (.int r4), some (.int r6.1)] [.int r27.1]
                  refine J_if_lt hx 415 dL_boxes_398 rfl (fun h31 => ?_) (fun h31 => ?_)
                  · replace h := pos h h31
                    refine J_iconst hx (0 : Int32) dL_boxes_415 rfl ?_
                    obtain rfl := Option.some.inj h
                    exact J_zretX (b := false) hx hr hW30 dL_boxes_416 (by decide) (by decide)
                  · replace h := neg h h31
                    refine J_al4 hx rfl rfl dL_boxes_401 ?_
                    refine J_il4 hx rfl rfl dL_boxes_402 ?_
                    obtain ⟨r32, hr33, h⟩ := bnd h
                    refine J_wrL hx (kP_close hC hW30 (okS_e hr33)) ml_L_136 cw_close st_close ini_L hy_close (rest := []) rfl rfl (by decide) (by decide) (Nat.le_of_ble_eq_true rfl) (by decide) (by decide) dL_boxes_403 fun G34 hW35 => ?_
                    show J X 9 G34 z10 1 6 406 [some (.ref (B.1 + 0)), some (.int l1), none, some (.int l3), none, none, some (.int l6), some (.int r4), some (.int r6.1)] [.int r32.1]
                    refine J_il hx rfl dL_boxes_406 ?_
                    refine J_icmp_ne hx 415 dL_boxes_408 rfl (fun h36 => ?_) (fun h36 => ?_)
                    · replace h := neg h h36
                      refine J_iconst hx (0 : Int32) dL_boxes_415 rfl ?_
                      obtain rfl := Option.some.inj h
                      exact J_zretX (b := false) hx hr hW35 dL_boxes_416 (by decide) (by decide)
                    · replace h := pos h h36
                      refine J_iconst hx (1 : Int32) dL_boxes_411 rfl ?_
                      refine J_goto hx 416 dL_boxes_412 rfl ?_
                      obtain rfl := Option.some.inj h
                      exact J_zretX (b := true) hx hr hW35 dL_boxes_416 (by decide) (by decide)
      · replace h := pos h h11
        refine J_il hx rfl dL_boxes_326 ?_
        refine J_ldc hx cn_L_20 dL_boxes_328 ?_
        refine J_icmp_ne hx 337 dL_boxes_330 rfl (fun h37 => ?_) (fun h37 => ?_)
        · replace h := neg h h37
          refine J_iconst hx (0 : Int32) dL_boxes_337 rfl ?_
          obtain rfl := Option.some.inj h
          exact J_zretX (b := false) hx hr hW9 dL_boxes_338 (by decide) (by decide)
        · replace h := pos h h37
          refine J_iconst hx (1 : Int32) dL_boxes_333 rfl ?_
          refine J_goto hx 338 dL_boxes_334 rfl ?_
          obtain rfl := Option.some.inj h
          exact J_zretX (b := true) hx hr hW9 dL_boxes_338 (by decide) (by decide)
    · replace h := neg h h3
      refine J_il hx rfl dL_boxes_266 ?_
      refine J_if_eq hx 296 dL_boxes_268 rfl (fun h38 => ?_) (fun h38 => ?_)
      · replace h := pos h h38
        refine J_iconst hx (0 : Int32) dL_boxes_296 rfl ?_
        refine J_is hx (by decide) (hc_of rfl) rfl dL_boxes_297 ?_
        refine J_iinc hx (v' := (l7 + 1)) rfl rfl (by decide) (hc_of rfl) rfl dL_boxes_299 ?_
        refine J_goto hx 256 dL_boxes_302 rfl ?_
        exact ih _ _ _ _ _  hW h
      · replace h := neg h h38
        refine J_al4 hx rfl rfl dL_boxes_271 ?_
        refine J_il hx rfl dL_boxes_272 ?_
        refine J_iconst hx (2 : Int32) dL_boxes_274 rfl ?_
        obtain ⟨r39, hr40, h⟩ := bnd h
        refine J_rdL hx (kP_crate hC hW (okS_e hr40)) ml_L_118 cw_crate st_crate ini_L hy_crate (rest := []) rfl rfl (by decide) (by decide) (Nat.le_of_ble_eq_true rfl) (by decide) (by decide) dL_boxes_275 ?_
        refine J_il4 hx rfl rfl dL_boxes_278 ?_
        refine J_icmp_ne hx 292 dL_boxes_279 rfl (fun h41 => ?_) (fun h41 => ?_)
        · replace h := neg h h41
          refine J_iconst hx (1 : Int32) dL_boxes_292 rfl ?_
          refine J_goto hx 297 dL_boxes_293 rfl ?_
          refine J_is hx (by decide) (hc_of rfl) rfl dL_boxes_297 ?_
          refine J_iinc hx (v' := (l7 + 1)) rfl rfl (by decide) (hc_of rfl) rfl dL_boxes_299 ?_
          refine J_goto hx 256 dL_boxes_302 rfl ?_
          exact ih _ _ _ _ _  hW h
        · replace h := pos h h41
          refine J_al4 hx rfl rfl dL_boxes_282 ?_
          refine J_il hx rfl dL_boxes_283 ?_
          refine J_iconst hx (1 : Int32) dL_boxes_285 rfl ?_
          obtain ⟨r42, hr43, h⟩ := bnd h
          refine J_rdL hx (kP_crate hC hW (okS_e hr43)) ml_L_118 cw_crate st_crate ini_L hy_crate (rest := []) rfl rfl (by decide) (by decide) (Nat.le_of_ble_eq_true rfl) (by decide) (by decide) dL_boxes_286 ?_
          refine J_if_ne hx 296 dL_boxes_289 rfl (fun h44 => ?_) (fun h44 => ?_)
          · replace h := neg h h44
            refine J_iconst hx (0 : Int32) dL_boxes_296 rfl ?_
            refine J_is hx (by decide) (hc_of rfl) rfl dL_boxes_297 ?_
            refine J_iinc hx (v' := (l7 + 1)) rfl rfl (by decide) (hc_of rfl) rfl dL_boxes_299 ?_
            refine J_goto hx 256 dL_boxes_302 rfl ?_
            exact ih _ _ _ _ _  hW h
          · replace h := pos h h44
            refine J_iconst hx (1 : Int32) dL_boxes_292 rfl ?_
            refine J_goto hx 297 dL_boxes_293 rfl ?_
            refine J_is hx (by decide) (hc_of rfl) rfl dL_boxes_297 ?_
            refine J_iinc hx (v' := (l7 + 1)) rfl rfl (by decide) (hc_of rfl) rfl dL_boxes_299 ?_
            refine J_goto hx 256 dL_boxes_302 rfl ?_
            exact ih _ _ _ _ _  hW h
def sL_boxes_131 : Nat → Wl → Int32 → Int32 → Int32 → Int32 → Option (Bool × Wl)
  | 0, _, _, _, _, _ => none
  | n + 1, w, l1, l3, l7, l8 => (sO_whole w (2 : Int32)).bind (fun r1 => (if r1 ≤ l8 then (if l7 < 0 then some (false, w) else (sO_crate w l1 (10 : Int32)).bind (fun r5 => (if r5 < l7 then some (false, w) else (sO_crate w l1 (1 : Int32)).bind (fun r8 => (if r8 = (1 : Int32) then (sO_undo w).bind (fun r11 => (if r11.1 < 0 then some (false, r11.2) else (sO_crate r11.2 l1 (1 : Int32)).bind (fun r16 => (if r16 = 0 then (sO_open r11.2 l1).bind (fun r19 => (if r19.1 = l7 then some (true, r19.2) else some (false, r19.2))) else some (false, r11.2))))) else some (false, w)))))) else (sO_crate w l8 (2 : Int32)).bind (fun r24 => (if r24 = l1 then (sO_crate w l8 (1 : Int32)).bind (fun r27 => (if r27 = 0 then (sO_crate w l8 (8 : Int32)).bind (fun r30 => (if r30 = l3 then sL_boxes_131 n w l1 l3 l7 (l8 + 1) else some (false, w))) else sL_boxes_131 n w l1 l3 l7 (l8 + 1))) else sL_boxes_131 n w l1 l3 l7 (l8 + 1)))))
theorem tL_boxes_131 {X : Cx} {B : Bs} {sz : Nat} {r : (Bool × Wl)} (hx : Fx X cL_boxes 9 RL 9 1 6) (hC : GC (xΓ X) B) (htr : (xl X).stackTraces = false) (hr : Rt X (some .boolean) 1 6 (WX (xΓ X) B (some (.int (bI r.1))) r.2)) : ∀ (n : Nat), ∀ (w : Wl) (l1 : Int32) (l3 : Int32) (l7 : Int32) (l8 : Int32) {G : Gf} (hW : Wd (xΓ X) B w G) (h : sL_boxes_131 n w l1 l3 l7 l8 = some r), J X 9 G sz 1 6 131 [some (.ref (B.1 + 0)), some (.int l1), none, some (.int l3), none, none, none, some (.int l7), some (.int l8)] [] := by
  intro n
  induction n with
  | zero => intro w l1 l3 l7 l8 G hW h; rw [sL_boxes_131.eq_1] at h; cases h
  | succ n ih =>
    intro w l1 l3 l7 l8 G hW h
    rw [sL_boxes_131.eq_2] at h
    refine J_il hx rfl dL_boxes_131 ?_
    refine J_al4 hx rfl rfl dL_boxes_133 ?_
    refine J_iconst hx (2 : Int32) dL_boxes_134 rfl ?_
    obtain ⟨r1, hr2, h⟩ := bnd h
    refine J_rdL hx (kP_whole hC hW (okS_e hr2)) ml_L_110 cw_whole st_whole ini_L hy_whole (rest := [.int l8]) rfl rfl (by decide) (by decide) (Nat.le_of_ble_eq_true rfl) (by decide) (by decide) dL_boxes_135 ?_
    refine J_icmp_ge hx 182 dL_boxes_138 rfl (fun h3 => ?_) (fun h3 => ?_)
    · replace h := pos h h3
      refine J_il hx rfl dL_boxes_182 ?_
      refine J_if_lt hx 239 dL_boxes_184 rfl (fun h4 => ?_) (fun h4 => ?_)
      · replace h := pos h h4
        refine J_iconst hx (0 : Int32) dL_boxes_239 rfl ?_
        obtain rfl := Option.some.inj h
        exact J_zretX (b := false) hx hr hW dL_boxes_240 (by decide) (by decide)
      · replace h := neg h h4
        refine J_il hx rfl dL_boxes_187 ?_
        refine J_al4 hx rfl rfl dL_boxes_189 ?_
        refine J_il4 hx rfl rfl dL_boxes_190 ?_
        refine J_bipush hx (10 : Int32) dL_boxes_191 rfl ?_
        obtain ⟨r5, hr6, h⟩ := bnd h
        refine J_rdL hx (kP_crate hC hW (okS_e hr6)) ml_L_118 cw_crate st_crate ini_L hy_crate (rest := [.int l7]) rfl rfl (by decide) (by decide) (Nat.le_of_ble_eq_true rfl) (by decide) (by decide) dL_boxes_193 ?_
        refine J_icmp_gt hx 239 dL_boxes_196 rfl (fun h7 => ?_) (fun h7 => ?_)
        · replace h := pos h h7
          refine J_iconst hx (0 : Int32) dL_boxes_239 rfl ?_
          obtain rfl := Option.some.inj h
          exact J_zretX (b := false) hx hr hW dL_boxes_240 (by decide) (by decide)
        · replace h := neg h h7
          refine J_al4 hx rfl rfl dL_boxes_199 ?_
          refine J_il4 hx rfl rfl dL_boxes_200 ?_
          refine J_iconst hx (1 : Int32) dL_boxes_201 rfl ?_
          obtain ⟨r8, hr9, h⟩ := bnd h
          refine J_rdL hx (kP_crate hC hW (okS_e hr9)) ml_L_118 cw_crate st_crate ini_L hy_crate (rest := []) rfl rfl (by decide) (by decide) (Nat.le_of_ble_eq_true rfl) (by decide) (by decide) dL_boxes_202 ?_
          refine J_iconst hx (1 : Int32) dL_boxes_205 rfl ?_
          refine J_icmp_ne hx 239 dL_boxes_206 rfl (fun h10 => ?_) (fun h10 => ?_)
          · replace h := neg h h10
            refine J_iconst hx (0 : Int32) dL_boxes_239 rfl ?_
            obtain rfl := Option.some.inj h
            exact J_zretX (b := false) hx hr hW dL_boxes_240 (by decide) (by decide)
          · replace h := pos h h10
            refine J_al4 hx rfl rfl dL_boxes_209 ?_
            obtain ⟨r11, hr12, h⟩ := bnd h
            refine J_wrL hx (kP_undo hC hW (okS_e hr12)) ml_L_133 cw_undo st_undo ini_L hy_undo (rest := []) rfl rfl (by decide) (by decide) (Nat.le_of_ble_eq_true rfl) (by decide) (by decide) dL_boxes_210 fun G13 hW14 => ?_
            show J X 9 G13 sz 1 6 213 [some (.ref (B.1 + 0)), some (.int l1), none, some (.int l3), none, none, none, some (.int l7), some (.int l8)] [.int r11.1]
            refine J_if_lt hx 239 dL_boxes_213 rfl (fun h15 => ?_) (fun h15 => ?_)
            · replace h := pos h h15
              refine J_iconst hx (0 : Int32) dL_boxes_239 rfl ?_
              obtain rfl := Option.some.inj h
              exact J_zretX (b := false) hx hr hW14 dL_boxes_240 (by decide) (by decide)
            · replace h := neg h h15
              refine J_al4 hx rfl rfl dL_boxes_216 ?_
              refine J_il4 hx rfl rfl dL_boxes_217 ?_
              refine J_iconst hx (1 : Int32) dL_boxes_218 rfl ?_
              obtain ⟨r16, hr17, h⟩ := bnd h
              refine J_rdL hx (kP_crate hC hW14 (okS_e hr17)) ml_L_118 cw_crate st_crate ini_L hy_crate (rest := []) rfl rfl (by decide) (by decide) (Nat.le_of_ble_eq_true rfl) (by decide) (by decide) dL_boxes_219 ?_
              refine J_if_ne hx 239 dL_boxes_222 rfl (fun h18 => ?_) (fun h18 => ?_)
              · replace h := neg h h18
                refine J_iconst hx (0 : Int32) dL_boxes_239 rfl ?_
                obtain rfl := Option.some.inj h
                exact J_zretX (b := false) hx hr hW14 dL_boxes_240 (by decide) (by decide)
              · replace h := pos h h18
                refine J_al4 hx rfl rfl dL_boxes_225 ?_
                refine J_il4 hx rfl rfl dL_boxes_226 ?_
                obtain ⟨r19, hr20, h⟩ := bnd h
                refine J_wrL hx (kP_open hC hW14 (okS_e hr20)) ml_L_131 cw_open st_open ini_L hy_open (rest := []) rfl rfl (by decide) (by decide) (Nat.le_of_ble_eq_true rfl) (by decide) (by decide) dL_boxes_227 fun G21 hW22 => ?_
                show J X 9 G21 sz 1 6 230 [some (.ref (B.1 + 0)), some (.int l1), none, some (.int l3), none, none, none, some (.int l7), some (.int l8)] [.int r19.1]
                refine J_il hx rfl dL_boxes_230 ?_
                refine J_icmp_ne hx 239 dL_boxes_232 rfl (fun h23 => ?_) (fun h23 => ?_)
                · replace h := neg h h23
                  refine J_iconst hx (0 : Int32) dL_boxes_239 rfl ?_
                  obtain rfl := Option.some.inj h
                  exact J_zretX (b := false) hx hr hW22 dL_boxes_240 (by decide) (by decide)
                · replace h := pos h h23
                  refine J_iconst hx (1 : Int32) dL_boxes_235 rfl ?_
                  refine J_goto hx 240 dL_boxes_236 rfl ?_
                  obtain rfl := Option.some.inj h
                  exact J_zretX (b := true) hx hr hW22 dL_boxes_240 (by decide) (by decide)
    · replace h := neg h h3
      refine J_al4 hx rfl rfl dL_boxes_141 ?_
      refine J_il hx rfl dL_boxes_142 ?_
      refine J_iconst hx (2 : Int32) dL_boxes_144 rfl ?_
      obtain ⟨r24, hr25, h⟩ := bnd h
      refine J_rdL hx (kP_crate hC hW (okS_e hr25)) ml_L_118 cw_crate st_crate ini_L hy_crate (rest := []) rfl rfl (by decide) (by decide) (Nat.le_of_ble_eq_true rfl) (by decide) (by decide) dL_boxes_145 ?_
      refine J_il4 hx rfl rfl dL_boxes_148 ?_
      refine J_icmp_ne hx 176 dL_boxes_149 rfl (fun h26 => ?_) (fun h26 => ?_)
      · replace h := neg h h26
        refine J_iinc hx (v' := (l8 + 1)) rfl rfl (by decide) (hc_of rfl) rfl dL_boxes_176 ?_
        refine J_goto hx 131 dL_boxes_179 rfl ?_
        exact ih _ _ _ _ _  hW h
      · replace h := pos h h26
        refine J_al4 hx rfl rfl dL_boxes_152 ?_
        refine J_il hx rfl dL_boxes_153 ?_
        refine J_iconst hx (1 : Int32) dL_boxes_155 rfl ?_
        obtain ⟨r27, hr28, h⟩ := bnd h
        refine J_rdL hx (kP_crate hC hW (okS_e hr28)) ml_L_118 cw_crate st_crate ini_L hy_crate (rest := []) rfl rfl (by decide) (by decide) (Nat.le_of_ble_eq_true rfl) (by decide) (by decide) dL_boxes_156 ?_
        refine J_if_ne hx 176 dL_boxes_159 rfl (fun h29 => ?_) (fun h29 => ?_)
        · replace h := neg h h29
          refine J_iinc hx (v' := (l8 + 1)) rfl rfl (by decide) (hc_of rfl) rfl dL_boxes_176 ?_
          refine J_goto hx 131 dL_boxes_179 rfl ?_
          exact ih _ _ _ _ _  hW h
        · replace h := pos h h29
          refine J_al4 hx rfl rfl dL_boxes_162 ?_
          refine J_il hx rfl dL_boxes_163 ?_
          refine J_bipush hx (8 : Int32) dL_boxes_165 rfl ?_
          obtain ⟨r30, hr31, h⟩ := bnd h
          refine J_rdL hx (kP_crate hC hW (okS_e hr31)) ml_L_118 cw_crate st_crate ini_L hy_crate (rest := []) rfl rfl (by decide) (by decide) (Nat.le_of_ble_eq_true rfl) (by decide) (by decide) dL_boxes_167 ?_
          refine J_il4 hx rfl rfl dL_boxes_170 ?_
          refine J_icmp_eq hx 176 dL_boxes_171 rfl (fun h32 => ?_) (fun h32 => ?_)
          · replace h := pos h h32
            refine J_iinc hx (v' := (l8 + 1)) rfl rfl (by decide) (hc_of rfl) rfl dL_boxes_176 ?_
            refine J_goto hx 131 dL_boxes_179 rfl ?_
            exact ih _ _ _ _ _  hW h
          · replace h := neg h h32
            refine J_iconst hx (0 : Int32) dL_boxes_174 rfl ?_
            obtain rfl := Option.some.inj h
            exact J_zretX (b := false) hx hr hW dL_boxes_175 (by decide) (by decide)
def sL_boxes_82 (w : Wl) (l1 : Int32) (l3 : Int32) (l4 : Int32) (s0 : Int32) : Option (Bool × Wl) := (sL_open w l1).bind (fun r1 => (if s0 = 0 then (if r1.1 = (-90200 : Int32) then (sO_crate r1.2 l1 (1 : Int32)).bind (fun r8 => (if l4 = 0 then (if r8 = (1 : Int32) then some (true, r1.2) else some (false, r1.2)) else (if r8 = (0 : Int32) then some (true, r1.2) else some (false, r1.2)))) else some (false, r1.2)) else sL_boxes_131 FU r1.2 l1 l3 r1.1 (0 : Int32)))
theorem tL_boxes_82 {X : Cx} {B : Bs} {sz : Nat} {r : (Bool × Wl)} (hx : Fx X cL_boxes 9 RL 9 1 6) (hC : GC (xΓ X) B) (htr : (xl X).stackTraces = false) (hr : Rt X (some .boolean) 1 6 (WX (xΓ X) B (some (.int (bI r.1))) r.2)) : ∀ (w : Wl) (l1 : Int32) (l3 : Int32) (l4 : Int32) (s0 : Int32) {G : Gf} (hW : Wd (xΓ X) B w G) (h : sL_boxes_82  w l1 l3 l4 s0 = some r), J X 9 G sz 0 0 82 [some (.ref (B.1 + 0)), some (.int l1), none, some (.int l3), some (.int l4), none, none, none, none] [.int s0] := by
  intro w l1 l3 l4 s0 G hW h
  unfold sL_boxes_82 at h
  refine J_is hx (by decide) (hc_of rfl) rfl dL_boxes_82 ?_
  refine J_al4 hx rfl rfl dL_boxes_84 ?_
  refine J_il4 hx rfl rfl dL_boxes_85 ?_
  obtain ⟨r1, hr2, h⟩ := bnd h
  refine J_callSW hx (kL_open htr hC hW hr2) ml_L_131 cw_open st_open ini_L hy_open (rest := []) rfl rfl (by decide) (by decide) (Nat.le_of_ble_eq_true rfl) (by decide) (by decide) dL_boxes_86 fun x1 G3 z5 hh => ?_
  obtain ⟨rfl, hW4⟩ := hh
  show J X 9 G3 z5 1 6 89 [some (.ref (B.1 + 0)), some (.int l1), none, some (.int l3), some (.int l4), none, some (.int s0), none, none] [.int r1.1]
  refine J_is hx (by decide) (hc_of rfl) rfl dL_boxes_89 ?_
  refine J_il hx rfl dL_boxes_91 ?_
  refine J_if_ne hx 128 dL_boxes_93 rfl (fun h6 => ?_) (fun h6 => ?_)
  · replace h := neg h h6
    refine J_iconst hx (0 : Int32) dL_boxes_128 rfl ?_
    refine J_is hx (by decide) (hc_of rfl) rfl dL_boxes_129 ?_
    refine J_lw (ls' := [some (.ref (B.1 + 0)), some (.int l1), none, some (.int l3), none, none, none, some (.int r1.1), some (.int (0 : Int32))]) (lwS (lwS (lwN (lwS (lwN (lwN (lwN (lwS (lwS lwZ))))))))) ?_
    exact tL_boxes_131 hx hC htr hr _ _ _ _ _ _  hW4 h
  · replace h := pos h h6
    refine J_il hx rfl dL_boxes_96 ?_
    refine J_ldc hx cn_L_20 dL_boxes_98 ?_
    refine J_icmp_ne hx 126 dL_boxes_100 rfl (fun h7 => ?_) (fun h7 => ?_)
    · replace h := neg h h7
      refine J_iconst hx (0 : Int32) dL_boxes_126 rfl ?_
      obtain rfl := Option.some.inj h
      exact J_zretX (b := false) hx hr hW4 dL_boxes_127 (by decide) (by decide)
    · replace h := pos h h7
      refine J_al4 hx rfl rfl dL_boxes_103 ?_
      refine J_il4 hx rfl rfl dL_boxes_104 ?_
      refine J_iconst hx (1 : Int32) dL_boxes_105 rfl ?_
      obtain ⟨r8, hr9, h⟩ := bnd h
      refine J_rdL hx (kP_crate hC hW4 (okS_e hr9)) ml_L_118 cw_crate st_crate ini_L hy_crate (rest := []) rfl rfl (by decide) (by decide) (Nat.le_of_ble_eq_true rfl) (by decide) (by decide) dL_boxes_106 ?_
      refine J_il hx rfl dL_boxes_109 ?_
      refine J_if_eq hx 118 dL_boxes_111 rfl (fun h10 => ?_) (fun h10 => ?_)
      · replace h := pos h h10
        refine J_iconst hx (1 : Int32) dL_boxes_118 rfl ?_
        refine J_icmp_ne hx 126 dL_boxes_119 rfl (fun h11 => ?_) (fun h11 => ?_)
        · replace h := neg h h11
          refine J_iconst hx (0 : Int32) dL_boxes_126 rfl ?_
          obtain rfl := Option.some.inj h
          exact J_zretX (b := false) hx hr hW4 dL_boxes_127 (by decide) (by decide)
        · replace h := pos h h11
          refine J_iconst hx (1 : Int32) dL_boxes_122 rfl ?_
          refine J_goto hx 127 dL_boxes_123 rfl ?_
          obtain rfl := Option.some.inj h
          exact J_zretX (b := true) hx hr hW4 dL_boxes_127 (by decide) (by decide)
      · replace h := neg h h10
        refine J_iconst hx (0 : Int32) dL_boxes_114 rfl ?_
        refine J_goto hx 119 dL_boxes_115 rfl ?_
        refine J_icmp_ne hx 126 dL_boxes_119 rfl (fun h12 => ?_) (fun h12 => ?_)
        · replace h := neg h h12
          refine J_iconst hx (0 : Int32) dL_boxes_126 rfl ?_
          obtain rfl := Option.some.inj h
          exact J_zretX (b := false) hx hr hW4 dL_boxes_127 (by decide) (by decide)
        · replace h := pos h h12
          refine J_iconst hx (1 : Int32) dL_boxes_122 rfl ?_
          refine J_goto hx 127 dL_boxes_123 rfl ?_
          obtain rfl := Option.some.inj h
          exact J_zretX (b := true) hx hr hW4 dL_boxes_127 (by decide) (by decide)
def sL_boxes_38 (w : Wl) (l1 : Int32) (l2 : Int32) (l3 : Int32) (l4 : Int32) (s0 : Int32) : Option (Bool × Wl) := (sL_low w l2 (2 : Int32)).bind (fun r1 => (if r1 = 0 then (if l4 = 0 then sL_boxes_82 w l1 l3 l4 (0 : Int32) else (if s0 = 0 then sL_boxes_82 w l1 l3 l4 (0 : Int32) else (sO_crate w l1 (8 : Int32)).bind (fun r7 => (sO_crate w l1 (9 : Int32)).bind (fun r9 => (if l3 < (r7 + r9) then sL_boxes_82 w l1 l3 l4 (0 : Int32) else sL_boxes_82 w l1 l3 l4 (1 : Int32)))))) else (if l4 = 0 then sL_boxes_256 FU w l1 l3 (1 : Int32) (0 : Int32) else sL_boxes_256 FU w l1 l3 (0 : Int32) (0 : Int32))))
theorem tL_boxes_38 {X : Cx} {B : Bs} {sz : Nat} {r : (Bool × Wl)} (hx : Fx X cL_boxes 9 RL 9 1 6) (hC : GC (xΓ X) B) (htr : (xl X).stackTraces = false) (hr : Rt X (some .boolean) 1 6 (WX (xΓ X) B (some (.int (bI r.1))) r.2)) : ∀ (w : Wl) (l1 : Int32) (l2 : Int32) (l3 : Int32) (l4 : Int32) (s0 : Int32) {G : Gf} (hW : Wd (xΓ X) B w G) (h : sL_boxes_38  w l1 l2 l3 l4 s0 = some r), J X 9 G sz 0 0 38 [some (.ref (B.1 + 0)), some (.int l1), some (.int l2), some (.int l3), some (.int l4), none, none, none, none] [.int s0] := by
  intro w l1 l2 l3 l4 s0 G hW h
  unfold sL_boxes_38 at h
  refine J_is hx (by decide) (hc_of rfl) rfl dL_boxes_38 ?_
  refine J_il4 hx rfl rfl dL_boxes_40 ?_
  refine J_iconst hx (2 : Int32) dL_boxes_41 rfl ?_
  obtain ⟨r1, hr2, h⟩ := bnd h
  refine J_rdS hx (kL_low  hW hr2) ml_L_128 lk_L_low (rest := []) rfl rfl (by decide) (by decide) (Nat.le_of_ble_eq_true rfl) (by decide) (by decide) dL_boxes_42 ?_
  refine J_if_ne hx 241 dL_boxes_45 rfl (fun h3 => ?_) (fun h3 => ?_)
  · replace h := neg h h3
    refine J_il hx rfl dL_boxes_241 ?_
    refine J_if_ne hx 250 dL_boxes_243 rfl (fun h4 => ?_) (fun h4 => ?_)
    · replace h := neg h h4
      refine J_iconst hx (0 : Int32) dL_boxes_250 rfl ?_
      refine J_is hx (by decide) (hc_of rfl) rfl dL_boxes_251 ?_
      refine J_iconst hx (0 : Int32) dL_boxes_253 rfl ?_
      refine J_is hx (by decide) (hc_of rfl) rfl dL_boxes_254 ?_
      refine J_lw (ls' := [some (.ref (B.1 + 0)), some (.int l1), none, some (.int l3), none, none, some (.int (0 : Int32)), some (.int (0 : Int32)), none]) (lwS (lwS (lwN (lwS (lwN (lwN (lwS (lwS (lwN lwZ))))))))) ?_
      exact tL_boxes_256 hx hC htr hr _ _ _ _ _ _  hW h
    · replace h := pos h h4
      refine J_iconst hx (1 : Int32) dL_boxes_246 rfl ?_
      refine J_goto hx 251 dL_boxes_247 rfl ?_
      refine J_is hx (by decide) (hc_of rfl) rfl dL_boxes_251 ?_
      refine J_iconst hx (0 : Int32) dL_boxes_253 rfl ?_
      refine J_is hx (by decide) (hc_of rfl) rfl dL_boxes_254 ?_
      refine J_lw (ls' := [some (.ref (B.1 + 0)), some (.int l1), none, some (.int l3), none, none, some (.int (1 : Int32)), some (.int (0 : Int32)), none]) (lwS (lwS (lwN (lwS (lwN (lwN (lwS (lwS (lwN lwZ))))))))) ?_
      exact tL_boxes_256 hx hC htr hr _ _ _ _ _ _  hW h
  · replace h := pos h h3
    refine J_il hx rfl dL_boxes_48 ?_
    refine J_if_eq hx 81 dL_boxes_50 rfl (fun h5 => ?_) (fun h5 => ?_)
    · replace h := pos h h5
      refine J_iconst hx (0 : Int32) dL_boxes_81 rfl ?_
      refine J_lw (ls' := [some (.ref (B.1 + 0)), some (.int l1), none, some (.int l3), some (.int l4), none, none, none, none]) (lwS (lwS (lwN (lwS (lwS (lwN (lwN (lwN (lwN lwZ))))))))) ?_
      exact tL_boxes_82 hx hC htr hr _ _ _ _ _  hW h
    · replace h := neg h h5
      refine J_il hx rfl dL_boxes_53 ?_
      refine J_if_eq hx 81 dL_boxes_55 rfl (fun h6 => ?_) (fun h6 => ?_)
      · replace h := pos h h6
        refine J_iconst hx (0 : Int32) dL_boxes_81 rfl ?_
        refine J_lw (ls' := [some (.ref (B.1 + 0)), some (.int l1), none, some (.int l3), some (.int l4), none, none, none, none]) (lwS (lwS (lwN (lwS (lwS (lwN (lwN (lwN (lwN lwZ))))))))) ?_
        exact tL_boxes_82 hx hC htr hr _ _ _ _ _  hW h
      · replace h := neg h h6
        refine J_il4 hx rfl rfl dL_boxes_58 ?_
        refine J_al4 hx rfl rfl dL_boxes_59 ?_
        refine J_il4 hx rfl rfl dL_boxes_60 ?_
        refine J_bipush hx (8 : Int32) dL_boxes_61 rfl ?_
        obtain ⟨r7, hr8, h⟩ := bnd h
        refine J_rdL hx (kP_crate hC hW (okS_e hr8)) ml_L_118 cw_crate st_crate ini_L hy_crate (rest := [.int l3]) rfl rfl (by decide) (by decide) (Nat.le_of_ble_eq_true rfl) (by decide) (by decide) dL_boxes_63 ?_
        refine J_al4 hx rfl rfl dL_boxes_66 ?_
        refine J_il4 hx rfl rfl dL_boxes_67 ?_
        refine J_bipush hx (9 : Int32) dL_boxes_68 rfl ?_
        obtain ⟨r9, hr10, h⟩ := bnd h
        refine J_rdL hx (kP_crate hC hW (okS_e hr10)) ml_L_118 cw_crate st_crate ini_L hy_crate (rest := [.int r7, .int l3]) rfl rfl (by decide) (by decide) (Nat.le_of_ble_eq_true rfl) (by decide) (by decide) dL_boxes_70 ?_
        refine J_iadd hx dL_boxes_73 ?_
        refine J_icmp_lt hx 81 dL_boxes_74 rfl (fun h11 => ?_) (fun h11 => ?_)
        · replace h := pos h h11
          refine J_iconst hx (0 : Int32) dL_boxes_81 rfl ?_
          refine J_lw (ls' := [some (.ref (B.1 + 0)), some (.int l1), none, some (.int l3), some (.int l4), none, none, none, none]) (lwS (lwS (lwN (lwS (lwS (lwN (lwN (lwN (lwN lwZ))))))))) ?_
          exact tL_boxes_82 hx hC htr hr _ _ _ _ _  hW h
        · replace h := neg h h11
          refine J_iconst hx (1 : Int32) dL_boxes_77 rfl ?_
          refine J_goto hx 82 dL_boxes_78 rfl ?_
          refine J_lw (ls' := [some (.ref (B.1 + 0)), some (.int l1), none, some (.int l3), some (.int l4), none, none, none, none]) (lwS (lwS (lwN (lwS (lwS (lwN (lwN (lwN (lwN lwZ))))))))) ?_
          exact tL_boxes_82 hx hC htr hr _ _ _ _ _  hW h
def sL_boxes_20 (w : Wl) (l1 : Int32) (l2 : Int32) (l3 : Int32) (s0 : Int32) : Option (Bool × Wl) := (sO_crate w l1 (13 : Int32)).bind (fun r1 => (if r1 = (1 : Int32) then sL_boxes_38 w l1 l2 l3 s0 (1 : Int32) else sL_boxes_38 w l1 l2 l3 s0 (0 : Int32)))
theorem tL_boxes_20 {X : Cx} {B : Bs} {sz : Nat} {r : (Bool × Wl)} (hx : Fx X cL_boxes 9 RL 9 1 6) (hC : GC (xΓ X) B) (htr : (xl X).stackTraces = false) (hr : Rt X (some .boolean) 1 6 (WX (xΓ X) B (some (.int (bI r.1))) r.2)) : ∀ (w : Wl) (l1 : Int32) (l2 : Int32) (l3 : Int32) (s0 : Int32) {G : Gf} (hW : Wd (xΓ X) B w G) (h : sL_boxes_20  w l1 l2 l3 s0 = some r), J X 9 G sz 0 0 20 [some (.ref (B.1 + 0)), some (.int l1), some (.int l2), some (.int l3), none, none, none, none, none] [.int s0] := by
  intro w l1 l2 l3 s0 G hW h
  unfold sL_boxes_20 at h
  refine J_is hx (by decide) (hc_of rfl) rfl dL_boxes_20 ?_
  refine J_al4 hx rfl rfl dL_boxes_22 ?_
  refine J_il4 hx rfl rfl dL_boxes_23 ?_
  refine J_bipush hx (13 : Int32) dL_boxes_24 rfl ?_
  obtain ⟨r1, hr2, h⟩ := bnd h
  refine J_rdL hx (kP_crate hC hW (okS_e hr2)) ml_L_118 cw_crate st_crate ini_L hy_crate (rest := []) rfl rfl (by decide) (by decide) (Nat.le_of_ble_eq_true rfl) (by decide) (by decide) dL_boxes_26 ?_
  refine J_iconst hx (1 : Int32) dL_boxes_29 rfl ?_
  refine J_icmp_ne hx 37 dL_boxes_30 rfl (fun h3 => ?_) (fun h3 => ?_)
  · replace h := neg h h3
    refine J_iconst hx (0 : Int32) dL_boxes_37 rfl ?_
    exact tL_boxes_38 hx hC htr hr _ _ _ _ _ _  hW h
  · replace h := pos h h3
    refine J_iconst hx (1 : Int32) dL_boxes_33 rfl ?_
    refine J_goto hx 38 dL_boxes_34 rfl ?_
    exact tL_boxes_38 hx hC htr hr _ _ _ _ _ _  hW h
def sL_boxes (w : Wl) (l1 : Int32) (l2 : Int32) : Option (Bool × Wl) := (sO_whole w (0 : Int32)).bind (fun r1 => (sO_crate w l1 (1 : Int32)).bind (fun r3 => (if r3 = 0 then sL_boxes_20 w l1 l2 r1 (1 : Int32) else sL_boxes_20 w l1 l2 r1 (0 : Int32))))
theorem kL_boxes {l : Launch} {Γ : Gl} {B : Bs} {w : Wl} {G : Gf} {sz : Nat} {l1 : Int32} {l2 : Int32} {r : (Bool × Wl)} (hC : GC Γ B) (htr : l.stackTraces = false) (hW : Wd Γ B w G) (h : sL_boxes w l1 l2 = some r) : Ct l Γ yL_boxes cL_boxes 9 (some .boolean) 9 [.ref (B.1 + 0), .int l1, .int l2] G sz (WX Γ B (some (.int (bI r.1))) r.2) 1 6 := by
  refine Ct.of rfl (Nat.le_of_ble_eq_true rfl) fun X hx hr hl hΓ hnm => ?_
  subst hl hΓ
  show J X 9 G sz 0 0 0 [some (.ref (B.1 + 0)), some (.int l1), some (.int l2), none, none, none, none, none, none] []
  unfold sL_boxes at h
  refine J_al4 hx rfl rfl dL_boxes_0 ?_
  refine J_iconst hx (0 : Int32) dL_boxes_1 rfl ?_
  obtain ⟨r1, hr2, h⟩ := bnd h
  refine J_rdL hx (kP_whole hC hW (okS_e hr2)) ml_L_110 cw_whole st_whole ini_L hy_whole (rest := []) rfl rfl (by decide) (by decide) (Nat.le_of_ble_eq_true rfl) (by decide) (by decide) dL_boxes_2 ?_
  refine J_is4 hx rfl (by decide) (hc_of rfl) rfl dL_boxes_5 ?_
  refine J_al4 hx rfl rfl dL_boxes_6 ?_
  refine J_il4 hx rfl rfl dL_boxes_7 ?_
  refine J_iconst hx (1 : Int32) dL_boxes_8 rfl ?_
  obtain ⟨r3, hr4, h⟩ := bnd h
  refine J_rdL hx (kP_crate hC hW (okS_e hr4)) ml_L_118 cw_crate st_crate ini_L hy_crate (rest := []) rfl rfl (by decide) (by decide) (Nat.le_of_ble_eq_true rfl) (by decide) (by decide) dL_boxes_9 ?_
  refine J_if_ne hx 19 dL_boxes_12 rfl (fun h5 => ?_) (fun h5 => ?_)
  · replace h := neg h h5
    refine J_iconst hx (0 : Int32) dL_boxes_19 rfl ?_
    exact tL_boxes_20 hx hC htr hr _ _ _ _ _  hW h
  · replace h := pos h h5
    refine J_iconst hx (1 : Int32) dL_boxes_15 rfl ?_
    refine J_goto hx 20 dL_boxes_16 rfl ?_
    exact tL_boxes_20 hx hC htr hr _ _ _ _ _  hW h
theorem dL_moves_0 : decode cL_moves 0 = .ok (.iload 4, 2) := by decide +kernel
theorem dL_moves_2 : decode cL_moves 2 = .ok (.iconst 3, 1) := by decide +kernel
theorem dL_moves_3 : decode cL_moves 3 = .ok (.invokestatic 128, 3) := by decide +kernel
theorem dL_moves_6 : decode cL_moves 6 = .ok (.istore 5, 2) := by decide +kernel
theorem dL_moves_8 : decode cL_moves 8 = .ok (.iload 5, 2) := by decide +kernel
theorem dL_moves_10 : decode cL_moves 10 = .ok (.ifCond .ne 209, 3) := by decide +kernel
theorem dL_moves_13 : decode cL_moves 13 = .ok (.aload_n 0, 1) := by decide +kernel
theorem dL_moves_14 : decode cL_moves 14 = .ok (.iload_n 1, 1) := by decide +kernel
theorem dL_moves_15 : decode cL_moves 15 = .ok (.iconst 3, 1) := by decide +kernel
theorem dL_moves_16 : decode cL_moves 16 = .ok (.invokestatic 118, 3) := by decide +kernel
theorem dL_moves_19 : decode cL_moves 19 = .ok (.istore 6, 2) := by decide +kernel
theorem dL_moves_21 : decode cL_moves 21 = .ok (.iload_n 1, 1) := by decide +kernel
theorem dL_moves_22 : decode cL_moves 22 = .ok (.iload_n 2, 1) := by decide +kernel
theorem dL_moves_23 : decode cL_moves 23 = .ok (.if_icmp .eq 52, 3) := by decide +kernel
theorem dL_moves_26 : decode cL_moves 26 = .ok (.aload_n 0, 1) := by decide +kernel
theorem dL_moves_27 : decode cL_moves 27 = .ok (.iload_n 1, 1) := by decide +kernel
theorem dL_moves_28 : decode cL_moves 28 = .ok (.iconst 1, 1) := by decide +kernel
theorem dL_moves_29 : decode cL_moves 29 = .ok (.invokestatic 118, 3) := by decide +kernel
theorem dL_moves_32 : decode cL_moves 32 = .ok (.ifCond .ne 43, 3) := by decide +kernel
theorem dL_moves_35 : decode cL_moves 35 = .ok (.aload_n 0, 1) := by decide +kernel
theorem dL_moves_36 : decode cL_moves 36 = .ok (.iload_n 1, 1) := by decide +kernel
theorem dL_moves_37 : decode cL_moves 37 = .ok (.iconst 2, 1) := by decide +kernel
theorem dL_moves_38 : decode cL_moves 38 = .ok (.invokestatic 118, 3) := by decide +kernel
theorem dL_moves_41 : decode cL_moves 41 = .ok (.iconst (-1), 1) := by decide +kernel
theorem dL_moves_42 : decode cL_moves 42 = .ok (.if_icmp .ne 33, 3) := by decide +kernel
theorem dL_moves_45 : decode cL_moves 45 = .ok (.iload 6, 2) := by decide +kernel
theorem dL_moves_47 : decode cL_moves 47 = .ok (.ifCond .lt 28, 3) := by decide +kernel
theorem dL_moves_50 : decode cL_moves 50 = .ok (.aload_n 0, 1) := by decide +kernel
theorem dL_moves_51 : decode cL_moves 51 = .ok (.iload_n 2, 1) := by decide +kernel
theorem dL_moves_52 : decode cL_moves 52 = .ok (.iconst 1, 1) := by decide +kernel
theorem dL_moves_53 : decode cL_moves 53 = .ok (.invokestatic 118, 3) := by decide +kernel
theorem dL_moves_56 : decode cL_moves 56 = .ok (.iconst 1, 1) := by decide +kernel
theorem dL_moves_57 : decode cL_moves 57 = .ok (.if_icmp .ne 18, 3) := by decide +kernel
theorem dL_moves_60 : decode cL_moves 60 = .ok (.aload_n 0, 1) := by decide +kernel
theorem dL_moves_61 : decode cL_moves 61 = .ok (.iload_n 2, 1) := by decide +kernel
theorem dL_moves_62 : decode cL_moves 62 = .ok (.iconst 3, 1) := by decide +kernel
theorem dL_moves_63 : decode cL_moves 63 = .ok (.invokestatic 118, 3) := by decide +kernel
theorem dL_moves_66 : decode cL_moves 66 = .ok (.iload 6, 2) := by decide +kernel
theorem dL_moves_68 : decode cL_moves 68 = .ok (.if_icmp .ne 7, 3) := by decide +kernel
theorem dL_moves_71 : decode cL_moves 71 = .ok (.iconst 1, 1) := by decide +kernel
theorem dL_moves_72 : decode cL_moves 72 = .ok (.goto 4, 3) := by decide +kernel
theorem dL_moves_75 : decode cL_moves 75 = .ok (.iconst 0, 1) := by decide +kernel
theorem dL_moves_76 : decode cL_moves 76 = .ok (.istore 7, 2) := by decide +kernel
theorem dL_moves_78 : decode cL_moves 78 = .ok (.aload_n 0, 1) := by decide +kernel
theorem dL_moves_79 : decode cL_moves 79 = .ok (.iload_n 2, 1) := by decide +kernel
theorem dL_moves_80 : decode cL_moves 80 = .ok (.bipush 11, 2) := by decide +kernel
theorem dL_moves_82 : decode cL_moves 82 = .ok (.invokestatic 118, 3) := by decide +kernel
theorem dL_moves_85 : decode cL_moves 85 = .ok (.istore 8, 2) := by decide +kernel
theorem dL_moves_87 : decode cL_moves 87 = .ok (.aload_n 0, 1) := by decide +kernel
theorem dL_moves_88 : decode cL_moves 88 = .ok (.iload_n 1, 1) := by decide +kernel
theorem dL_moves_89 : decode cL_moves 89 = .ok (.iload_n 2, 1) := by decide +kernel
theorem dL_moves_90 : decode cL_moves 90 = .ok (.invokestatic 138, 3) := by decide +kernel
theorem dL_moves_93 : decode cL_moves 93 = .ok (.istore 9, 2) := by decide +kernel
theorem dL_moves_95 : decode cL_moves 95 = .ok (.iload 7, 2) := by decide +kernel
theorem dL_moves_97 : decode cL_moves 97 = .ok (.ifCond .ne 16, 3) := by decide +kernel
theorem dL_moves_100 : decode cL_moves 100 = .ok (.iload 9, 2) := by decide +kernel
theorem dL_moves_102 : decode cL_moves 102 = .ok (.ldc 20, 2) := by decide +kernel
theorem dL_moves_104 : decode cL_moves 104 = .ok (.if_icmp .ne 7, 3) := by decide +kernel
theorem dL_moves_107 : decode cL_moves 107 = .ok (.iconst 1, 1) := by decide +kernel
theorem dL_moves_108 : decode cL_moves 108 = .ok (.goto 4, 3) := by decide +kernel
theorem dL_moves_111 : decode cL_moves 111 = .ok (.iconst 0, 1) := by decide +kernel
theorem dL_moves_112 : decode cL_moves 112 = .ok (.ireturn, 1) := by decide +kernel
theorem dL_moves_113 : decode cL_moves 113 = .ok (.iload 9, 2) := by decide +kernel
theorem dL_moves_115 : decode cL_moves 115 = .ok (.ifCond .le 102, 3) := by decide +kernel
theorem dL_moves_118 : decode cL_moves 118 = .ok (.aload_n 0, 1) := by decide +kernel
theorem dL_moves_119 : decode cL_moves 119 = .ok (.iload_n 1, 1) := by decide +kernel
theorem dL_moves_120 : decode cL_moves 120 = .ok (.iconst 2, 1) := by decide +kernel
theorem dL_moves_121 : decode cL_moves 121 = .ok (.invokestatic 118, 3) := by decide +kernel
theorem dL_moves_124 : decode cL_moves 124 = .ok (.iload_n 2, 1) := by decide +kernel
theorem dL_moves_125 : decode cL_moves 125 = .ok (.if_icmp .ne 92, 3) := by decide +kernel
theorem dL_moves_128 : decode cL_moves 128 = .ok (.aload_n 0, 1) := by decide +kernel
theorem dL_moves_129 : decode cL_moves 129 = .ok (.iload_n 1, 1) := by decide +kernel
theorem dL_moves_130 : decode cL_moves 130 = .ok (.iconst 3, 1) := by decide +kernel
theorem dL_moves_131 : decode cL_moves 131 = .ok (.invokestatic 118, 3) := by decide +kernel
theorem dL_moves_134 : decode cL_moves 134 = .ok (.iload 6, 2) := by decide +kernel
theorem dL_moves_136 : decode cL_moves 136 = .ok (.if_icmp .ne 81, 3) := by decide +kernel
theorem dL_moves_139 : decode cL_moves 139 = .ok (.aload_n 0, 1) := by decide +kernel
theorem dL_moves_140 : decode cL_moves 140 = .ok (.iload_n 2, 1) := by decide +kernel
theorem dL_moves_141 : decode cL_moves 141 = .ok (.bipush 11, 2) := by decide +kernel
theorem dL_moves_143 : decode cL_moves 143 = .ok (.invokestatic 118, 3) := by decide +kernel
theorem dL_moves_146 : decode cL_moves 146 = .ok (.iload 8, 2) := by decide +kernel
theorem dL_moves_148 : decode cL_moves 148 = .ok (.iconst 1, 1) := by decide +kernel
theorem dL_moves_149 : decode cL_moves 149 = .ok (.iadd, 1) := by decide +kernel
theorem dL_moves_150 : decode cL_moves 150 = .ok (.aload_n 0, 1) := by decide +kernel
theorem dL_moves_151 : decode cL_moves 151 = .ok (.iload_n 1, 1) := by decide +kernel
theorem dL_moves_152 : decode cL_moves 152 = .ok (.bipush 11, 2) := by decide +kernel
theorem dL_moves_154 : decode cL_moves 154 = .ok (.invokestatic 118, 3) := by decide +kernel
theorem dL_moves_157 : decode cL_moves 157 = .ok (.iadd, 1) := by decide +kernel
theorem dL_moves_158 : decode cL_moves 158 = .ok (.if_icmp .ne 59, 3) := by decide +kernel
theorem dL_moves_161 : decode cL_moves 161 = .ok (.aload_n 0, 1) := by decide +kernel
theorem dL_moves_162 : decode cL_moves 162 = .ok (.iload_n 1, 1) := by decide +kernel
theorem dL_moves_163 : decode cL_moves 163 = .ok (.bipush 13, 2) := by decide +kernel
theorem dL_moves_165 : decode cL_moves 165 = .ok (.invokestatic 118, 3) := by decide +kernel
theorem dL_moves_168 : decode cL_moves 168 = .ok (.iconst 1, 1) := by decide +kernel
theorem dL_moves_169 : decode cL_moves 169 = .ok (.if_icmp .ne 48, 3) := by decide +kernel
theorem dL_moves_172 : decode cL_moves 172 = .ok (.iload 4, 2) := by decide +kernel
theorem dL_moves_174 : decode cL_moves 174 = .ok (.iconst 3, 1) := by decide +kernel
theorem dL_moves_175 : decode cL_moves 175 = .ok (.ishr, 1) := by decide +kernel
theorem dL_moves_176 : decode cL_moves 176 = .ok (.iconst 2, 1) := by decide +kernel
theorem dL_moves_177 : decode cL_moves 177 = .ok (.invokestatic 128, 3) := by decide +kernel
theorem dL_moves_180 : decode cL_moves 180 = .ok (.ifCond .eq 33, 3) := by decide +kernel
theorem dL_moves_183 : decode cL_moves 183 = .ok (.aload_n 0, 1) := by decide +kernel
theorem dL_moves_184 : decode cL_moves 184 = .ok (.iload_n 1, 1) := by decide +kernel
theorem dL_moves_185 : decode cL_moves 185 = .ok (.invokestatic 140, 3) := by decide +kernel
theorem dL_moves_188 : decode cL_moves 188 = .ok (.iload_n 2, 1) := by decide +kernel
theorem dL_moves_189 : decode cL_moves 189 = .ok (.if_icmp .ne 28, 3) := by decide +kernel
theorem dL_moves_192 : decode cL_moves 192 = .ok (.aload_n 0, 1) := by decide +kernel
theorem dL_moves_193 : decode cL_moves 193 = .ok (.iload_n 1, 1) := by decide +kernel
theorem dL_moves_194 : decode cL_moves 194 = .ok (.iconst 2, 1) := by decide +kernel
theorem dL_moves_195 : decode cL_moves 195 = .ok (.invokestatic 118, 3) := by decide +kernel
theorem dL_moves_198 : decode cL_moves 198 = .ok (.iconst (-1), 1) := by decide +kernel
theorem dL_moves_199 : decode cL_moves 199 = .ok (.if_icmp .ne 18, 3) := by decide +kernel
theorem dL_moves_202 : decode cL_moves 202 = .ok (.aload_n 0, 1) := by decide +kernel
theorem dL_moves_203 : decode cL_moves 203 = .ok (.iload_n 1, 1) := by decide +kernel
theorem dL_moves_204 : decode cL_moves 204 = .ok (.iconst 3, 1) := by decide +kernel
theorem dL_moves_205 : decode cL_moves 205 = .ok (.invokestatic 118, 3) := by decide +kernel
theorem dL_moves_208 : decode cL_moves 208 = .ok (.iload 6, 2) := by decide +kernel
theorem dL_moves_210 : decode cL_moves 210 = .ok (.if_icmp .ne 7, 3) := by decide +kernel
theorem dL_moves_213 : decode cL_moves 213 = .ok (.iconst 1, 1) := by decide +kernel
theorem dL_moves_214 : decode cL_moves 214 = .ok (.goto 4, 3) := by decide +kernel
theorem dL_moves_217 : decode cL_moves 217 = .ok (.iconst 0, 1) := by decide +kernel
theorem dL_moves_218 : decode cL_moves 218 = .ok (.ireturn, 1) := by decide +kernel
theorem dL_moves_219 : decode cL_moves 219 = .ok (.iload 5, 2) := by decide +kernel
theorem dL_moves_221 : decode cL_moves 221 = .ok (.iconst 1, 1) := by decide +kernel
theorem dL_moves_222 : decode cL_moves 222 = .ok (.if_icmp .ne 115, 3) := by decide +kernel
theorem dL_moves_225 : decode cL_moves 225 = .ok (.aload_n 0, 1) := by decide +kernel
theorem dL_moves_226 : decode cL_moves 226 = .ok (.iload_n 1, 1) := by decide +kernel
theorem dL_moves_227 : decode cL_moves 227 = .ok (.iconst 2, 1) := by decide +kernel
theorem dL_moves_228 : decode cL_moves 228 = .ok (.invokestatic 118, 3) := by decide +kernel
theorem dL_moves_231 : decode cL_moves 231 = .ok (.istore 6, 2) := by decide +kernel
theorem dL_moves_233 : decode cL_moves 233 = .ok (.iload 6, 2) := by decide +kernel
theorem dL_moves_235 : decode cL_moves 235 = .ok (.ifCond .lt 27, 3) := by decide +kernel
theorem dL_moves_238 : decode cL_moves 238 = .ok (.aload_n 0, 1) := by decide +kernel
theorem dL_moves_239 : decode cL_moves 239 = .ok (.iload_n 1, 1) := by decide +kernel
theorem dL_moves_240 : decode cL_moves 240 = .ok (.iconst 1, 1) := by decide +kernel
theorem dL_moves_241 : decode cL_moves 241 = .ok (.invokestatic 118, 3) := by decide +kernel
theorem dL_moves_244 : decode cL_moves 244 = .ok (.ifCond .ne 18, 3) := by decide +kernel
theorem dL_moves_247 : decode cL_moves 247 = .ok (.aload_n 0, 1) := by decide +kernel
theorem dL_moves_248 : decode cL_moves 248 = .ok (.iload_n 1, 1) := by decide +kernel
theorem dL_moves_249 : decode cL_moves 249 = .ok (.bipush 13, 2) := by decide +kernel
theorem dL_moves_251 : decode cL_moves 251 = .ok (.invokestatic 118, 3) := by decide +kernel
theorem dL_moves_254 : decode cL_moves 254 = .ok (.iconst 1, 1) := by decide +kernel
theorem dL_moves_255 : decode cL_moves 255 = .ok (.if_icmp .ne 7, 3) := by decide +kernel
theorem dL_moves_258 : decode cL_moves 258 = .ok (.iconst 1, 1) := by decide +kernel
theorem dL_moves_259 : decode cL_moves 259 = .ok (.goto 4, 3) := by decide +kernel
theorem dL_moves_262 : decode cL_moves 262 = .ok (.iconst 0, 1) := by decide +kernel
theorem dL_moves_263 : decode cL_moves 263 = .ok (.istore 7, 2) := by decide +kernel
theorem dL_moves_265 : decode cL_moves 265 = .ok (.aload_n 0, 1) := by decide +kernel
theorem dL_moves_266 : decode cL_moves 266 = .ok (.iload_n 1, 1) := by decide +kernel
theorem dL_moves_267 : decode cL_moves 267 = .ok (.invokestatic 140, 3) := by decide +kernel
theorem dL_moves_270 : decode cL_moves 270 = .ok (.istore 8, 2) := by decide +kernel
theorem dL_moves_272 : decode cL_moves 272 = .ok (.iload 7, 2) := by decide +kernel
theorem dL_moves_274 : decode cL_moves 274 = .ok (.ifCond .eq 39, 3) := by decide +kernel
theorem dL_moves_277 : decode cL_moves 277 = .ok (.iload 8, 2) := by decide +kernel
theorem dL_moves_279 : decode cL_moves 279 = .ok (.iload 6, 2) := by decide +kernel
theorem dL_moves_281 : decode cL_moves 281 = .ok (.if_icmp .ne 28, 3) := by decide +kernel
theorem dL_moves_284 : decode cL_moves 284 = .ok (.aload_n 0, 1) := by decide +kernel
theorem dL_moves_285 : decode cL_moves 285 = .ok (.iload_n 1, 1) := by decide +kernel
theorem dL_moves_286 : decode cL_moves 286 = .ok (.iconst 2, 1) := by decide +kernel
theorem dL_moves_287 : decode cL_moves 287 = .ok (.invokestatic 118, 3) := by decide +kernel
theorem dL_moves_290 : decode cL_moves 290 = .ok (.iconst (-1), 1) := by decide +kernel
theorem dL_moves_291 : decode cL_moves 291 = .ok (.if_icmp .ne 18, 3) := by decide +kernel
theorem dL_moves_294 : decode cL_moves 294 = .ok (.aload_n 0, 1) := by decide +kernel
theorem dL_moves_295 : decode cL_moves 295 = .ok (.iload_n 1, 1) := by decide +kernel
theorem dL_moves_296 : decode cL_moves 296 = .ok (.bipush 13, 2) := by decide +kernel
theorem dL_moves_298 : decode cL_moves 298 = .ok (.invokestatic 118, 3) := by decide +kernel
theorem dL_moves_301 : decode cL_moves 301 = .ok (.iconst 1, 1) := by decide +kernel
theorem dL_moves_302 : decode cL_moves 302 = .ok (.if_icmp .ne 7, 3) := by decide +kernel
theorem dL_moves_305 : decode cL_moves 305 = .ok (.iconst 1, 1) := by decide +kernel
theorem dL_moves_306 : decode cL_moves 306 = .ok (.goto 30, 3) := by decide +kernel
theorem dL_moves_309 : decode cL_moves 309 = .ok (.iconst 0, 1) := by decide +kernel
theorem dL_moves_310 : decode cL_moves 310 = .ok (.goto 26, 3) := by decide +kernel
theorem dL_moves_313 : decode cL_moves 313 = .ok (.iload 8, 2) := by decide +kernel
theorem dL_moves_315 : decode cL_moves 315 = .ok (.ldc 20, 2) := by decide +kernel
theorem dL_moves_317 : decode cL_moves 317 = .ok (.if_icmp .ne 18, 3) := by decide +kernel
theorem dL_moves_320 : decode cL_moves 320 = .ok (.aload_n 0, 1) := by decide +kernel
theorem dL_moves_321 : decode cL_moves 321 = .ok (.iload_n 1, 1) := by decide +kernel
theorem dL_moves_322 : decode cL_moves 322 = .ok (.iconst 2, 1) := by decide +kernel
theorem dL_moves_323 : decode cL_moves 323 = .ok (.invokestatic 118, 3) := by decide +kernel
theorem dL_moves_326 : decode cL_moves 326 = .ok (.iload 6, 2) := by decide +kernel
theorem dL_moves_328 : decode cL_moves 328 = .ok (.if_icmp .ne 7, 3) := by decide +kernel
theorem dL_moves_331 : decode cL_moves 331 = .ok (.iconst 1, 1) := by decide +kernel
theorem dL_moves_332 : decode cL_moves 332 = .ok (.goto 4, 3) := by decide +kernel
theorem dL_moves_335 : decode cL_moves 335 = .ok (.iconst 0, 1) := by decide +kernel
theorem dL_moves_336 : decode cL_moves 336 = .ok (.ireturn, 1) := by decide +kernel
theorem dL_moves_337 : decode cL_moves 337 = .ok (.aload_n 0, 1) := by decide +kernel
theorem dL_moves_338 : decode cL_moves 338 = .ok (.iload_n 3, 1) := by decide +kernel
theorem dL_moves_339 : decode cL_moves 339 = .ok (.iconst 4, 1) := by decide +kernel
theorem dL_moves_340 : decode cL_moves 340 = .ok (.invokestatic 115, 3) := by decide +kernel
theorem dL_moves_343 : decode cL_moves 343 = .ok (.istore 6, 2) := by decide +kernel
theorem dL_moves_345 : decode cL_moves 345 = .ok (.aload_n 0, 1) := by decide +kernel
theorem dL_moves_346 : decode cL_moves 346 = .ok (.iload_n 3, 1) := by decide +kernel
theorem dL_moves_347 : decode cL_moves 347 = .ok (.iconst 5, 1) := by decide +kernel
theorem dL_moves_348 : decode cL_moves 348 = .ok (.invokestatic 115, 3) := by decide +kernel
theorem dL_moves_351 : decode cL_moves 351 = .ok (.istore 7, 2) := by decide +kernel
theorem dL_moves_353 : decode cL_moves 353 = .ok (.iload 6, 2) := by decide +kernel
theorem dL_moves_355 : decode cL_moves 355 = .ok (.ifCond .lt 81, 3) := by decide +kernel
theorem dL_moves_358 : decode cL_moves 358 = .ok (.aload_n 0, 1) := by decide +kernel
theorem dL_moves_359 : decode cL_moves 359 = .ok (.iload_n 3, 1) := by decide +kernel
theorem dL_moves_360 : decode cL_moves 360 = .ok (.invokestatic 142, 3) := by decide +kernel
theorem dL_moves_363 : decode cL_moves 363 = .ok (.istore 8, 2) := by decide +kernel
theorem dL_moves_365 : decode cL_moves 365 = .ok (.aload_n 0, 1) := by decide +kernel
theorem dL_moves_366 : decode cL_moves 366 = .ok (.iload 6, 2) := by decide +kernel
theorem dL_moves_368 : decode cL_moves 368 = .ok (.iconst 1, 1) := by decide +kernel
theorem dL_moves_369 : decode cL_moves 369 = .ok (.invokestatic 118, 3) := by decide +kernel
theorem dL_moves_372 : decode cL_moves 372 = .ok (.iconst 1, 1) := by decide +kernel
theorem dL_moves_373 : decode cL_moves 373 = .ok (.if_icmp .ne 39, 3) := by decide +kernel
theorem dL_moves_376 : decode cL_moves 376 = .ok (.iload 8, 2) := by decide +kernel
theorem dL_moves_378 : decode cL_moves 378 = .ok (.iload 7, 2) := by decide +kernel
theorem dL_moves_380 : decode cL_moves 380 = .ok (.if_icmp .ne 28, 3) := by decide +kernel
theorem dL_moves_383 : decode cL_moves 383 = .ok (.aload_n 0, 1) := by decide +kernel
theorem dL_moves_384 : decode cL_moves 384 = .ok (.iload_n 3, 1) := by decide +kernel
theorem dL_moves_385 : decode cL_moves 385 = .ok (.iconst 4, 1) := by decide +kernel
theorem dL_moves_386 : decode cL_moves 386 = .ok (.invokestatic 115, 3) := by decide +kernel
theorem dL_moves_389 : decode cL_moves 389 = .ok (.iconst (-1), 1) := by decide +kernel
theorem dL_moves_390 : decode cL_moves 390 = .ok (.if_icmp .ne 18, 3) := by decide +kernel
theorem dL_moves_393 : decode cL_moves 393 = .ok (.aload_n 0, 1) := by decide +kernel
theorem dL_moves_394 : decode cL_moves 394 = .ok (.iload_n 3, 1) := by decide +kernel
theorem dL_moves_395 : decode cL_moves 395 = .ok (.iconst 5, 1) := by decide +kernel
theorem dL_moves_396 : decode cL_moves 396 = .ok (.invokestatic 115, 3) := by decide +kernel
theorem dL_moves_399 : decode cL_moves 399 = .ok (.iload 7, 2) := by decide +kernel
theorem dL_moves_401 : decode cL_moves 401 = .ok (.if_icmp .ne 7, 3) := by decide +kernel
theorem dL_moves_404 : decode cL_moves 404 = .ok (.iconst 1, 1) := by decide +kernel
theorem dL_moves_405 : decode cL_moves 405 = .ok (.goto 30, 3) := by decide +kernel
theorem dL_moves_408 : decode cL_moves 408 = .ok (.iconst 0, 1) := by decide +kernel
theorem dL_moves_409 : decode cL_moves 409 = .ok (.goto 26, 3) := by decide +kernel
theorem dL_moves_412 : decode cL_moves 412 = .ok (.iload 8, 2) := by decide +kernel
theorem dL_moves_414 : decode cL_moves 414 = .ok (.ldc 20, 2) := by decide +kernel
theorem dL_moves_416 : decode cL_moves 416 = .ok (.if_icmp .ne 18, 3) := by decide +kernel
theorem dL_moves_419 : decode cL_moves 419 = .ok (.aload_n 0, 1) := by decide +kernel
theorem dL_moves_420 : decode cL_moves 420 = .ok (.iload_n 3, 1) := by decide +kernel
theorem dL_moves_421 : decode cL_moves 421 = .ok (.iconst 4, 1) := by decide +kernel
theorem dL_moves_422 : decode cL_moves 422 = .ok (.invokestatic 115, 3) := by decide +kernel
theorem dL_moves_425 : decode cL_moves 425 = .ok (.iload 6, 2) := by decide +kernel
theorem dL_moves_427 : decode cL_moves 427 = .ok (.if_icmp .ne 7, 3) := by decide +kernel
theorem dL_moves_430 : decode cL_moves 430 = .ok (.iconst 1, 1) := by decide +kernel
theorem dL_moves_431 : decode cL_moves 431 = .ok (.goto 4, 3) := by decide +kernel
theorem dL_moves_434 : decode cL_moves 434 = .ok (.iconst 0, 1) := by decide +kernel
theorem dL_moves_435 : decode cL_moves 435 = .ok (.ireturn, 1) := by decide +kernel
theorem dL_moves_436 : decode cL_moves 436 = .ok (.aload_n 0, 1) := by decide +kernel
theorem dL_moves_437 : decode cL_moves 437 = .ok (.iload_n 1, 1) := by decide +kernel
theorem dL_moves_438 : decode cL_moves 438 = .ok (.iconst 1, 1) := by decide +kernel
theorem dL_moves_439 : decode cL_moves 439 = .ok (.invokestatic 118, 3) := by decide +kernel
theorem dL_moves_442 : decode cL_moves 442 = .ok (.iconst 1, 1) := by decide +kernel
theorem dL_moves_443 : decode cL_moves 443 = .ok (.if_icmp .ne 18, 3) := by decide +kernel
theorem dL_moves_446 : decode cL_moves 446 = .ok (.aload_n 0, 1) := by decide +kernel
theorem dL_moves_447 : decode cL_moves 447 = .ok (.iload_n 1, 1) := by decide +kernel
theorem dL_moves_448 : decode cL_moves 448 = .ok (.iconst 3, 1) := by decide +kernel
theorem dL_moves_449 : decode cL_moves 449 = .ok (.invokestatic 118, 3) := by decide +kernel
theorem dL_moves_452 : decode cL_moves 452 = .ok (.iload 7, 2) := by decide +kernel
theorem dL_moves_454 : decode cL_moves 454 = .ok (.if_icmp .ne 7, 3) := by decide +kernel
theorem dL_moves_457 : decode cL_moves 457 = .ok (.iconst 1, 1) := by decide +kernel
theorem dL_moves_458 : decode cL_moves 458 = .ok (.goto 4, 3) := by decide +kernel
theorem dL_moves_461 : decode cL_moves 461 = .ok (.iconst 0, 1) := by decide +kernel
theorem dL_moves_462 : decode cL_moves 462 = .ok (.istore 8, 2) := by decide +kernel
theorem dL_moves_464 : decode cL_moves 464 = .ok (.aload_n 0, 1) := by decide +kernel
theorem dL_moves_465 : decode cL_moves 465 = .ok (.iload_n 1, 1) := by decide +kernel
theorem dL_moves_466 : decode cL_moves 466 = .ok (.bipush 10, 2) := by decide +kernel
theorem dL_moves_468 : decode cL_moves 468 = .ok (.invokestatic 118, 3) := by decide +kernel
theorem dL_moves_471 : decode cL_moves 471 = .ok (.istore 9, 2) := by decide +kernel
theorem dL_moves_473 : decode cL_moves 473 = .ok (.aload_n 0, 1) := by decide +kernel
theorem dL_moves_474 : decode cL_moves 474 = .ok (.iload_n 3, 1) := by decide +kernel
theorem dL_moves_475 : decode cL_moves 475 = .ok (.iload_n 1, 1) := by decide +kernel
theorem dL_moves_476 : decode cL_moves 476 = .ok (.invokestatic 144, 3) := by decide +kernel
theorem dL_moves_479 : decode cL_moves 479 = .ok (.istore 10, 2) := by decide +kernel
theorem dL_moves_481 : decode cL_moves 481 = .ok (.iload 8, 2) := by decide +kernel
theorem dL_moves_483 : decode cL_moves 483 = .ok (.ifCond .eq 51, 3) := by decide +kernel
theorem dL_moves_486 : decode cL_moves 486 = .ok (.iload 10, 2) := by decide +kernel
theorem dL_moves_488 : decode cL_moves 488 = .ok (.ifCond .le 42, 3) := by decide +kernel
theorem dL_moves_491 : decode cL_moves 491 = .ok (.aload_n 0, 1) := by decide +kernel
theorem dL_moves_492 : decode cL_moves 492 = .ok (.iload_n 3, 1) := by decide +kernel
theorem dL_moves_493 : decode cL_moves 493 = .ok (.iconst 4, 1) := by decide +kernel
theorem dL_moves_494 : decode cL_moves 494 = .ok (.invokestatic 115, 3) := by decide +kernel
theorem dL_moves_497 : decode cL_moves 497 = .ok (.iload_n 1, 1) := by decide +kernel
theorem dL_moves_498 : decode cL_moves 498 = .ok (.if_icmp .ne 32, 3) := by decide +kernel
theorem dL_moves_501 : decode cL_moves 501 = .ok (.aload_n 0, 1) := by decide +kernel
theorem dL_moves_502 : decode cL_moves 502 = .ok (.iload_n 3, 1) := by decide +kernel
theorem dL_moves_503 : decode cL_moves 503 = .ok (.iconst 5, 1) := by decide +kernel
theorem dL_moves_504 : decode cL_moves 504 = .ok (.invokestatic 115, 3) := by decide +kernel
theorem dL_moves_507 : decode cL_moves 507 = .ok (.iload 7, 2) := by decide +kernel
theorem dL_moves_509 : decode cL_moves 509 = .ok (.if_icmp .ne 21, 3) := by decide +kernel
theorem dL_moves_512 : decode cL_moves 512 = .ok (.aload_n 0, 1) := by decide +kernel
theorem dL_moves_513 : decode cL_moves 513 = .ok (.iload_n 1, 1) := by decide +kernel
theorem dL_moves_514 : decode cL_moves 514 = .ok (.bipush 10, 2) := by decide +kernel
theorem dL_moves_516 : decode cL_moves 516 = .ok (.invokestatic 118, 3) := by decide +kernel
theorem dL_moves_519 : decode cL_moves 519 = .ok (.iload 9, 2) := by decide +kernel
theorem dL_moves_521 : decode cL_moves 521 = .ok (.iconst 1, 1) := by decide +kernel
theorem dL_moves_522 : decode cL_moves 522 = .ok (.iadd, 1) := by decide +kernel
theorem dL_moves_523 : decode cL_moves 523 = .ok (.if_icmp .ne 7, 3) := by decide +kernel
theorem dL_moves_526 : decode cL_moves 526 = .ok (.iconst 1, 1) := by decide +kernel
theorem dL_moves_527 : decode cL_moves 527 = .ok (.goto 29, 3) := by decide +kernel
theorem dL_moves_530 : decode cL_moves 530 = .ok (.iconst 0, 1) := by decide +kernel
theorem dL_moves_531 : decode cL_moves 531 = .ok (.goto 25, 3) := by decide +kernel
theorem dL_moves_534 : decode cL_moves 534 = .ok (.iload 10, 2) := by decide +kernel
theorem dL_moves_536 : decode cL_moves 536 = .ok (.ldc 20, 2) := by decide +kernel
theorem dL_moves_538 : decode cL_moves 538 = .ok (.if_icmp .ne 17, 3) := by decide +kernel
theorem dL_moves_541 : decode cL_moves 541 = .ok (.aload_n 0, 1) := by decide +kernel
theorem dL_moves_542 : decode cL_moves 542 = .ok (.iload_n 3, 1) := by decide +kernel
theorem dL_moves_543 : decode cL_moves 543 = .ok (.iconst 4, 1) := by decide +kernel
theorem dL_moves_544 : decode cL_moves 544 = .ok (.invokestatic 115, 3) := by decide +kernel
theorem dL_moves_547 : decode cL_moves 547 = .ok (.iconst (-1), 1) := by decide +kernel
theorem dL_moves_548 : decode cL_moves 548 = .ok (.if_icmp .ne 7, 3) := by decide +kernel
theorem dL_moves_551 : decode cL_moves 551 = .ok (.iconst 1, 1) := by decide +kernel
theorem dL_moves_552 : decode cL_moves 552 = .ok (.goto 4, 3) := by decide +kernel
theorem dL_moves_555 : decode cL_moves 555 = .ok (.iconst 0, 1) := by decide +kernel
theorem dL_moves_556 : decode cL_moves 556 = .ok (.ireturn, 1) := by decide +kernel
def sL_moves_462 (w : Wl) (l1 : Int32) (l3 : Int32) (l7 : Int32) (s0 : Int32) : Option (Bool × Wl) := (sO_crate w l1 (10 : Int32)).bind (fun r1 => (sL_pack w l3 l1).bind (fun r3 => (if s0 = 0 then (if r3.1 = (-90200 : Int32) then (sO_work r3.2 l3 (4 : Int32)).bind (fun r10 => (if r10 = (-1 : Int32) then some (true, r3.2) else some (false, r3.2))) else some (false, r3.2)) else (if r3.1 ≤ 0 then some (false, r3.2) else (sO_work r3.2 l3 (4 : Int32)).bind (fun r14 => (if r14 = l1 then (sO_work r3.2 l3 (5 : Int32)).bind (fun r17 => (if r17 = l7 then (sO_crate r3.2 l1 (10 : Int32)).bind (fun r20 => (if r20 = (r1 + (1 : Int32)) then some (true, r3.2) else some (false, r3.2))) else some (false, r3.2))) else some (false, r3.2)))))))
theorem tL_moves_462 {X : Cx} {B : Bs} {sz : Nat} {r : (Bool × Wl)} (hx : Fx X cL_moves 11 RL 9 1 6) (hC : GC (xΓ X) B) (htr : (xl X).stackTraces = false) (hr : Rt X (some .boolean) 1 6 (WX (xΓ X) B (some (.int (bI r.1))) r.2)) : ∀ (w : Wl) (l1 : Int32) (l3 : Int32) (l7 : Int32) (s0 : Int32) {G : Gf} (hW : Wd (xΓ X) B w G) (h : sL_moves_462  w l1 l3 l7 s0 = some r), J X 11 G sz 0 0 462 [some (.ref (B.1 + 0)), some (.int l1), none, some (.int l3), none, none, none, some (.int l7), none, none, none] [.int s0] := by
  intro w l1 l3 l7 s0 G hW h
  unfold sL_moves_462 at h
  refine J_is hx (by decide) (hc_of rfl) rfl dL_moves_462 ?_
  refine J_al4 hx rfl rfl dL_moves_464 ?_
  refine J_il4 hx rfl rfl dL_moves_465 ?_
  refine J_bipush hx (10 : Int32) dL_moves_466 rfl ?_
  obtain ⟨r1, hr2, h⟩ := bnd h
  refine J_rdL hx (kP_crate hC hW (okS_e hr2)) ml_L_118 cw_crate st_crate ini_L hy_crate (rest := []) rfl rfl (by decide) (by decide) (Nat.le_of_ble_eq_true rfl) (by decide) (by decide) dL_moves_468 ?_
  refine J_is hx (by decide) (hc_of rfl) rfl dL_moves_471 ?_
  refine J_al4 hx rfl rfl dL_moves_473 ?_
  refine J_il4 hx rfl rfl dL_moves_474 ?_
  refine J_il4 hx rfl rfl dL_moves_475 ?_
  obtain ⟨r3, hr4, h⟩ := bnd h
  refine J_callSW hx (kL_pack htr hC hW hr4) ml_L_144 cw_pack st_pack ini_L hy_pack (rest := []) rfl rfl (by decide) (by decide) (Nat.le_of_ble_eq_true rfl) (by decide) (by decide) dL_moves_476 fun x1 G5 z7 hh => ?_
  obtain ⟨rfl, hW6⟩ := hh
  show J X 11 G5 z7 1 6 479 [some (.ref (B.1 + 0)), some (.int l1), none, some (.int l3), none, none, none, some (.int l7), some (.int s0), some (.int r1), none] [.int r3.1]
  refine J_is hx (by decide) (hc_of rfl) rfl dL_moves_479 ?_
  refine J_il hx rfl dL_moves_481 ?_
  refine J_if_eq hx 534 dL_moves_483 rfl (fun h8 => ?_) (fun h8 => ?_)
  · replace h := pos h h8
    refine J_il hx rfl dL_moves_534 ?_
    refine J_ldc hx cn_L_20 dL_moves_536 ?_
    refine J_icmp_ne hx 555 dL_moves_538 rfl (fun h9 => ?_) (fun h9 => ?_)
    · replace h := neg h h9
      refine J_iconst hx (0 : Int32) dL_moves_555 rfl ?_
      obtain rfl := Option.some.inj h
      exact J_zretX (b := false) hx hr hW6 dL_moves_556 (by decide) (by decide)
    · replace h := pos h h9
      refine J_al4 hx rfl rfl dL_moves_541 ?_
      refine J_il4 hx rfl rfl dL_moves_542 ?_
      refine J_iconst hx (4 : Int32) dL_moves_543 rfl ?_
      obtain ⟨r10, hr11, h⟩ := bnd h
      refine J_rdL hx (kP_work hC hW6 (okS_e hr11)) ml_L_115 cw_work st_work ini_L hy_work (rest := []) rfl rfl (by decide) (by decide) (Nat.le_of_ble_eq_true rfl) (by decide) (by decide) dL_moves_544 ?_
      refine J_iconst hx (-1 : Int32) dL_moves_547 rfl ?_
      refine J_icmp_ne hx 555 dL_moves_548 rfl (fun h12 => ?_) (fun h12 => ?_)
      · replace h := neg h h12
        refine J_iconst hx (0 : Int32) dL_moves_555 rfl ?_
        obtain rfl := Option.some.inj h
        exact J_zretX (b := false) hx hr hW6 dL_moves_556 (by decide) (by decide)
      · replace h := pos h h12
        refine J_iconst hx (1 : Int32) dL_moves_551 rfl ?_
        refine J_goto hx 556 dL_moves_552 rfl ?_
        obtain rfl := Option.some.inj h
        exact J_zretX (b := true) hx hr hW6 dL_moves_556 (by decide) (by decide)
  · replace h := neg h h8
    refine J_il hx rfl dL_moves_486 ?_
    refine J_if_le hx 530 dL_moves_488 rfl (fun h13 => ?_) (fun h13 => ?_)
    · replace h := pos h h13
      refine J_iconst hx (0 : Int32) dL_moves_530 rfl ?_
      refine J_goto hx 556 dL_moves_531 rfl ?_
      obtain rfl := Option.some.inj h
      exact J_zretX (b := false) hx hr hW6 dL_moves_556 (by decide) (by decide)
    · replace h := neg h h13
      refine J_al4 hx rfl rfl dL_moves_491 ?_
      refine J_il4 hx rfl rfl dL_moves_492 ?_
      refine J_iconst hx (4 : Int32) dL_moves_493 rfl ?_
      obtain ⟨r14, hr15, h⟩ := bnd h
      refine J_rdL hx (kP_work hC hW6 (okS_e hr15)) ml_L_115 cw_work st_work ini_L hy_work (rest := []) rfl rfl (by decide) (by decide) (Nat.le_of_ble_eq_true rfl) (by decide) (by decide) dL_moves_494 ?_
      refine J_il4 hx rfl rfl dL_moves_497 ?_
      refine J_icmp_ne hx 530 dL_moves_498 rfl (fun h16 => ?_) (fun h16 => ?_)
      · replace h := neg h h16
        refine J_iconst hx (0 : Int32) dL_moves_530 rfl ?_
        refine J_goto hx 556 dL_moves_531 rfl ?_
        obtain rfl := Option.some.inj h
        exact J_zretX (b := false) hx hr hW6 dL_moves_556 (by decide) (by decide)
      · replace h := pos h h16
        refine J_al4 hx rfl rfl dL_moves_501 ?_
        refine J_il4 hx rfl rfl dL_moves_502 ?_
        refine J_iconst hx (5 : Int32) dL_moves_503 rfl ?_
        obtain ⟨r17, hr18, h⟩ := bnd h
        refine J_rdL hx (kP_work hC hW6 (okS_e hr18)) ml_L_115 cw_work st_work ini_L hy_work (rest := []) rfl rfl (by decide) (by decide) (Nat.le_of_ble_eq_true rfl) (by decide) (by decide) dL_moves_504 ?_
        refine J_il hx rfl dL_moves_507 ?_
        refine J_icmp_ne hx 530 dL_moves_509 rfl (fun h19 => ?_) (fun h19 => ?_)
        · replace h := neg h h19
          refine J_iconst hx (0 : Int32) dL_moves_530 rfl ?_
          refine J_goto hx 556 dL_moves_531 rfl ?_
          obtain rfl := Option.some.inj h
          exact J_zretX (b := false) hx hr hW6 dL_moves_556 (by decide) (by decide)
        · replace h := pos h h19
          refine J_al4 hx rfl rfl dL_moves_512 ?_
          refine J_il4 hx rfl rfl dL_moves_513 ?_
          refine J_bipush hx (10 : Int32) dL_moves_514 rfl ?_
          obtain ⟨r20, hr21, h⟩ := bnd h
          refine J_rdL hx (kP_crate hC hW6 (okS_e hr21)) ml_L_118 cw_crate st_crate ini_L hy_crate (rest := []) rfl rfl (by decide) (by decide) (Nat.le_of_ble_eq_true rfl) (by decide) (by decide) dL_moves_516 ?_
          refine J_il hx rfl dL_moves_519 ?_
          refine J_iconst hx (1 : Int32) dL_moves_521 rfl ?_
          refine J_iadd hx dL_moves_522 ?_
          refine J_icmp_ne hx 530 dL_moves_523 rfl (fun h22 => ?_) (fun h22 => ?_)
          · replace h := neg h h22
            refine J_iconst hx (0 : Int32) dL_moves_530 rfl ?_
            refine J_goto hx 556 dL_moves_531 rfl ?_
            obtain rfl := Option.some.inj h
            exact J_zretX (b := false) hx hr hW6 dL_moves_556 (by decide) (by decide)
          · replace h := pos h h22
            refine J_iconst hx (1 : Int32) dL_moves_526 rfl ?_
            refine J_goto hx 556 dL_moves_527 rfl ?_
            obtain rfl := Option.some.inj h
            exact J_zretX (b := true) hx hr hW6 dL_moves_556 (by decide) (by decide)
def sL_moves_263 (w : Wl) (l1 : Int32) (l6 : Int32) (s0 : Int32) : Option (Bool × Wl) := (sL_takeOut w l1).bind (fun r1 => (if s0 = 0 then (if r1.1 = (-90200 : Int32) then (sO_crate r1.2 l1 (2 : Int32)).bind (fun r8 => (if r8 = l6 then some (true, r1.2) else some (false, r1.2))) else some (false, r1.2)) else (if r1.1 = l6 then (sO_crate r1.2 l1 (2 : Int32)).bind (fun r12 => (if r12 = (-1 : Int32) then (sO_crate r1.2 l1 (13 : Int32)).bind (fun r15 => (if r15 = (1 : Int32) then some (true, r1.2) else some (false, r1.2))) else some (false, r1.2))) else some (false, r1.2))))
theorem tL_moves_263 {X : Cx} {B : Bs} {sz : Nat} {r : (Bool × Wl)} (hx : Fx X cL_moves 11 RL 9 1 6) (hC : GC (xΓ X) B) (htr : (xl X).stackTraces = false) (hr : Rt X (some .boolean) 1 6 (WX (xΓ X) B (some (.int (bI r.1))) r.2)) : ∀ (w : Wl) (l1 : Int32) (l6 : Int32) (s0 : Int32) {G : Gf} (hW : Wd (xΓ X) B w G) (h : sL_moves_263  w l1 l6 s0 = some r), J X 11 G sz 0 0 263 [some (.ref (B.1 + 0)), some (.int l1), none, none, none, none, some (.int l6), none, none, none, none] [.int s0] := by
  intro w l1 l6 s0 G hW h
  unfold sL_moves_263 at h
  refine J_is hx (by decide) (hc_of rfl) rfl dL_moves_263 ?_
  refine J_al4 hx rfl rfl dL_moves_265 ?_
  refine J_il4 hx rfl rfl dL_moves_266 ?_
  obtain ⟨r1, hr2, h⟩ := bnd h
  refine J_callSW hx (kL_takeOut htr hC hW hr2) ml_L_140 cw_takeOut st_takeOut ini_L hy_takeOut (rest := []) rfl rfl (by decide) (by decide) (Nat.le_of_ble_eq_true rfl) (by decide) (by decide) dL_moves_267 fun x1 G3 z5 hh => ?_
  obtain ⟨rfl, hW4⟩ := hh
  show J X 11 G3 z5 1 6 270 [some (.ref (B.1 + 0)), some (.int l1), none, none, none, none, some (.int l6), some (.int s0), none, none, none] [.int r1.1]
  refine J_is hx (by decide) (hc_of rfl) rfl dL_moves_270 ?_
  refine J_il hx rfl dL_moves_272 ?_
  refine J_if_eq hx 313 dL_moves_274 rfl (fun h6 => ?_) (fun h6 => ?_)
  · replace h := pos h h6
    refine J_il hx rfl dL_moves_313 ?_
    refine J_ldc hx cn_L_20 dL_moves_315 ?_
    refine J_icmp_ne hx 335 dL_moves_317 rfl (fun h7 => ?_) (fun h7 => ?_)
    · replace h := neg h h7
      refine J_iconst hx (0 : Int32) dL_moves_335 rfl ?_
      obtain rfl := Option.some.inj h
      exact J_zretX (b := false) hx hr hW4 dL_moves_336 (by decide) (by decide)
    · replace h := pos h h7
      refine J_al4 hx rfl rfl dL_moves_320 ?_
      refine J_il4 hx rfl rfl dL_moves_321 ?_
      refine J_iconst hx (2 : Int32) dL_moves_322 rfl ?_
      obtain ⟨r8, hr9, h⟩ := bnd h
      refine J_rdL hx (kP_crate hC hW4 (okS_e hr9)) ml_L_118 cw_crate st_crate ini_L hy_crate (rest := []) rfl rfl (by decide) (by decide) (Nat.le_of_ble_eq_true rfl) (by decide) (by decide) dL_moves_323 ?_
      refine J_il hx rfl dL_moves_326 ?_
      refine J_icmp_ne hx 335 dL_moves_328 rfl (fun h10 => ?_) (fun h10 => ?_)
      · replace h := neg h h10
        refine J_iconst hx (0 : Int32) dL_moves_335 rfl ?_
        obtain rfl := Option.some.inj h
        exact J_zretX (b := false) hx hr hW4 dL_moves_336 (by decide) (by decide)
      · replace h := pos h h10
        refine J_iconst hx (1 : Int32) dL_moves_331 rfl ?_
        refine J_goto hx 336 dL_moves_332 rfl ?_
        obtain rfl := Option.some.inj h
        exact J_zretX (b := true) hx hr hW4 dL_moves_336 (by decide) (by decide)
  · replace h := neg h h6
    refine J_il hx rfl dL_moves_277 ?_
    refine J_il hx rfl dL_moves_279 ?_
    refine J_icmp_ne hx 309 dL_moves_281 rfl (fun h11 => ?_) (fun h11 => ?_)
    · replace h := neg h h11
      refine J_iconst hx (0 : Int32) dL_moves_309 rfl ?_
      refine J_goto hx 336 dL_moves_310 rfl ?_
      obtain rfl := Option.some.inj h
      exact J_zretX (b := false) hx hr hW4 dL_moves_336 (by decide) (by decide)
    · replace h := pos h h11
      refine J_al4 hx rfl rfl dL_moves_284 ?_
      refine J_il4 hx rfl rfl dL_moves_285 ?_
      refine J_iconst hx (2 : Int32) dL_moves_286 rfl ?_
      obtain ⟨r12, hr13, h⟩ := bnd h
      refine J_rdL hx (kP_crate hC hW4 (okS_e hr13)) ml_L_118 cw_crate st_crate ini_L hy_crate (rest := []) rfl rfl (by decide) (by decide) (Nat.le_of_ble_eq_true rfl) (by decide) (by decide) dL_moves_287 ?_
      refine J_iconst hx (-1 : Int32) dL_moves_290 rfl ?_
      refine J_icmp_ne hx 309 dL_moves_291 rfl (fun h14 => ?_) (fun h14 => ?_)
      · replace h := neg h h14
        refine J_iconst hx (0 : Int32) dL_moves_309 rfl ?_
        refine J_goto hx 336 dL_moves_310 rfl ?_
        obtain rfl := Option.some.inj h
        exact J_zretX (b := false) hx hr hW4 dL_moves_336 (by decide) (by decide)
      · replace h := pos h h14
        refine J_al4 hx rfl rfl dL_moves_294 ?_
        refine J_il4 hx rfl rfl dL_moves_295 ?_
        refine J_bipush hx (13 : Int32) dL_moves_296 rfl ?_
        obtain ⟨r15, hr16, h⟩ := bnd h
        refine J_rdL hx (kP_crate hC hW4 (okS_e hr16)) ml_L_118 cw_crate st_crate ini_L hy_crate (rest := []) rfl rfl (by decide) (by decide) (Nat.le_of_ble_eq_true rfl) (by decide) (by decide) dL_moves_298 ?_
        refine J_iconst hx (1 : Int32) dL_moves_301 rfl ?_
        refine J_icmp_ne hx 309 dL_moves_302 rfl (fun h17 => ?_) (fun h17 => ?_)
        · replace h := neg h h17
          refine J_iconst hx (0 : Int32) dL_moves_309 rfl ?_
          refine J_goto hx 336 dL_moves_310 rfl ?_
          obtain rfl := Option.some.inj h
          exact J_zretX (b := false) hx hr hW4 dL_moves_336 (by decide) (by decide)
        · replace h := pos h h17
          refine J_iconst hx (1 : Int32) dL_moves_305 rfl ?_
          refine J_goto hx 336 dL_moves_306 rfl ?_
          obtain rfl := Option.some.inj h
          exact J_zretX (b := true) hx hr hW4 dL_moves_336 (by decide) (by decide)
def sL_moves_76 (w : Wl) (l1 : Int32) (l2 : Int32) (l4 : Int32) (l6 : Int32) (s0 : Int32) : Option (Bool × Wl) := (sO_crate w l2 (11 : Int32)).bind (fun r1 => (sL_nest w l1 l2).bind (fun r3 => (if s0 = 0 then (if r3.1 = (-90200 : Int32) then some (true, r3.2) else some (false, r3.2)) else (if r3.1 ≤ 0 then some (false, r3.2) else (sO_crate r3.2 l1 (2 : Int32)).bind (fun r10 => (if r10 = l2 then (sO_crate r3.2 l1 (3 : Int32)).bind (fun r13 => (if r13 = l6 then (sO_crate r3.2 l2 (11 : Int32)).bind (fun r16 => (sO_crate r3.2 l1 (11 : Int32)).bind (fun r18 => (if r16 = ((r1 + (1 : Int32)) + r18) then (sO_crate r3.2 l1 (13 : Int32)).bind (fun r21 => (if r21 = (1 : Int32) then (sL_low r3.2 (l4 >>> ((3 : Int32) &&& 31)) (2 : Int32)).bind (fun r24 => (if r24 = 0 then some (true, r3.2) else (sO_takeOut r3.2 l1).bind (fun r27 => (if r27.1 = l2 then (sO_crate r27.2 l1 (2 : Int32)).bind (fun r32 => (if r32 = (-1 : Int32) then (sO_crate r27.2 l1 (3 : Int32)).bind (fun r35 => (if r35 = l6 then some (true, r27.2) else some (false, r27.2))) else some (false, r27.2))) else some (false, r27.2))))) else some (false, r3.2))) else some (false, r3.2)))) else some (false, r3.2))) else some (false, r3.2)))))))
theorem tL_moves_76 {X : Cx} {B : Bs} {sz : Nat} {r : (Bool × Wl)} (hx : Fx X cL_moves 11 RL 9 1 6) (hC : GC (xΓ X) B) (htr : (xl X).stackTraces = false) (hr : Rt X (some .boolean) 1 6 (WX (xΓ X) B (some (.int (bI r.1))) r.2)) : ∀ (w : Wl) (l1 : Int32) (l2 : Int32) (l4 : Int32) (l6 : Int32) (s0 : Int32) {G : Gf} (hW : Wd (xΓ X) B w G) (h : sL_moves_76  w l1 l2 l4 l6 s0 = some r), J X 11 G sz 0 0 76 [some (.ref (B.1 + 0)), some (.int l1), some (.int l2), none, some (.int l4), none, some (.int l6), none, none, none, none] [.int s0] := by
  intro w l1 l2 l4 l6 s0 G hW h
  unfold sL_moves_76 at h
  refine J_is hx (by decide) (hc_of rfl) rfl dL_moves_76 ?_
  refine J_al4 hx rfl rfl dL_moves_78 ?_
  refine J_il4 hx rfl rfl dL_moves_79 ?_
  refine J_bipush hx (11 : Int32) dL_moves_80 rfl ?_
  obtain ⟨r1, hr2, h⟩ := bnd h
  refine J_rdL hx (kP_crate hC hW (okS_e hr2)) ml_L_118 cw_crate st_crate ini_L hy_crate (rest := []) rfl rfl (by decide) (by decide) (Nat.le_of_ble_eq_true rfl) (by decide) (by decide) dL_moves_82 ?_
  refine J_is hx (by decide) (hc_of rfl) rfl dL_moves_85 ?_
  refine J_al4 hx rfl rfl dL_moves_87 ?_
  refine J_il4 hx rfl rfl dL_moves_88 ?_
  refine J_il4 hx rfl rfl dL_moves_89 ?_
  obtain ⟨r3, hr4, h⟩ := bnd h
  refine J_callSW hx (kL_nest htr hC hW hr4) ml_L_138 cw_nest st_nest ini_L hy_nest (rest := []) rfl rfl (by decide) (by decide) (Nat.le_of_ble_eq_true rfl) (by decide) (by decide) dL_moves_90 fun x1 G5 z7 hh => ?_
  obtain ⟨rfl, hW6⟩ := hh
  show J X 11 G5 z7 1 6 93 [some (.ref (B.1 + 0)), some (.int l1), some (.int l2), none, some (.int l4), none, some (.int l6), some (.int s0), some (.int r1), none, none] [.int r3.1]
  refine J_is hx (by decide) (hc_of rfl) rfl dL_moves_93 ?_
  refine J_il hx rfl dL_moves_95 ?_
  refine J_if_ne hx 113 dL_moves_97 rfl (fun h8 => ?_) (fun h8 => ?_)
  · replace h := neg h h8
    refine J_il hx rfl dL_moves_113 ?_
    refine J_if_le hx 217 dL_moves_115 rfl (fun h9 => ?_) (fun h9 => ?_)
    · replace h := pos h h9
      refine J_iconst hx (0 : Int32) dL_moves_217 rfl ?_
      obtain rfl := Option.some.inj h
      exact J_zretX (b := false) hx hr hW6 dL_moves_218 (by decide) (by decide)
    · replace h := neg h h9
      refine J_al4 hx rfl rfl dL_moves_118 ?_
      refine J_il4 hx rfl rfl dL_moves_119 ?_
      refine J_iconst hx (2 : Int32) dL_moves_120 rfl ?_
      obtain ⟨r10, hr11, h⟩ := bnd h
      refine J_rdL hx (kP_crate hC hW6 (okS_e hr11)) ml_L_118 cw_crate st_crate ini_L hy_crate (rest := []) rfl rfl (by decide) (by decide) (Nat.le_of_ble_eq_true rfl) (by decide) (by decide) dL_moves_121 ?_
      refine J_il4 hx rfl rfl dL_moves_124 ?_
      refine J_icmp_ne hx 217 dL_moves_125 rfl (fun h12 => ?_) (fun h12 => ?_)
      · replace h := neg h h12
        refine J_iconst hx (0 : Int32) dL_moves_217 rfl ?_
        obtain rfl := Option.some.inj h
        exact J_zretX (b := false) hx hr hW6 dL_moves_218 (by decide) (by decide)
      · replace h := pos h h12
        refine J_al4 hx rfl rfl dL_moves_128 ?_
        refine J_il4 hx rfl rfl dL_moves_129 ?_
        refine J_iconst hx (3 : Int32) dL_moves_130 rfl ?_
        obtain ⟨r13, hr14, h⟩ := bnd h
        refine J_rdL hx (kP_crate hC hW6 (okS_e hr14)) ml_L_118 cw_crate st_crate ini_L hy_crate (rest := []) rfl rfl (by decide) (by decide) (Nat.le_of_ble_eq_true rfl) (by decide) (by decide) dL_moves_131 ?_
        refine J_il hx rfl dL_moves_134 ?_
        refine J_icmp_ne hx 217 dL_moves_136 rfl (fun h15 => ?_) (fun h15 => ?_)
        · replace h := neg h h15
          refine J_iconst hx (0 : Int32) dL_moves_217 rfl ?_
          obtain rfl := Option.some.inj h
          exact J_zretX (b := false) hx hr hW6 dL_moves_218 (by decide) (by decide)
        · replace h := pos h h15
          refine J_al4 hx rfl rfl dL_moves_139 ?_
          refine J_il4 hx rfl rfl dL_moves_140 ?_
          refine J_bipush hx (11 : Int32) dL_moves_141 rfl ?_
          obtain ⟨r16, hr17, h⟩ := bnd h
          refine J_rdL hx (kP_crate hC hW6 (okS_e hr17)) ml_L_118 cw_crate st_crate ini_L hy_crate (rest := []) rfl rfl (by decide) (by decide) (Nat.le_of_ble_eq_true rfl) (by decide) (by decide) dL_moves_143 ?_
          refine J_il hx rfl dL_moves_146 ?_
          refine J_iconst hx (1 : Int32) dL_moves_148 rfl ?_
          refine J_iadd hx dL_moves_149 ?_
          refine J_al4 hx rfl rfl dL_moves_150 ?_
          refine J_il4 hx rfl rfl dL_moves_151 ?_
          refine J_bipush hx (11 : Int32) dL_moves_152 rfl ?_
          obtain ⟨r18, hr19, h⟩ := bnd h
          refine J_rdL hx (kP_crate hC hW6 (okS_e hr19)) ml_L_118 cw_crate st_crate ini_L hy_crate (rest := [.int (r1 + (1 : Int32)), .int r16]) rfl rfl (by decide) (by decide) (Nat.le_of_ble_eq_true rfl) (by decide) (by decide) dL_moves_154 ?_
          refine J_iadd hx dL_moves_157 ?_
          refine J_icmp_ne hx 217 dL_moves_158 rfl (fun h20 => ?_) (fun h20 => ?_)
          · replace h := neg h h20
            refine J_iconst hx (0 : Int32) dL_moves_217 rfl ?_
            obtain rfl := Option.some.inj h
            exact J_zretX (b := false) hx hr hW6 dL_moves_218 (by decide) (by decide)
          · replace h := pos h h20
            refine J_al4 hx rfl rfl dL_moves_161 ?_
            refine J_il4 hx rfl rfl dL_moves_162 ?_
            refine J_bipush hx (13 : Int32) dL_moves_163 rfl ?_
            obtain ⟨r21, hr22, h⟩ := bnd h
            refine J_rdL hx (kP_crate hC hW6 (okS_e hr22)) ml_L_118 cw_crate st_crate ini_L hy_crate (rest := []) rfl rfl (by decide) (by decide) (Nat.le_of_ble_eq_true rfl) (by decide) (by decide) dL_moves_165 ?_
            refine J_iconst hx (1 : Int32) dL_moves_168 rfl ?_
            refine J_icmp_ne hx 217 dL_moves_169 rfl (fun h23 => ?_) (fun h23 => ?_)
            · replace h := neg h h23
              refine J_iconst hx (0 : Int32) dL_moves_217 rfl ?_
              obtain rfl := Option.some.inj h
              exact J_zretX (b := false) hx hr hW6 dL_moves_218 (by decide) (by decide)
            · replace h := pos h h23
              refine J_il hx rfl dL_moves_172 ?_
              refine J_iconst hx (3 : Int32) dL_moves_174 rfl ?_
              refine J_ishr hx dL_moves_175 ?_
              refine J_iconst hx (2 : Int32) dL_moves_176 rfl ?_
              obtain ⟨r24, hr25, h⟩ := bnd h
              refine J_rdS hx (kL_low  hW6 hr25) ml_L_128 lk_L_low (rest := []) rfl rfl (by decide) (by decide) (Nat.le_of_ble_eq_true rfl) (by decide) (by decide) dL_moves_177 ?_
              refine J_if_eq hx 213 dL_moves_180 rfl (fun h26 => ?_) (fun h26 => ?_)
              · replace h := pos h h26
                refine J_iconst hx (1 : Int32) dL_moves_213 rfl ?_
                refine J_goto hx 218 dL_moves_214 rfl ?_
                obtain rfl := Option.some.inj h
                exact J_zretX (b := true) hx hr hW6 dL_moves_218 (by decide) (by decide)
              · replace h := neg h h26
                refine J_al4 hx rfl rfl dL_moves_183 ?_
                refine J_il4 hx rfl rfl dL_moves_184 ?_
                obtain ⟨r27, hr28, h⟩ := bnd h
                refine J_wrL hx (kP_takeOut hC hW6 (okS_e hr28)) ml_L_140 cw_takeOut st_takeOut ini_L hy_takeOut (rest := []) rfl rfl (by decide) (by decide) (Nat.le_of_ble_eq_true rfl) (by decide) (by decide) dL_moves_185 fun G29 hW30 => ?_
                show J X 11 G29 z7 1 6 188 [some (.ref (B.1 + 0)), some (.int l1), some (.int l2), none, some (.int l4), none, some (.int l6), some (.int s0), some (.int r1), some (.int r3.1), none] [.int r27.1]
                refine J_il4 hx rfl rfl dL_moves_188 ?_
                refine J_icmp_ne hx 217 dL_moves_189 rfl (fun h31 => ?_) (fun h31 => ?_)
                · replace h := neg h h31
                  refine J_iconst hx (0 : Int32) dL_moves_217 rfl ?_
                  obtain rfl := Option.some.inj h
                  exact J_zretX (b := false) hx hr hW30 dL_moves_218 (by decide) (by decide)
                · replace h := pos h h31
                  refine J_al4 hx rfl rfl dL_moves_192 ?_
                  refine J_il4 hx rfl rfl dL_moves_193 ?_
                  refine J_iconst hx (2 : Int32) dL_moves_194 rfl ?_
                  obtain ⟨r32, hr33, h⟩ := bnd h
                  refine J_rdL hx (kP_crate hC hW30 (okS_e hr33)) ml_L_118 cw_crate st_crate ini_L hy_crate (rest := []) rfl rfl (by decide) (by decide) (Nat.le_of_ble_eq_true rfl) (by decide) (by decide) dL_moves_195 ?_
                  refine J_iconst hx (-1 : Int32) dL_moves_198 rfl ?_
                  refine J_icmp_ne hx 217 dL_moves_199 rfl (fun h34 => ?_) (fun h34 => ?_)
                  · replace h := neg h h34
                    refine J_iconst hx (0 : Int32) dL_moves_217 rfl ?_
                    obtain rfl := Option.some.inj h
                    exact J_zretX (b := false) hx hr hW30 dL_moves_218 (by decide) (by decide)
                  · replace h := pos h h34
                    refine J_al4 hx rfl rfl dL_moves_202 ?_
                    refine J_il4 hx rfl rfl dL_moves_203 ?_
                    refine J_iconst hx (3 : Int32) dL_moves_204 rfl ?_
                    obtain ⟨r35, hr36, h⟩ := bnd h
                    refine J_rdL hx (kP_crate hC hW30 (okS_e hr36)) ml_L_118 cw_crate st_crate ini_L hy_crate (rest := []) rfl rfl (by decide) (by decide) (Nat.le_of_ble_eq_true rfl) (by decide) (by decide) dL_moves_205 ?_
                    refine J_il hx rfl dL_moves_208 ?_
                    refine J_icmp_ne hx 217 dL_moves_210 rfl (fun h37 => ?_) (fun h37 => ?_)
                    · replace h := neg h h37
                      refine J_iconst hx (0 : Int32) dL_moves_217 rfl ?_
                      obtain rfl := Option.some.inj h
                      exact J_zretX (b := false) hx hr hW30 dL_moves_218 (by decide) (by decide)
                    · replace h := pos h h37
                      refine J_iconst hx (1 : Int32) dL_moves_213 rfl ?_
                      refine J_goto hx 218 dL_moves_214 rfl ?_
                      obtain rfl := Option.some.inj h
                      exact J_zretX (b := true) hx hr hW30 dL_moves_218 (by decide) (by decide)
  · replace h := pos h h8
    refine J_il hx rfl dL_moves_100 ?_
    refine J_ldc hx cn_L_20 dL_moves_102 ?_
    refine J_icmp_ne hx 111 dL_moves_104 rfl (fun h38 => ?_) (fun h38 => ?_)
    · replace h := neg h h38
      refine J_iconst hx (0 : Int32) dL_moves_111 rfl ?_
      obtain rfl := Option.some.inj h
      exact J_zretX (b := false) hx hr hW6 dL_moves_112 (by decide) (by decide)
    · replace h := pos h h38
      refine J_iconst hx (1 : Int32) dL_moves_107 rfl ?_
      refine J_goto hx 112 dL_moves_108 rfl ?_
      obtain rfl := Option.some.inj h
      exact J_zretX (b := true) hx hr hW6 dL_moves_112 (by decide) (by decide)
def sL_moves (w : Wl) (l1 : Int32) (l2 : Int32) (l3 : Int32) (l4 : Int32) : Option (Bool × Wl) := (sL_low w l4 (3 : Int32)).bind (fun r1 => (if r1 = 0 then (sO_crate w l1 (3 : Int32)).bind (fun r44 => (if l1 = l2 then sL_moves_76 w l1 l2 l4 r44 (0 : Int32) else (sO_crate w l1 (1 : Int32)).bind (fun r47 => (if r47 = 0 then (sO_crate w l1 (2 : Int32)).bind (fun r50 => (if r50 = (-1 : Int32) then (if r44 < 0 then sL_moves_76 w l1 l2 l4 r44 (0 : Int32) else (sO_crate w l2 (1 : Int32)).bind (fun r54 => (if r54 = (1 : Int32) then (sO_crate w l2 (3 : Int32)).bind (fun r57 => (if r57 = r44 then sL_moves_76 w l1 l2 l4 r44 (1 : Int32) else sL_moves_76 w l1 l2 l4 r44 (0 : Int32))) else sL_moves_76 w l1 l2 l4 r44 (0 : Int32)))) else sL_moves_76 w l1 l2 l4 r44 (0 : Int32))) else sL_moves_76 w l1 l2 l4 r44 (0 : Int32))))) else (if r1 = (1 : Int32) then (sO_crate w l1 (2 : Int32)).bind (fun r35 => (if r35 < 0 then sL_moves_263 w l1 r35 (0 : Int32) else (sO_crate w l1 (1 : Int32)).bind (fun r38 => (if r38 = 0 then (sO_crate w l1 (13 : Int32)).bind (fun r41 => (if r41 = (1 : Int32) then sL_moves_263 w l1 r35 (1 : Int32) else sL_moves_263 w l1 r35 (0 : Int32))) else sL_moves_263 w l1 r35 (0 : Int32))))) else (sO_work w l3 (4 : Int32)).bind (fun r5 => (sO_work w l3 (5 : Int32)).bind (fun r7 => (if r5 < 0 then (sO_crate w l1 (1 : Int32)).bind (fun r10 => (if r10 = (1 : Int32) then (sO_crate w l1 (3 : Int32)).bind (fun r13 => (if r13 = r7 then sL_moves_462 w l1 l3 r7 (1 : Int32) else sL_moves_462 w l1 l3 r7 (0 : Int32))) else sL_moves_462 w l1 l3 r7 (0 : Int32))) else (sL_unpack w l3).bind (fun r16 => (sO_crate r16.2 r5 (1 : Int32)).bind (fun r21 => (if r21 = (1 : Int32) then (if r16.1 = r7 then (sO_work r16.2 l3 (4 : Int32)).bind (fun r29 => (if r29 = (-1 : Int32) then (sO_work r16.2 l3 (5 : Int32)).bind (fun r32 => (if r32 = r7 then some (true, r16.2) else some (false, r16.2))) else some (false, r16.2))) else some (false, r16.2)) else (if r16.1 = (-90200 : Int32) then (sO_work r16.2 l3 (4 : Int32)).bind (fun r25 => (if r25 = r5 then some (true, r16.2) else some (false, r16.2))) else some (false, r16.2)))))))))))
theorem kL_moves {l : Launch} {Γ : Gl} {B : Bs} {w : Wl} {G : Gf} {sz : Nat} {l1 : Int32} {l2 : Int32} {l3 : Int32} {l4 : Int32} {r : (Bool × Wl)} (hC : GC Γ B) (htr : l.stackTraces = false) (hW : Wd Γ B w G) (h : sL_moves w l1 l2 l3 l4 = some r) : Ct l Γ yL_moves cL_moves 11 (some .boolean) 9 [.ref (B.1 + 0), .int l1, .int l2, .int l3, .int l4] G sz (WX Γ B (some (.int (bI r.1))) r.2) 1 6 := by
  refine Ct.of rfl (Nat.le_of_ble_eq_true rfl) fun X hx hr hl hΓ hnm => ?_
  subst hl hΓ
  show J X 11 G sz 0 0 0 [some (.ref (B.1 + 0)), some (.int l1), some (.int l2), some (.int l3), some (.int l4), none, none, none, none, none, none] []
  unfold sL_moves at h
  refine J_il hx rfl dL_moves_0 ?_
  refine J_iconst hx (3 : Int32) dL_moves_2 rfl ?_
  obtain ⟨r1, hr2, h⟩ := bnd h
  refine J_rdS hx (kL_low  hW hr2) ml_L_128 lk_L_low (rest := []) rfl rfl (by decide) (by decide) (Nat.le_of_ble_eq_true rfl) (by decide) (by decide) dL_moves_3 ?_
  refine J_is hx (by decide) (hc_of rfl) rfl dL_moves_6 ?_
  refine J_il hx rfl dL_moves_8 ?_
  refine J_if_ne hx 219 dL_moves_10 rfl (fun h3 => ?_) (fun h3 => ?_)
  · replace h := neg h h3
    refine J_il hx rfl dL_moves_219 ?_
    refine J_iconst hx (1 : Int32) dL_moves_221 rfl ?_
    refine J_icmp_ne hx 337 dL_moves_222 rfl (fun h4 => ?_) (fun h4 => ?_)
    · replace h := neg h h4
      refine J_al4 hx rfl rfl dL_moves_337 ?_
      refine J_il4 hx rfl rfl dL_moves_338 ?_
      refine J_iconst hx (4 : Int32) dL_moves_339 rfl ?_
      obtain ⟨r5, hr6, h⟩ := bnd h
      refine J_rdL hx (kP_work hC hW (okS_e hr6)) ml_L_115 cw_work st_work ini_L hy_work (rest := []) rfl rfl (by decide) (by decide) (Nat.le_of_ble_eq_true rfl) (by decide) (by decide) dL_moves_340 ?_
      refine J_is hx (by decide) (hc_of rfl) rfl dL_moves_343 ?_
      refine J_al4 hx rfl rfl dL_moves_345 ?_
      refine J_il4 hx rfl rfl dL_moves_346 ?_
      refine J_iconst hx (5 : Int32) dL_moves_347 rfl ?_
      obtain ⟨r7, hr8, h⟩ := bnd h
      refine J_rdL hx (kP_work hC hW (okS_e hr8)) ml_L_115 cw_work st_work ini_L hy_work (rest := []) rfl rfl (by decide) (by decide) (Nat.le_of_ble_eq_true rfl) (by decide) (by decide) dL_moves_348 ?_
      refine J_is hx (by decide) (hc_of rfl) rfl dL_moves_351 ?_
      refine J_il hx rfl dL_moves_353 ?_
      refine J_if_lt hx 436 dL_moves_355 rfl (fun h9 => ?_) (fun h9 => ?_)
      · replace h := pos h h9
        refine J_al4 hx rfl rfl dL_moves_436 ?_
        refine J_il4 hx rfl rfl dL_moves_437 ?_
        refine J_iconst hx (1 : Int32) dL_moves_438 rfl ?_
        obtain ⟨r10, hr11, h⟩ := bnd h
        refine J_rdL hx (kP_crate hC hW (okS_e hr11)) ml_L_118 cw_crate st_crate ini_L hy_crate (rest := []) rfl rfl (by decide) (by decide) (Nat.le_of_ble_eq_true rfl) (by decide) (by decide) dL_moves_439 ?_
        refine J_iconst hx (1 : Int32) dL_moves_442 rfl ?_
        refine J_icmp_ne hx 461 dL_moves_443 rfl (fun h12 => ?_) (fun h12 => ?_)
        · replace h := neg h h12
          refine J_iconst hx (0 : Int32) dL_moves_461 rfl ?_
          refine J_lw (ls' := [some (.ref (B.1 + 0)), some (.int l1), none, some (.int l3), none, none, none, some (.int r7), none, none, none]) (lwS (lwS (lwN (lwS (lwN (lwN (lwN (lwS (lwN (lwN (lwN lwZ))))))))))) ?_
          exact tL_moves_462 hx hC htr hr _ _ _ _ _  hW h
        · replace h := pos h h12
          refine J_al4 hx rfl rfl dL_moves_446 ?_
          refine J_il4 hx rfl rfl dL_moves_447 ?_
          refine J_iconst hx (3 : Int32) dL_moves_448 rfl ?_
          obtain ⟨r13, hr14, h⟩ := bnd h
          refine J_rdL hx (kP_crate hC hW (okS_e hr14)) ml_L_118 cw_crate st_crate ini_L hy_crate (rest := []) rfl rfl (by decide) (by decide) (Nat.le_of_ble_eq_true rfl) (by decide) (by decide) dL_moves_449 ?_
          refine J_il hx rfl dL_moves_452 ?_
          refine J_icmp_ne hx 461 dL_moves_454 rfl (fun h15 => ?_) (fun h15 => ?_)
          · replace h := neg h h15
            refine J_iconst hx (0 : Int32) dL_moves_461 rfl ?_
            refine J_lw (ls' := [some (.ref (B.1 + 0)), some (.int l1), none, some (.int l3), none, none, none, some (.int r7), none, none, none]) (lwS (lwS (lwN (lwS (lwN (lwN (lwN (lwS (lwN (lwN (lwN lwZ))))))))))) ?_
            exact tL_moves_462 hx hC htr hr _ _ _ _ _  hW h
          · replace h := pos h h15
            refine J_iconst hx (1 : Int32) dL_moves_457 rfl ?_
            refine J_goto hx 462 dL_moves_458 rfl ?_
            refine J_lw (ls' := [some (.ref (B.1 + 0)), some (.int l1), none, some (.int l3), none, none, none, some (.int r7), none, none, none]) (lwS (lwS (lwN (lwS (lwN (lwN (lwN (lwS (lwN (lwN (lwN lwZ))))))))))) ?_
            exact tL_moves_462 hx hC htr hr _ _ _ _ _  hW h
      · replace h := neg h h9
        refine J_al4 hx rfl rfl dL_moves_358 ?_
        refine J_il4 hx rfl rfl dL_moves_359 ?_
        obtain ⟨r16, hr17, h⟩ := bnd h
        refine J_callSW hx (kL_unpack htr hC hW hr17) ml_L_142 cw_unpack st_unpack ini_L hy_unpack (rest := []) rfl rfl (by decide) (by decide) (Nat.le_of_ble_eq_true rfl) (by decide) (by decide) dL_moves_360 fun x1 G18 z20 hh => ?_
        obtain ⟨rfl, hW19⟩ := hh
        show J X 11 G18 z20 1 6 363 [some (.ref (B.1 + 0)), some (.int l1), some (.int l2), some (.int l3), some (.int l4), some (.int r1), some (.int r5), some (.int r7), none, none, none] [.int r16.1]
        refine J_is hx (by decide) (hc_of rfl) rfl dL_moves_363 ?_
        refine J_al4 hx rfl rfl dL_moves_365 ?_
        refine J_il hx rfl dL_moves_366 ?_
        refine J_iconst hx (1 : Int32) dL_moves_368 rfl ?_
        obtain ⟨r21, hr22, h⟩ := bnd h
        refine J_rdL hx (kP_crate hC hW19 (okS_e hr22)) ml_L_118 cw_crate st_crate ini_L hy_crate (rest := []) rfl rfl (by decide) (by decide) (Nat.le_of_ble_eq_true rfl) (by decide) (by decide) dL_moves_369 ?_
        refine J_iconst hx (1 : Int32) dL_moves_372 rfl ?_
        refine J_icmp_ne hx 412 dL_moves_373 rfl (fun h23 => ?_) (fun h23 => ?_)
        · replace h := neg h h23
          refine J_il hx rfl dL_moves_412 ?_
          refine J_ldc hx cn_L_20 dL_moves_414 ?_
          refine J_icmp_ne hx 434 dL_moves_416 rfl (fun h24 => ?_) (fun h24 => ?_)
          · replace h := neg h h24
            refine J_iconst hx (0 : Int32) dL_moves_434 rfl ?_
            obtain rfl := Option.some.inj h
            exact J_zretX (b := false) hx hr hW19 dL_moves_435 (by decide) (by decide)
          · replace h := pos h h24
            refine J_al4 hx rfl rfl dL_moves_419 ?_
            refine J_il4 hx rfl rfl dL_moves_420 ?_
            refine J_iconst hx (4 : Int32) dL_moves_421 rfl ?_
            obtain ⟨r25, hr26, h⟩ := bnd h
            refine J_rdL hx (kP_work hC hW19 (okS_e hr26)) ml_L_115 cw_work st_work ini_L hy_work (rest := []) rfl rfl (by decide) (by decide) (Nat.le_of_ble_eq_true rfl) (by decide) (by decide) dL_moves_422 ?_
            refine J_il hx rfl dL_moves_425 ?_
            refine J_icmp_ne hx 434 dL_moves_427 rfl (fun h27 => ?_) (fun h27 => ?_)
            · replace h := neg h h27
              refine J_iconst hx (0 : Int32) dL_moves_434 rfl ?_
              obtain rfl := Option.some.inj h
              exact J_zretX (b := false) hx hr hW19 dL_moves_435 (by decide) (by decide)
            · replace h := pos h h27
              refine J_iconst hx (1 : Int32) dL_moves_430 rfl ?_
              refine J_goto hx 435 dL_moves_431 rfl ?_
              obtain rfl := Option.some.inj h
              exact J_zretX (b := true) hx hr hW19 dL_moves_435 (by decide) (by decide)
        · replace h := pos h h23
          refine J_il hx rfl dL_moves_376 ?_
          refine J_il hx rfl dL_moves_378 ?_
          refine J_icmp_ne hx 408 dL_moves_380 rfl (fun h28 => ?_) (fun h28 => ?_)
          · replace h := neg h h28
            refine J_iconst hx (0 : Int32) dL_moves_408 rfl ?_
            refine J_goto hx 435 dL_moves_409 rfl ?_
            obtain rfl := Option.some.inj h
            exact J_zretX (b := false) hx hr hW19 dL_moves_435 (by decide) (by decide)
          · replace h := pos h h28
            refine J_al4 hx rfl rfl dL_moves_383 ?_
            refine J_il4 hx rfl rfl dL_moves_384 ?_
            refine J_iconst hx (4 : Int32) dL_moves_385 rfl ?_
            obtain ⟨r29, hr30, h⟩ := bnd h
            refine J_rdL hx (kP_work hC hW19 (okS_e hr30)) ml_L_115 cw_work st_work ini_L hy_work (rest := []) rfl rfl (by decide) (by decide) (Nat.le_of_ble_eq_true rfl) (by decide) (by decide) dL_moves_386 ?_
            refine J_iconst hx (-1 : Int32) dL_moves_389 rfl ?_
            refine J_icmp_ne hx 408 dL_moves_390 rfl (fun h31 => ?_) (fun h31 => ?_)
            · replace h := neg h h31
              refine J_iconst hx (0 : Int32) dL_moves_408 rfl ?_
              refine J_goto hx 435 dL_moves_409 rfl ?_
              obtain rfl := Option.some.inj h
              exact J_zretX (b := false) hx hr hW19 dL_moves_435 (by decide) (by decide)
            · replace h := pos h h31
              refine J_al4 hx rfl rfl dL_moves_393 ?_
              refine J_il4 hx rfl rfl dL_moves_394 ?_
              refine J_iconst hx (5 : Int32) dL_moves_395 rfl ?_
              obtain ⟨r32, hr33, h⟩ := bnd h
              refine J_rdL hx (kP_work hC hW19 (okS_e hr33)) ml_L_115 cw_work st_work ini_L hy_work (rest := []) rfl rfl (by decide) (by decide) (Nat.le_of_ble_eq_true rfl) (by decide) (by decide) dL_moves_396 ?_
              refine J_il hx rfl dL_moves_399 ?_
              refine J_icmp_ne hx 408 dL_moves_401 rfl (fun h34 => ?_) (fun h34 => ?_)
              · replace h := neg h h34
                refine J_iconst hx (0 : Int32) dL_moves_408 rfl ?_
                refine J_goto hx 435 dL_moves_409 rfl ?_
                obtain rfl := Option.some.inj h
                exact J_zretX (b := false) hx hr hW19 dL_moves_435 (by decide) (by decide)
              · replace h := pos h h34
                refine J_iconst hx (1 : Int32) dL_moves_404 rfl ?_
                refine J_goto hx 435 dL_moves_405 rfl ?_
                obtain rfl := Option.some.inj h
                exact J_zretX (b := true) hx hr hW19 dL_moves_435 (by decide) (by decide)
    · replace h := pos h h4
      refine J_al4 hx rfl rfl dL_moves_225 ?_
      refine J_il4 hx rfl rfl dL_moves_226 ?_
      refine J_iconst hx (2 : Int32) dL_moves_227 rfl ?_
      obtain ⟨r35, hr36, h⟩ := bnd h
      refine J_rdL hx (kP_crate hC hW (okS_e hr36)) ml_L_118 cw_crate st_crate ini_L hy_crate (rest := []) rfl rfl (by decide) (by decide) (Nat.le_of_ble_eq_true rfl) (by decide) (by decide) dL_moves_228 ?_
      refine J_is hx (by decide) (hc_of rfl) rfl dL_moves_231 ?_
      refine J_il hx rfl dL_moves_233 ?_
      refine J_if_lt hx 262 dL_moves_235 rfl (fun h37 => ?_) (fun h37 => ?_)
      · replace h := pos h h37
        refine J_iconst hx (0 : Int32) dL_moves_262 rfl ?_
        refine J_lw (ls' := [some (.ref (B.1 + 0)), some (.int l1), none, none, none, none, some (.int r35), none, none, none, none]) (lwS (lwS (lwN (lwN (lwN (lwN (lwS (lwN (lwN (lwN (lwN lwZ))))))))))) ?_
        exact tL_moves_263 hx hC htr hr _ _ _ _  hW h
      · replace h := neg h h37
        refine J_al4 hx rfl rfl dL_moves_238 ?_
        refine J_il4 hx rfl rfl dL_moves_239 ?_
        refine J_iconst hx (1 : Int32) dL_moves_240 rfl ?_
        obtain ⟨r38, hr39, h⟩ := bnd h
        refine J_rdL hx (kP_crate hC hW (okS_e hr39)) ml_L_118 cw_crate st_crate ini_L hy_crate (rest := []) rfl rfl (by decide) (by decide) (Nat.le_of_ble_eq_true rfl) (by decide) (by decide) dL_moves_241 ?_
        refine J_if_ne hx 262 dL_moves_244 rfl (fun h40 => ?_) (fun h40 => ?_)
        · replace h := neg h h40
          refine J_iconst hx (0 : Int32) dL_moves_262 rfl ?_
          refine J_lw (ls' := [some (.ref (B.1 + 0)), some (.int l1), none, none, none, none, some (.int r35), none, none, none, none]) (lwS (lwS (lwN (lwN (lwN (lwN (lwS (lwN (lwN (lwN (lwN lwZ))))))))))) ?_
          exact tL_moves_263 hx hC htr hr _ _ _ _  hW h
        · replace h := pos h h40
          refine J_al4 hx rfl rfl dL_moves_247 ?_
          refine J_il4 hx rfl rfl dL_moves_248 ?_
          refine J_bipush hx (13 : Int32) dL_moves_249 rfl ?_
          obtain ⟨r41, hr42, h⟩ := bnd h
          refine J_rdL hx (kP_crate hC hW (okS_e hr42)) ml_L_118 cw_crate st_crate ini_L hy_crate (rest := []) rfl rfl (by decide) (by decide) (Nat.le_of_ble_eq_true rfl) (by decide) (by decide) dL_moves_251 ?_
          refine J_iconst hx (1 : Int32) dL_moves_254 rfl ?_
          refine J_icmp_ne hx 262 dL_moves_255 rfl (fun h43 => ?_) (fun h43 => ?_)
          · replace h := neg h h43
            refine J_iconst hx (0 : Int32) dL_moves_262 rfl ?_
            refine J_lw (ls' := [some (.ref (B.1 + 0)), some (.int l1), none, none, none, none, some (.int r35), none, none, none, none]) (lwS (lwS (lwN (lwN (lwN (lwN (lwS (lwN (lwN (lwN (lwN lwZ))))))))))) ?_
            exact tL_moves_263 hx hC htr hr _ _ _ _  hW h
          · replace h := pos h h43
            refine J_iconst hx (1 : Int32) dL_moves_258 rfl ?_
            refine J_goto hx 263 dL_moves_259 rfl ?_
            refine J_lw (ls' := [some (.ref (B.1 + 0)), some (.int l1), none, none, none, none, some (.int r35), none, none, none, none]) (lwS (lwS (lwN (lwN (lwN (lwN (lwS (lwN (lwN (lwN (lwN lwZ))))))))))) ?_
            exact tL_moves_263 hx hC htr hr _ _ _ _  hW h
  · replace h := pos h h3
    refine J_al4 hx rfl rfl dL_moves_13 ?_
    refine J_il4 hx rfl rfl dL_moves_14 ?_
    refine J_iconst hx (3 : Int32) dL_moves_15 rfl ?_
    obtain ⟨r44, hr45, h⟩ := bnd h
    refine J_rdL hx (kP_crate hC hW (okS_e hr45)) ml_L_118 cw_crate st_crate ini_L hy_crate (rest := []) rfl rfl (by decide) (by decide) (Nat.le_of_ble_eq_true rfl) (by decide) (by decide) dL_moves_16 ?_
    refine J_is hx (by decide) (hc_of rfl) rfl dL_moves_19 ?_
    refine J_il4 hx rfl rfl dL_moves_21 ?_
    refine J_il4 hx rfl rfl dL_moves_22 ?_
    refine J_icmp_eq hx 75 dL_moves_23 rfl (fun h46 => ?_) (fun h46 => ?_)
    · replace h := pos h h46
      refine J_iconst hx (0 : Int32) dL_moves_75 rfl ?_
      refine J_lw (ls' := [some (.ref (B.1 + 0)), some (.int l1), some (.int l2), none, some (.int l4), none, some (.int r44), none, none, none, none]) (lwS (lwS (lwS (lwN (lwS (lwN (lwS (lwN (lwN (lwN (lwN lwZ))))))))))) ?_
      exact tL_moves_76 hx hC htr hr _ _ _ _ _ _  hW h
    · replace h := neg h h46
      refine J_al4 hx rfl rfl dL_moves_26 ?_
      refine J_il4 hx rfl rfl dL_moves_27 ?_
      refine J_iconst hx (1 : Int32) dL_moves_28 rfl ?_
      obtain ⟨r47, hr48, h⟩ := bnd h
      refine J_rdL hx (kP_crate hC hW (okS_e hr48)) ml_L_118 cw_crate st_crate ini_L hy_crate (rest := []) rfl rfl (by decide) (by decide) (Nat.le_of_ble_eq_true rfl) (by decide) (by decide) dL_moves_29 ?_
      refine J_if_ne hx 75 dL_moves_32 rfl (fun h49 => ?_) (fun h49 => ?_)
      · replace h := neg h h49
        refine J_iconst hx (0 : Int32) dL_moves_75 rfl ?_
        refine J_lw (ls' := [some (.ref (B.1 + 0)), some (.int l1), some (.int l2), none, some (.int l4), none, some (.int r44), none, none, none, none]) (lwS (lwS (lwS (lwN (lwS (lwN (lwS (lwN (lwN (lwN (lwN lwZ))))))))))) ?_
        exact tL_moves_76 hx hC htr hr _ _ _ _ _ _  hW h
      · replace h := pos h h49
        refine J_al4 hx rfl rfl dL_moves_35 ?_
        refine J_il4 hx rfl rfl dL_moves_36 ?_
        refine J_iconst hx (2 : Int32) dL_moves_37 rfl ?_
        obtain ⟨r50, hr51, h⟩ := bnd h
        refine J_rdL hx (kP_crate hC hW (okS_e hr51)) ml_L_118 cw_crate st_crate ini_L hy_crate (rest := []) rfl rfl (by decide) (by decide) (Nat.le_of_ble_eq_true rfl) (by decide) (by decide) dL_moves_38 ?_
        refine J_iconst hx (-1 : Int32) dL_moves_41 rfl ?_
        refine J_icmp_ne hx 75 dL_moves_42 rfl (fun h52 => ?_) (fun h52 => ?_)
        · replace h := neg h h52
          refine J_iconst hx (0 : Int32) dL_moves_75 rfl ?_
          refine J_lw (ls' := [some (.ref (B.1 + 0)), some (.int l1), some (.int l2), none, some (.int l4), none, some (.int r44), none, none, none, none]) (lwS (lwS (lwS (lwN (lwS (lwN (lwS (lwN (lwN (lwN (lwN lwZ))))))))))) ?_
          exact tL_moves_76 hx hC htr hr _ _ _ _ _ _  hW h
        · replace h := pos h h52
          refine J_il hx rfl dL_moves_45 ?_
          refine J_if_lt hx 75 dL_moves_47 rfl (fun h53 => ?_) (fun h53 => ?_)
          · replace h := pos h h53
            refine J_iconst hx (0 : Int32) dL_moves_75 rfl ?_
            refine J_lw (ls' := [some (.ref (B.1 + 0)), some (.int l1), some (.int l2), none, some (.int l4), none, some (.int r44), none, none, none, none]) (lwS (lwS (lwS (lwN (lwS (lwN (lwS (lwN (lwN (lwN (lwN lwZ))))))))))) ?_
            exact tL_moves_76 hx hC htr hr _ _ _ _ _ _  hW h
          · replace h := neg h h53
            refine J_al4 hx rfl rfl dL_moves_50 ?_
            refine J_il4 hx rfl rfl dL_moves_51 ?_
            refine J_iconst hx (1 : Int32) dL_moves_52 rfl ?_
            obtain ⟨r54, hr55, h⟩ := bnd h
            refine J_rdL hx (kP_crate hC hW (okS_e hr55)) ml_L_118 cw_crate st_crate ini_L hy_crate (rest := []) rfl rfl (by decide) (by decide) (Nat.le_of_ble_eq_true rfl) (by decide) (by decide) dL_moves_53 ?_
            refine J_iconst hx (1 : Int32) dL_moves_56 rfl ?_
            refine J_icmp_ne hx 75 dL_moves_57 rfl (fun h56 => ?_) (fun h56 => ?_)
            · replace h := neg h h56
              refine J_iconst hx (0 : Int32) dL_moves_75 rfl ?_
              refine J_lw (ls' := [some (.ref (B.1 + 0)), some (.int l1), some (.int l2), none, some (.int l4), none, some (.int r44), none, none, none, none]) (lwS (lwS (lwS (lwN (lwS (lwN (lwS (lwN (lwN (lwN (lwN lwZ))))))))))) ?_
              exact tL_moves_76 hx hC htr hr _ _ _ _ _ _  hW h
            · replace h := pos h h56
              refine J_al4 hx rfl rfl dL_moves_60 ?_
              refine J_il4 hx rfl rfl dL_moves_61 ?_
              refine J_iconst hx (3 : Int32) dL_moves_62 rfl ?_
              obtain ⟨r57, hr58, h⟩ := bnd h
              refine J_rdL hx (kP_crate hC hW (okS_e hr58)) ml_L_118 cw_crate st_crate ini_L hy_crate (rest := []) rfl rfl (by decide) (by decide) (Nat.le_of_ble_eq_true rfl) (by decide) (by decide) dL_moves_63 ?_
              refine J_il hx rfl dL_moves_66 ?_
              refine J_icmp_ne hx 75 dL_moves_68 rfl (fun h59 => ?_) (fun h59 => ?_)
              · replace h := neg h h59
                refine J_iconst hx (0 : Int32) dL_moves_75 rfl ?_
                refine J_lw (ls' := [some (.ref (B.1 + 0)), some (.int l1), some (.int l2), none, some (.int l4), none, some (.int r44), none, none, none, none]) (lwS (lwS (lwS (lwN (lwS (lwN (lwS (lwN (lwN (lwN (lwN lwZ))))))))))) ?_
                exact tL_moves_76 hx hC htr hr _ _ _ _ _ _  hW h
              · replace h := pos h h59
                refine J_iconst hx (1 : Int32) dL_moves_71 rfl ?_
                refine J_goto hx 76 dL_moves_72 rfl ?_
                refine J_lw (ls' := [some (.ref (B.1 + 0)), some (.int l1), some (.int l2), none, some (.int l4), none, some (.int r44), none, none, none, none]) (lwS (lwS (lwS (lwN (lwS (lwN (lwS (lwN (lwN (lwN (lwN lwZ))))))))))) ?_
                exact tL_moves_76 hx hC htr hr _ _ _ _ _ _  hW h
theorem dL_sends_0 : decode cL_sends 0 = .ok (.aload_n 0, 1) := by decide +kernel
theorem dL_sends_1 : decode cL_sends 1 = .ok (.iload_n 1, 1) := by decide +kernel
theorem dL_sends_2 : decode cL_sends 2 = .ok (.iload_n 2, 1) := by decide +kernel
theorem dL_sends_3 : decode cL_sends 3 = .ok (.iload_n 3, 1) := by decide +kernel
theorem dL_sends_4 : decode cL_sends 4 = .ok (.invokestatic 146, 3) := by decide +kernel
theorem dL_sends_7 : decode cL_sends 7 = .ok (.istore 4, 2) := by decide +kernel
theorem dL_sends_9 : decode cL_sends 9 = .ok (.aload_n 0, 1) := by decide +kernel
theorem dL_sends_10 : decode cL_sends 10 = .ok (.iload_n 1, 1) := by decide +kernel
theorem dL_sends_11 : decode cL_sends 11 = .ok (.iload_n 3, 1) := by decide +kernel
theorem dL_sends_12 : decode cL_sends 12 = .ok (.invokestatic 149, 3) := by decide +kernel
theorem dL_sends_15 : decode cL_sends 15 = .ok (.istore 5, 2) := by decide +kernel
theorem dL_sends_17 : decode cL_sends 17 = .ok (.aload_n 0, 1) := by decide +kernel
theorem dL_sends_18 : decode cL_sends 18 = .ok (.iload_n 1, 1) := by decide +kernel
theorem dL_sends_19 : decode cL_sends 19 = .ok (.iconst 3, 1) := by decide +kernel
theorem dL_sends_20 : decode cL_sends 20 = .ok (.invokestatic 118, 3) := by decide +kernel
theorem dL_sends_23 : decode cL_sends 23 = .ok (.istore 6, 2) := by decide +kernel
theorem dL_sends_25 : decode cL_sends 25 = .ok (.aload_n 0, 1) := by decide +kernel
theorem dL_sends_26 : decode cL_sends 26 = .ok (.iload_n 1, 1) := by decide +kernel
theorem dL_sends_27 : decode cL_sends 27 = .ok (.iconst 1, 1) := by decide +kernel
theorem dL_sends_28 : decode cL_sends 28 = .ok (.invokestatic 118, 3) := by decide +kernel
theorem dL_sends_31 : decode cL_sends 31 = .ok (.iconst 1, 1) := by decide +kernel
theorem dL_sends_32 : decode cL_sends 32 = .ok (.if_icmp .ne 7, 3) := by decide +kernel
theorem dL_sends_35 : decode cL_sends 35 = .ok (.iconst 1, 1) := by decide +kernel
theorem dL_sends_36 : decode cL_sends 36 = .ok (.goto 4, 3) := by decide +kernel
theorem dL_sends_39 : decode cL_sends 39 = .ok (.iconst 0, 1) := by decide +kernel
theorem dL_sends_40 : decode cL_sends 40 = .ok (.istore 7, 2) := by decide +kernel
theorem dL_sends_42 : decode cL_sends 42 = .ok (.iload 4, 2) := by decide +kernel
theorem dL_sends_44 : decode cL_sends 44 = .ok (.ifCond .lt 98, 3) := by decide +kernel
theorem dL_sends_47 : decode cL_sends 47 = .ok (.iload 4, 2) := by decide +kernel
theorem dL_sends_49 : decode cL_sends 49 = .ok (.bipush 10, 2) := by decide +kernel
theorem dL_sends_51 : decode cL_sends 51 = .ok (.if_icmp .gt 91, 3) := by decide +kernel
theorem dL_sends_54 : decode cL_sends 54 = .ok (.iload 4, 2) := by decide +kernel
theorem dL_sends_56 : decode cL_sends 56 = .ok (.iconst 1, 1) := by decide +kernel
theorem dL_sends_57 : decode cL_sends 57 = .ok (.if_icmp .ne 7, 3) := by decide +kernel
theorem dL_sends_60 : decode cL_sends 60 = .ok (.iconst 1, 1) := by decide +kernel
theorem dL_sends_61 : decode cL_sends 61 = .ok (.goto 4, 3) := by decide +kernel
theorem dL_sends_64 : decode cL_sends 64 = .ok (.iconst 0, 1) := by decide +kernel
theorem dL_sends_65 : decode cL_sends 65 = .ok (.iload 7, 2) := by decide +kernel
theorem dL_sends_67 : decode cL_sends 67 = .ok (.if_icmp .ne 75, 3) := by decide +kernel
theorem dL_sends_70 : decode cL_sends 70 = .ok (.iload 7, 2) := by decide +kernel
theorem dL_sends_72 : decode cL_sends 72 = .ok (.ifCond .ne 31, 3) := by decide +kernel
theorem dL_sends_75 : decode cL_sends 75 = .ok (.iload 4, 2) := by decide +kernel
theorem dL_sends_77 : decode cL_sends 77 = .ok (.iconst 2, 1) := by decide +kernel
theorem dL_sends_78 : decode cL_sends 78 = .ok (.if_icmp .ne 7, 3) := by decide +kernel
theorem dL_sends_81 : decode cL_sends 81 = .ok (.iconst 1, 1) := by decide +kernel
theorem dL_sends_82 : decode cL_sends 82 = .ok (.goto 4, 3) := by decide +kernel
theorem dL_sends_85 : decode cL_sends 85 = .ok (.iconst 0, 1) := by decide +kernel
theorem dL_sends_86 : decode cL_sends 86 = .ok (.aload_n 0, 1) := by decide +kernel
theorem dL_sends_87 : decode cL_sends 87 = .ok (.iload_n 1, 1) := by decide +kernel
theorem dL_sends_88 : decode cL_sends 88 = .ok (.iconst 2, 1) := by decide +kernel
theorem dL_sends_89 : decode cL_sends 89 = .ok (.invokestatic 118, 3) := by decide +kernel
theorem dL_sends_92 : decode cL_sends 92 = .ok (.ifCond .lt 7, 3) := by decide +kernel
theorem dL_sends_95 : decode cL_sends 95 = .ok (.iconst 1, 1) := by decide +kernel
theorem dL_sends_96 : decode cL_sends 96 = .ok (.goto 4, 3) := by decide +kernel
theorem dL_sends_99 : decode cL_sends 99 = .ok (.iconst 0, 1) := by decide +kernel
theorem dL_sends_100 : decode cL_sends 100 = .ok (.if_icmp .ne 42, 3) := by decide +kernel
theorem dL_sends_103 : decode cL_sends 103 = .ok (.iload 4, 2) := by decide +kernel
theorem dL_sends_105 : decode cL_sends 105 = .ok (.iconst 3, 1) := by decide +kernel
theorem dL_sends_106 : decode cL_sends 106 = .ok (.if_icmp .ne 9, 3) := by decide +kernel
theorem dL_sends_109 : decode cL_sends 109 = .ok (.iload 6, 2) := by decide +kernel
theorem dL_sends_111 : decode cL_sends 111 = .ok (.iconst (-1), 1) := by decide +kernel
theorem dL_sends_112 : decode cL_sends 112 = .ok (.if_icmp .ne 30, 3) := by decide +kernel
theorem dL_sends_115 : decode cL_sends 115 = .ok (.iload 5, 2) := by decide +kernel
theorem dL_sends_117 : decode cL_sends 117 = .ok (.ifCond .lt 14, 3) := by decide +kernel
theorem dL_sends_120 : decode cL_sends 120 = .ok (.aload_n 0, 1) := by decide +kernel
theorem dL_sends_121 : decode cL_sends 121 = .ok (.iload_n 1, 1) := by decide +kernel
theorem dL_sends_122 : decode cL_sends 122 = .ok (.iload 5, 2) := by decide +kernel
theorem dL_sends_124 : decode cL_sends 124 = .ok (.iload_n 3, 1) := by decide +kernel
theorem dL_sends_125 : decode cL_sends 125 = .ok (.invokestatic 146, 3) := by decide +kernel
theorem dL_sends_128 : decode cL_sends 128 = .ok (.ifCond .ne 14, 3) := by decide +kernel
theorem dL_sends_131 : decode cL_sends 131 = .ok (.iload 5, 2) := by decide +kernel
theorem dL_sends_133 : decode cL_sends 133 = .ok (.iconst (-1), 1) := by decide +kernel
theorem dL_sends_134 : decode cL_sends 134 = .ok (.if_icmp .ne 10, 3) := by decide +kernel
theorem dL_sends_137 : decode cL_sends 137 = .ok (.iload 4, 2) := by decide +kernel
theorem dL_sends_139 : decode cL_sends 139 = .ok (.ifCond .ne 5, 3) := by decide +kernel
theorem dL_sends_142 : decode cL_sends 142 = .ok (.iconst 0, 1) := by decide +kernel
theorem dL_sends_143 : decode cL_sends 143 = .ok (.ireturn, 1) := by decide +kernel
theorem dL_sends_144 : decode cL_sends 144 = .ok (.aload_n 0, 1) := by decide +kernel
theorem dL_sends_145 : decode cL_sends 145 = .ok (.iload_n 2, 1) := by decide +kernel
theorem dL_sends_146 : decode cL_sends 146 = .ok (.iconst 5, 1) := by decide +kernel
theorem dL_sends_147 : decode cL_sends 147 = .ok (.invokestatic 124, 3) := by decide +kernel
theorem dL_sends_150 : decode cL_sends 150 = .ok (.istore 8, 2) := by decide +kernel
theorem dL_sends_152 : decode cL_sends 152 = .ok (.iload 6, 2) := by decide +kernel
theorem dL_sends_154 : decode cL_sends 154 = .ok (.ifCond .ge 7, 3) := by decide +kernel
theorem dL_sends_157 : decode cL_sends 157 = .ok (.iconst 0, 1) := by decide +kernel
theorem dL_sends_158 : decode cL_sends 158 = .ok (.goto 10, 3) := by decide +kernel
theorem dL_sends_161 : decode cL_sends 161 = .ok (.aload_n 0, 1) := by decide +kernel
theorem dL_sends_162 : decode cL_sends 162 = .ok (.iload 6, 2) := by decide +kernel
theorem dL_sends_164 : decode cL_sends 164 = .ok (.iconst 4, 1) := by decide +kernel
theorem dL_sends_165 : decode cL_sends 165 = .ok (.invokestatic 124, 3) := by decide +kernel
theorem dL_sends_168 : decode cL_sends 168 = .ok (.istore 9, 2) := by decide +kernel
theorem dL_sends_170 : decode cL_sends 170 = .ok (.aload_n 0, 1) := by decide +kernel
theorem dL_sends_171 : decode cL_sends 171 = .ok (.iload_n 1, 1) := by decide +kernel
theorem dL_sends_172 : decode cL_sends 172 = .ok (.iload_n 2, 1) := by decide +kernel
theorem dL_sends_173 : decode cL_sends 173 = .ok (.iload_n 3, 1) := by decide +kernel
theorem dL_sends_174 : decode cL_sends 174 = .ok (.invokestatic 151, 3) := by decide +kernel
theorem dL_sends_177 : decode cL_sends 177 = .ok (.istore 10, 2) := by decide +kernel
theorem dL_sends_179 : decode cL_sends 179 = .ok (.iload 4, 2) := by decide +kernel
theorem dL_sends_181 : decode cL_sends 181 = .ok (.ifCond .eq 16, 3) := by decide +kernel
theorem dL_sends_184 : decode cL_sends 184 = .ok (.iload 10, 2) := by decide +kernel
theorem dL_sends_186 : decode cL_sends 186 = .ok (.ldc 20, 2) := by decide +kernel
theorem dL_sends_188 : decode cL_sends 188 = .ok (.if_icmp .ne 7, 3) := by decide +kernel
theorem dL_sends_191 : decode cL_sends 191 = .ok (.iconst 1, 1) := by decide +kernel
theorem dL_sends_192 : decode cL_sends 192 = .ok (.goto 4, 3) := by decide +kernel
theorem dL_sends_195 : decode cL_sends 195 = .ok (.iconst 0, 1) := by decide +kernel
theorem dL_sends_196 : decode cL_sends 196 = .ok (.ireturn, 1) := by decide +kernel
theorem dL_sends_197 : decode cL_sends 197 = .ok (.iload 10, 2) := by decide +kernel
theorem dL_sends_199 : decode cL_sends 199 = .ok (.aload_n 0, 1) := by decide +kernel
theorem dL_sends_200 : decode cL_sends 200 = .ok (.iconst 0, 1) := by decide +kernel
theorem dL_sends_201 : decode cL_sends 201 = .ok (.invokestatic 110, 3) := by decide +kernel
theorem dL_sends_204 : decode cL_sends 204 = .ok (.if_icmp .le 102, 3) := by decide +kernel
theorem dL_sends_207 : decode cL_sends 207 = .ok (.aload_n 0, 1) := by decide +kernel
theorem dL_sends_208 : decode cL_sends 208 = .ok (.iload_n 1, 1) := by decide +kernel
theorem dL_sends_209 : decode cL_sends 209 = .ok (.iconst 4, 1) := by decide +kernel
theorem dL_sends_210 : decode cL_sends 210 = .ok (.invokestatic 118, 3) := by decide +kernel
theorem dL_sends_213 : decode cL_sends 213 = .ok (.iload_n 2, 1) := by decide +kernel
theorem dL_sends_214 : decode cL_sends 214 = .ok (.if_icmp .ne 92, 3) := by decide +kernel
theorem dL_sends_217 : decode cL_sends 217 = .ok (.aload_n 0, 1) := by decide +kernel
theorem dL_sends_218 : decode cL_sends 218 = .ok (.iload_n 1, 1) := by decide +kernel
theorem dL_sends_219 : decode cL_sends 219 = .ok (.iconst 5, 1) := by decide +kernel
theorem dL_sends_220 : decode cL_sends 220 = .ok (.invokestatic 118, 3) := by decide +kernel
theorem dL_sends_223 : decode cL_sends 223 = .ok (.iload 10, 2) := by decide +kernel
theorem dL_sends_225 : decode cL_sends 225 = .ok (.if_icmp .ne 81, 3) := by decide +kernel
theorem dL_sends_228 : decode cL_sends 228 = .ok (.aload_n 0, 1) := by decide +kernel
theorem dL_sends_229 : decode cL_sends 229 = .ok (.iload_n 1, 1) := by decide +kernel
theorem dL_sends_230 : decode cL_sends 230 = .ok (.iconst 3, 1) := by decide +kernel
theorem dL_sends_231 : decode cL_sends 231 = .ok (.invokestatic 118, 3) := by decide +kernel
theorem dL_sends_234 : decode cL_sends 234 = .ok (.iconst (-1), 1) := by decide +kernel
theorem dL_sends_235 : decode cL_sends 235 = .ok (.if_icmp .ne 71, 3) := by decide +kernel
theorem dL_sends_238 : decode cL_sends 238 = .ok (.aload_n 0, 1) := by decide +kernel
theorem dL_sends_239 : decode cL_sends 239 = .ok (.iload_n 2, 1) := by decide +kernel
theorem dL_sends_240 : decode cL_sends 240 = .ok (.iconst 5, 1) := by decide +kernel
theorem dL_sends_241 : decode cL_sends 241 = .ok (.invokestatic 124, 3) := by decide +kernel
theorem dL_sends_244 : decode cL_sends 244 = .ok (.iload 8, 2) := by decide +kernel
theorem dL_sends_246 : decode cL_sends 246 = .ok (.aload_n 0, 1) := by decide +kernel
theorem dL_sends_247 : decode cL_sends 247 = .ok (.iload_n 1, 1) := by decide +kernel
theorem dL_sends_248 : decode cL_sends 248 = .ok (.bipush 12, 2) := by decide +kernel
theorem dL_sends_250 : decode cL_sends 250 = .ok (.invokestatic 118, 3) := by decide +kernel
theorem dL_sends_253 : decode cL_sends 253 = .ok (.iadd, 1) := by decide +kernel
theorem dL_sends_254 : decode cL_sends 254 = .ok (.if_icmp .ne 52, 3) := by decide +kernel
theorem dL_sends_257 : decode cL_sends 257 = .ok (.aload_n 0, 1) := by decide +kernel
theorem dL_sends_258 : decode cL_sends 258 = .ok (.iload 6, 2) := by decide +kernel
theorem dL_sends_260 : decode cL_sends 260 = .ok (.iconst 4, 1) := by decide +kernel
theorem dL_sends_261 : decode cL_sends 261 = .ok (.invokestatic 124, 3) := by decide +kernel
theorem dL_sends_264 : decode cL_sends 264 = .ok (.iload 9, 2) := by decide +kernel
theorem dL_sends_266 : decode cL_sends 266 = .ok (.aload_n 0, 1) := by decide +kernel
theorem dL_sends_267 : decode cL_sends 267 = .ok (.iload_n 1, 1) := by decide +kernel
theorem dL_sends_268 : decode cL_sends 268 = .ok (.bipush 12, 2) := by decide +kernel
theorem dL_sends_270 : decode cL_sends 270 = .ok (.invokestatic 118, 3) := by decide +kernel
theorem dL_sends_273 : decode cL_sends 273 = .ok (.isub, 1) := by decide +kernel
theorem dL_sends_274 : decode cL_sends 274 = .ok (.if_icmp .ne 32, 3) := by decide +kernel
theorem dL_sends_277 : decode cL_sends 277 = .ok (.iload_n 3, 1) := by decide +kernel
theorem dL_sends_278 : decode cL_sends 278 = .ok (.iconst (-1), 1) := by decide +kernel
theorem dL_sends_279 : decode cL_sends 279 = .ok (.if_icmp .eq 12, 3) := by decide +kernel
theorem dL_sends_282 : decode cL_sends 282 = .ok (.aload_n 0, 1) := by decide +kernel
theorem dL_sends_283 : decode cL_sends 283 = .ok (.iload_n 3, 1) := by decide +kernel
theorem dL_sends_284 : decode cL_sends 284 = .ok (.invokestatic 126, 3) := by decide +kernel
theorem dL_sends_287 : decode cL_sends 287 = .ok (.iconst (-1), 1) := by decide +kernel
theorem dL_sends_288 : decode cL_sends 288 = .ok (.if_icmp .ne 18, 3) := by decide +kernel
theorem dL_sends_291 : decode cL_sends 291 = .ok (.aload_n 0, 1) := by decide +kernel
theorem dL_sends_292 : decode cL_sends 292 = .ok (.iload_n 1, 1) := by decide +kernel
theorem dL_sends_293 : decode cL_sends 293 = .ok (.iload_n 2, 1) := by decide +kernel
theorem dL_sends_294 : decode cL_sends 294 = .ok (.iload_n 3, 1) := by decide +kernel
theorem dL_sends_295 : decode cL_sends 295 = .ok (.invokestatic 146, 3) := by decide +kernel
theorem dL_sends_298 : decode cL_sends 298 = .ok (.iconst 3, 1) := by decide +kernel
theorem dL_sends_299 : decode cL_sends 299 = .ok (.if_icmp .ne 7, 3) := by decide +kernel
theorem dL_sends_302 : decode cL_sends 302 = .ok (.iconst 1, 1) := by decide +kernel
theorem dL_sends_303 : decode cL_sends 303 = .ok (.goto 4, 3) := by decide +kernel
theorem dL_sends_306 : decode cL_sends 306 = .ok (.iconst 0, 1) := by decide +kernel
theorem dL_sends_307 : decode cL_sends 307 = .ok (.ireturn, 1) := by decide +kernel
def sL_sends_291 (w : Wl) (l1 : Int32) (l2 : Int32) (l3 : Int32) : Option (Bool × Wl) := (sO_refusal w l1 l2 l3).bind (fun r1 => (if r1 = (3 : Int32) then some (true, w) else some (false, w)))
theorem tL_sends_291 {X : Cx} {B : Bs} {sz : Nat} {r : (Bool × Wl)} (hx : Fx X cL_sends 11 RL 9 1 6) (hC : GC (xΓ X) B) (htr : (xl X).stackTraces = false) (hr : Rt X (some .boolean) 1 6 (WX (xΓ X) B (some (.int (bI r.1))) r.2)) : ∀ (w : Wl) (l1 : Int32) (l2 : Int32) (l3 : Int32) {G : Gf} (hW : Wd (xΓ X) B w G) (h : sL_sends_291  w l1 l2 l3 = some r), J X 11 G sz 1 6 291 [some (.ref (B.1 + 0)), some (.int l1), some (.int l2), some (.int l3), none, none, none, none, none, none, none] [] := by
  intro w l1 l2 l3 G hW h
  unfold sL_sends_291 at h
  refine J_al4 hx rfl rfl dL_sends_291 ?_
  refine J_il4 hx rfl rfl dL_sends_292 ?_
  refine J_il4 hx rfl rfl dL_sends_293 ?_
  refine J_il4 hx rfl rfl dL_sends_294 ?_
  obtain ⟨r1, hr2, h⟩ := bnd h
  refine J_rdL hx (kP_refusal hC hW (okS_e hr2)) ml_L_146 cw_refusal st_refusal ini_L hy_refusal (rest := []) rfl rfl (by decide) (by decide) (Nat.le_of_ble_eq_true rfl) (by decide) (by decide) dL_sends_295 ?_
  refine J_iconst hx (3 : Int32) dL_sends_298 rfl ?_
  refine J_icmp_ne hx 306 dL_sends_299 rfl (fun h3 => ?_) (fun h3 => ?_)
  · replace h := neg h h3
    refine J_iconst hx (0 : Int32) dL_sends_306 rfl ?_
    obtain rfl := Option.some.inj h
    exact J_zretX (b := false) hx hr hW dL_sends_307 (by decide) (by decide)
  · replace h := pos h h3
    refine J_iconst hx (1 : Int32) dL_sends_302 rfl ?_
    refine J_goto hx 307 dL_sends_303 rfl ?_
    obtain rfl := Option.some.inj h
    exact J_zretX (b := true) hx hr hW dL_sends_307 (by decide) (by decide)
def sL_sends_168 (w : Wl) (l1 : Int32) (l2 : Int32) (l3 : Int32) (l4 : Int32) (l6 : Int32) (l8 : Int32) (s0 : Int32) : Option (Bool × Wl) := (sL_send w l1 l2 l3).bind (fun r1 => (if l4 = 0 then (sO_whole r1.2 (0 : Int32)).bind (fun r7 => (if r1.1 ≤ r7 then some (false, r1.2) else (sO_crate r1.2 l1 (4 : Int32)).bind (fun r10 => (if r10 = l2 then (sO_crate r1.2 l1 (5 : Int32)).bind (fun r13 => (if r13 = r1.1 then (sO_crate r1.2 l1 (3 : Int32)).bind (fun r16 => (if r16 = (-1 : Int32) then (sO_venue r1.2 l2 (5 : Int32)).bind (fun r19 => (sO_crate r1.2 l1 (12 : Int32)).bind (fun r21 => (if r19 = (l8 + r21) then (sO_venue r1.2 l6 (4 : Int32)).bind (fun r24 => (if r24 = (s0 - r21) then (if l3 = (-1 : Int32) then sL_sends_291 r1.2 l1 l2 l3 else (sO_courier r1.2 l3).bind (fun r28 => (if r28 = (-1 : Int32) then sL_sends_291 r1.2 l1 l2 l3 else some (false, r1.2)))) else some (false, r1.2))) else some (false, r1.2)))) else some (false, r1.2))) else some (false, r1.2))) else some (false, r1.2))))) else (if r1.1 = (-90200 : Int32) then some (true, r1.2) else some (false, r1.2))))
theorem tL_sends_168 {X : Cx} {B : Bs} {sz : Nat} {r : (Bool × Wl)} (hx : Fx X cL_sends 11 RL 9 1 6) (hC : GC (xΓ X) B) (htr : (xl X).stackTraces = false) (hr : Rt X (some .boolean) 1 6 (WX (xΓ X) B (some (.int (bI r.1))) r.2)) : ∀ (w : Wl) (l1 : Int32) (l2 : Int32) (l3 : Int32) (l4 : Int32) (l6 : Int32) (l8 : Int32) (s0 : Int32) {G : Gf} (hW : Wd (xΓ X) B w G) (h : sL_sends_168  w l1 l2 l3 l4 l6 l8 s0 = some r), J X 11 G sz 0 0 168 [some (.ref (B.1 + 0)), some (.int l1), some (.int l2), some (.int l3), some (.int l4), none, some (.int l6), none, some (.int l8), none, none] [.int s0] := by
  intro w l1 l2 l3 l4 l6 l8 s0 G hW h
  unfold sL_sends_168 at h
  refine J_is hx (by decide) (hc_of rfl) rfl dL_sends_168 ?_
  refine J_al4 hx rfl rfl dL_sends_170 ?_
  refine J_il4 hx rfl rfl dL_sends_171 ?_
  refine J_il4 hx rfl rfl dL_sends_172 ?_
  refine J_il4 hx rfl rfl dL_sends_173 ?_
  obtain ⟨r1, hr2, h⟩ := bnd h
  refine J_callSW hx (kL_send htr hC hW hr2) ml_L_151 cw_send st_send ini_L hy_send (rest := []) rfl rfl (by decide) (by decide) (Nat.le_of_ble_eq_true rfl) (by decide) (by decide) dL_sends_174 fun x1 G3 z5 hh => ?_
  obtain ⟨rfl, hW4⟩ := hh
  show J X 11 G3 z5 1 6 177 [some (.ref (B.1 + 0)), some (.int l1), some (.int l2), some (.int l3), some (.int l4), none, some (.int l6), none, some (.int l8), some (.int s0), none] [.int r1.1]
  refine J_is hx (by decide) (hc_of rfl) rfl dL_sends_177 ?_
  refine J_il hx rfl dL_sends_179 ?_
  refine J_if_eq hx 197 dL_sends_181 rfl (fun h6 => ?_) (fun h6 => ?_)
  · replace h := pos h h6
    refine J_il hx rfl dL_sends_197 ?_
    refine J_al4 hx rfl rfl dL_sends_199 ?_
    refine J_iconst hx (0 : Int32) dL_sends_200 rfl ?_
    obtain ⟨r7, hr8, h⟩ := bnd h
    refine J_rdL hx (kP_whole hC hW4 (okS_e hr8)) ml_L_110 cw_whole st_whole ini_L hy_whole (rest := [.int r1.1]) rfl rfl (by decide) (by decide) (Nat.le_of_ble_eq_true rfl) (by decide) (by decide) dL_sends_201 ?_
    refine J_icmp_le hx 306 dL_sends_204 rfl (fun h9 => ?_) (fun h9 => ?_)
    · replace h := pos h h9
      refine J_iconst hx (0 : Int32) dL_sends_306 rfl ?_
      obtain rfl := Option.some.inj h
      exact J_zretX (b := false) hx hr hW4 dL_sends_307 (by decide) (by decide)
    · replace h := neg h h9
      refine J_al4 hx rfl rfl dL_sends_207 ?_
      refine J_il4 hx rfl rfl dL_sends_208 ?_
      refine J_iconst hx (4 : Int32) dL_sends_209 rfl ?_
      obtain ⟨r10, hr11, h⟩ := bnd h
      refine J_rdL hx (kP_crate hC hW4 (okS_e hr11)) ml_L_118 cw_crate st_crate ini_L hy_crate (rest := []) rfl rfl (by decide) (by decide) (Nat.le_of_ble_eq_true rfl) (by decide) (by decide) dL_sends_210 ?_
      refine J_il4 hx rfl rfl dL_sends_213 ?_
      refine J_icmp_ne hx 306 dL_sends_214 rfl (fun h12 => ?_) (fun h12 => ?_)
      · replace h := neg h h12
        refine J_iconst hx (0 : Int32) dL_sends_306 rfl ?_
        obtain rfl := Option.some.inj h
        exact J_zretX (b := false) hx hr hW4 dL_sends_307 (by decide) (by decide)
      · replace h := pos h h12
        refine J_al4 hx rfl rfl dL_sends_217 ?_
        refine J_il4 hx rfl rfl dL_sends_218 ?_
        refine J_iconst hx (5 : Int32) dL_sends_219 rfl ?_
        obtain ⟨r13, hr14, h⟩ := bnd h
        refine J_rdL hx (kP_crate hC hW4 (okS_e hr14)) ml_L_118 cw_crate st_crate ini_L hy_crate (rest := []) rfl rfl (by decide) (by decide) (Nat.le_of_ble_eq_true rfl) (by decide) (by decide) dL_sends_220 ?_
        refine J_il hx rfl dL_sends_223 ?_
        refine J_icmp_ne hx 306 dL_sends_225 rfl (fun h15 => ?_) (fun h15 => ?_)
        · replace h := neg h h15
          refine J_iconst hx (0 : Int32) dL_sends_306 rfl ?_
          obtain rfl := Option.some.inj h
          exact J_zretX (b := false) hx hr hW4 dL_sends_307 (by decide) (by decide)
        · replace h := pos h h15
          refine J_al4 hx rfl rfl dL_sends_228 ?_
          refine J_il4 hx rfl rfl dL_sends_229 ?_
          refine J_iconst hx (3 : Int32) dL_sends_230 rfl ?_
          obtain ⟨r16, hr17, h⟩ := bnd h
          refine J_rdL hx (kP_crate hC hW4 (okS_e hr17)) ml_L_118 cw_crate st_crate ini_L hy_crate (rest := []) rfl rfl (by decide) (by decide) (Nat.le_of_ble_eq_true rfl) (by decide) (by decide) dL_sends_231 ?_
          refine J_iconst hx (-1 : Int32) dL_sends_234 rfl ?_
          refine J_icmp_ne hx 306 dL_sends_235 rfl (fun h18 => ?_) (fun h18 => ?_)
          · replace h := neg h h18
            refine J_iconst hx (0 : Int32) dL_sends_306 rfl ?_
            obtain rfl := Option.some.inj h
            exact J_zretX (b := false) hx hr hW4 dL_sends_307 (by decide) (by decide)
          · replace h := pos h h18
            refine J_al4 hx rfl rfl dL_sends_238 ?_
            refine J_il4 hx rfl rfl dL_sends_239 ?_
            refine J_iconst hx (5 : Int32) dL_sends_240 rfl ?_
            obtain ⟨r19, hr20, h⟩ := bnd h
            refine J_rdL hx (kP_venue hC hW4 (okS_e hr20)) ml_L_124 cw_venue st_venue ini_L hy_venue (rest := []) rfl rfl (by decide) (by decide) (Nat.le_of_ble_eq_true rfl) (by decide) (by decide) dL_sends_241 ?_
            refine J_il hx rfl dL_sends_244 ?_
            refine J_al4 hx rfl rfl dL_sends_246 ?_
            refine J_il4 hx rfl rfl dL_sends_247 ?_
            refine J_bipush hx (12 : Int32) dL_sends_248 rfl ?_
            obtain ⟨r21, hr22, h⟩ := bnd h
            refine J_rdL hx (kP_crate hC hW4 (okS_e hr22)) ml_L_118 cw_crate st_crate ini_L hy_crate (rest := [.int l8, .int r19]) rfl rfl (by decide) (by decide) (Nat.le_of_ble_eq_true rfl) (by decide) (by decide) dL_sends_250 ?_
            refine J_iadd hx dL_sends_253 ?_
            refine J_icmp_ne hx 306 dL_sends_254 rfl (fun h23 => ?_) (fun h23 => ?_)
            · replace h := neg h h23
              refine J_iconst hx (0 : Int32) dL_sends_306 rfl ?_
              obtain rfl := Option.some.inj h
              exact J_zretX (b := false) hx hr hW4 dL_sends_307 (by decide) (by decide)
            · replace h := pos h h23
              refine J_al4 hx rfl rfl dL_sends_257 ?_
              refine J_il hx rfl dL_sends_258 ?_
              refine J_iconst hx (4 : Int32) dL_sends_260 rfl ?_
              obtain ⟨r24, hr25, h⟩ := bnd h
              refine J_rdL hx (kP_venue hC hW4 (okS_e hr25)) ml_L_124 cw_venue st_venue ini_L hy_venue (rest := []) rfl rfl (by decide) (by decide) (Nat.le_of_ble_eq_true rfl) (by decide) (by decide) dL_sends_261 ?_
              refine J_il hx rfl dL_sends_264 ?_
              refine J_al4 hx rfl rfl dL_sends_266 ?_
              refine J_il4 hx rfl rfl dL_sends_267 ?_
              refine J_bipush hx (12 : Int32) dL_sends_268 rfl ?_
              refine J_rdL hx (kP_crate hC hW4 (okS_e hr22)) ml_L_118 cw_crate st_crate ini_L hy_crate (rest := [.int s0, .int r24]) rfl rfl (by decide) (by decide) (Nat.le_of_ble_eq_true rfl) (by decide) (by decide) dL_sends_270 ?_
              refine J_isub hx dL_sends_273 ?_
              refine J_icmp_ne hx 306 dL_sends_274 rfl (fun h26 => ?_) (fun h26 => ?_)
              · replace h := neg h h26
                refine J_iconst hx (0 : Int32) dL_sends_306 rfl ?_
                obtain rfl := Option.some.inj h
                exact J_zretX (b := false) hx hr hW4 dL_sends_307 (by decide) (by decide)
              · replace h := pos h h26
                refine J_il4 hx rfl rfl dL_sends_277 ?_
                refine J_iconst hx (-1 : Int32) dL_sends_278 rfl ?_
                refine J_icmp_eq hx 291 dL_sends_279 rfl (fun h27 => ?_) (fun h27 => ?_)
                · replace h := pos h h27
                  refine J_lw (ls' := [some (.ref (B.1 + 0)), some (.int l1), some (.int l2), some (.int l3), none, none, none, none, none, none, none]) (lwS (lwS (lwS (lwS (lwN (lwN (lwN (lwN (lwN (lwN (lwN lwZ))))))))))) ?_
                  exact tL_sends_291 hx hC htr hr _ _ _ _  hW4 h
                · replace h := neg h h27
                  refine J_al4 hx rfl rfl dL_sends_282 ?_
                  refine J_il4 hx rfl rfl dL_sends_283 ?_
                  obtain ⟨r28, hr29, h⟩ := bnd h
                  refine J_rdL hx (kP_courier hC hW4 (okS_e hr29)) ml_L_126 cw_courier st_courier ini_L hy_courier (rest := []) rfl rfl (by decide) (by decide) (Nat.le_of_ble_eq_true rfl) (by decide) (by decide) dL_sends_284 ?_
                  refine J_iconst hx (-1 : Int32) dL_sends_287 rfl ?_
                  refine J_icmp_ne hx 306 dL_sends_288 rfl (fun h30 => ?_) (fun h30 => ?_)
                  · replace h := neg h h30
                    refine J_iconst hx (0 : Int32) dL_sends_306 rfl ?_
                    obtain rfl := Option.some.inj h
                    exact J_zretX (b := false) hx hr hW4 dL_sends_307 (by decide) (by decide)
                  · replace h := pos h h30
                    refine J_lw (ls' := [some (.ref (B.1 + 0)), some (.int l1), some (.int l2), some (.int l3), none, none, none, none, none, none, none]) (lwS (lwS (lwS (lwS (lwN (lwN (lwN (lwN (lwN (lwN (lwN lwZ))))))))))) ?_
                    exact tL_sends_291 hx hC htr hr _ _ _ _  hW4 h
  · replace h := neg h h6
    refine J_il hx rfl dL_sends_184 ?_
    refine J_ldc hx cn_L_20 dL_sends_186 ?_
    refine J_icmp_ne hx 195 dL_sends_188 rfl (fun h31 => ?_) (fun h31 => ?_)
    · replace h := neg h h31
      refine J_iconst hx (0 : Int32) dL_sends_195 rfl ?_
      obtain rfl := Option.some.inj h
      exact J_zretX (b := false) hx hr hW4 dL_sends_196 (by decide) (by decide)
    · replace h := pos h h31
      refine J_iconst hx (1 : Int32) dL_sends_191 rfl ?_
      refine J_goto hx 196 dL_sends_192 rfl ?_
      obtain rfl := Option.some.inj h
      exact J_zretX (b := true) hx hr hW4 dL_sends_196 (by decide) (by decide)
def sL_sends_144 (w : Wl) (l1 : Int32) (l2 : Int32) (l3 : Int32) (l4 : Int32) (l6 : Int32) : Option (Bool × Wl) := (sO_venue w l2 (5 : Int32)).bind (fun r1 => (if 0 ≤ l6 then (sO_venue w l6 (4 : Int32)).bind (fun r4 => sL_sends_168 w l1 l2 l3 l4 l6 r1 r4) else sL_sends_168 w l1 l2 l3 l4 l6 r1 (0 : Int32)))
theorem tL_sends_144 {X : Cx} {B : Bs} {sz : Nat} {r : (Bool × Wl)} (hx : Fx X cL_sends 11 RL 9 1 6) (hC : GC (xΓ X) B) (htr : (xl X).stackTraces = false) (hr : Rt X (some .boolean) 1 6 (WX (xΓ X) B (some (.int (bI r.1))) r.2)) : ∀ (w : Wl) (l1 : Int32) (l2 : Int32) (l3 : Int32) (l4 : Int32) (l6 : Int32) {G : Gf} (hW : Wd (xΓ X) B w G) (h : sL_sends_144  w l1 l2 l3 l4 l6 = some r), J X 11 G sz 0 0 144 [some (.ref (B.1 + 0)), some (.int l1), some (.int l2), some (.int l3), some (.int l4), none, some (.int l6), none, none, none, none] [] := by
  intro w l1 l2 l3 l4 l6 G hW h
  unfold sL_sends_144 at h
  refine J_al4 hx rfl rfl dL_sends_144 ?_
  refine J_il4 hx rfl rfl dL_sends_145 ?_
  refine J_iconst hx (5 : Int32) dL_sends_146 rfl ?_
  obtain ⟨r1, hr2, h⟩ := bnd h
  refine J_rdL hx (kP_venue hC hW (okS_e hr2)) ml_L_124 cw_venue st_venue ini_L hy_venue (rest := []) rfl rfl (by decide) (by decide) (Nat.le_of_ble_eq_true rfl) (by decide) (by decide) dL_sends_147 ?_
  refine J_is hx (by decide) (hc_of rfl) rfl dL_sends_150 ?_
  refine J_il hx rfl dL_sends_152 ?_
  refine J_if_ge hx 161 dL_sends_154 rfl (fun h3 => ?_) (fun h3 => ?_)
  · replace h := pos h h3
    refine J_al4 hx rfl rfl dL_sends_161 ?_
    refine J_il hx rfl dL_sends_162 ?_
    refine J_iconst hx (4 : Int32) dL_sends_164 rfl ?_
    obtain ⟨r4, hr5, h⟩ := bnd h
    refine J_rdL hx (kP_venue hC hW (okS_e hr5)) ml_L_124 cw_venue st_venue ini_L hy_venue (rest := []) rfl rfl (by decide) (by decide) (Nat.le_of_ble_eq_true rfl) (by decide) (by decide) dL_sends_165 ?_
    exact tL_sends_168 hx hC htr hr _ _ _ _ _ _ _ _  hW h
  · replace h := neg h h3
    refine J_iconst hx (0 : Int32) dL_sends_157 rfl ?_
    refine J_goto hx 168 dL_sends_158 rfl ?_
    exact tL_sends_168 hx hC htr hr _ _ _ _ _ _ _ _  hW h
def sL_sends_131 (w : Wl) (l1 : Int32) (l2 : Int32) (l3 : Int32) (l4 : Int32) (l5 : Int32) (l6 : Int32) : Option (Bool × Wl) := (if l5 = (-1 : Int32) then (if l4 = 0 then some (false, w) else sL_sends_144 w l1 l2 l3 l4 l6) else sL_sends_144 w l1 l2 l3 l4 l6)
theorem tL_sends_131 {X : Cx} {B : Bs} {sz : Nat} {r : (Bool × Wl)} (hx : Fx X cL_sends 11 RL 9 1 6) (hC : GC (xΓ X) B) (htr : (xl X).stackTraces = false) (hr : Rt X (some .boolean) 1 6 (WX (xΓ X) B (some (.int (bI r.1))) r.2)) : ∀ (w : Wl) (l1 : Int32) (l2 : Int32) (l3 : Int32) (l4 : Int32) (l5 : Int32) (l6 : Int32) {G : Gf} (hW : Wd (xΓ X) B w G) (h : sL_sends_131  w l1 l2 l3 l4 l5 l6 = some r), J X 11 G sz 0 0 131 [some (.ref (B.1 + 0)), some (.int l1), some (.int l2), some (.int l3), some (.int l4), some (.int l5), some (.int l6), none, none, none, none] [] := by
  intro w l1 l2 l3 l4 l5 l6 G hW h
  unfold sL_sends_131 at h
  refine J_il hx rfl dL_sends_131 ?_
  refine J_iconst hx (-1 : Int32) dL_sends_133 rfl ?_
  refine J_icmp_ne hx 144 dL_sends_134 rfl (fun h1 => ?_) (fun h1 => ?_)
  · replace h := neg h h1
    refine J_lw (ls' := [some (.ref (B.1 + 0)), some (.int l1), some (.int l2), some (.int l3), some (.int l4), none, some (.int l6), none, none, none, none]) (lwS (lwS (lwS (lwS (lwS (lwN (lwS (lwN (lwN (lwN (lwN lwZ))))))))))) ?_
    exact tL_sends_144 hx hC htr hr _ _ _ _ _ _  hW h
  · replace h := pos h h1
    refine J_il hx rfl dL_sends_137 ?_
    refine J_if_ne hx 144 dL_sends_139 rfl (fun h2 => ?_) (fun h2 => ?_)
    · replace h := neg h h2
      refine J_lw (ls' := [some (.ref (B.1 + 0)), some (.int l1), some (.int l2), some (.int l3), some (.int l4), none, some (.int l6), none, none, none, none]) (lwS (lwS (lwS (lwS (lwS (lwN (lwS (lwN (lwN (lwN (lwN lwZ))))))))))) ?_
      exact tL_sends_144 hx hC htr hr _ _ _ _ _ _  hW h
    · replace h := pos h h2
      refine J_iconst hx (0 : Int32) dL_sends_142 rfl ?_
      obtain rfl := Option.some.inj h
      exact J_zretX (b := false) hx hr hW dL_sends_143 (by decide) (by decide)
def sL_sends_115 (w : Wl) (l1 : Int32) (l2 : Int32) (l3 : Int32) (l4 : Int32) (l5 : Int32) (l6 : Int32) : Option (Bool × Wl) := (if l5 < 0 then sL_sends_131 w l1 l2 l3 l4 l5 l6 else (sO_refusal w l1 l5 l3).bind (fun r2 => (if r2 = 0 then sL_sends_131 w l1 l2 l3 l4 l5 l6 else some (false, w))))
theorem tL_sends_115 {X : Cx} {B : Bs} {sz : Nat} {r : (Bool × Wl)} (hx : Fx X cL_sends 11 RL 9 1 6) (hC : GC (xΓ X) B) (htr : (xl X).stackTraces = false) (hr : Rt X (some .boolean) 1 6 (WX (xΓ X) B (some (.int (bI r.1))) r.2)) : ∀ (w : Wl) (l1 : Int32) (l2 : Int32) (l3 : Int32) (l4 : Int32) (l5 : Int32) (l6 : Int32) {G : Gf} (hW : Wd (xΓ X) B w G) (h : sL_sends_115  w l1 l2 l3 l4 l5 l6 = some r), J X 11 G sz 0 0 115 [some (.ref (B.1 + 0)), some (.int l1), some (.int l2), some (.int l3), some (.int l4), some (.int l5), some (.int l6), none, none, none, none] [] := by
  intro w l1 l2 l3 l4 l5 l6 G hW h
  unfold sL_sends_115 at h
  refine J_il hx rfl dL_sends_115 ?_
  refine J_if_lt hx 131 dL_sends_117 rfl (fun h1 => ?_) (fun h1 => ?_)
  · replace h := pos h h1
    exact tL_sends_131 hx hC htr hr _ _ _ _ _ _ _  hW h
  · replace h := neg h h1
    refine J_al4 hx rfl rfl dL_sends_120 ?_
    refine J_il4 hx rfl rfl dL_sends_121 ?_
    refine J_il hx rfl dL_sends_122 ?_
    refine J_il4 hx rfl rfl dL_sends_124 ?_
    obtain ⟨r2, hr3, h⟩ := bnd h
    refine J_rdL hx (kP_refusal hC hW (okS_e hr3)) ml_L_146 cw_refusal st_refusal ini_L hy_refusal (rest := []) rfl rfl (by decide) (by decide) (Nat.le_of_ble_eq_true rfl) (by decide) (by decide) dL_sends_125 ?_
    refine J_if_ne hx 142 dL_sends_128 rfl (fun h4 => ?_) (fun h4 => ?_)
    · replace h := neg h h4
      refine J_iconst hx (0 : Int32) dL_sends_142 rfl ?_
      obtain rfl := Option.some.inj h
      exact J_zretX (b := false) hx hr hW dL_sends_143 (by decide) (by decide)
    · replace h := pos h h4
      exact tL_sends_131 hx hC htr hr _ _ _ _ _ _ _  hW h
def sL_sends_103 (w : Wl) (l1 : Int32) (l2 : Int32) (l3 : Int32) (l4 : Int32) (l5 : Int32) (l6 : Int32) : Option (Bool × Wl) := (if l4 = (3 : Int32) then (if l6 = (-1 : Int32) then sL_sends_115 w l1 l2 l3 l4 l5 l6 else some (false, w)) else sL_sends_115 w l1 l2 l3 l4 l5 l6)
theorem tL_sends_103 {X : Cx} {B : Bs} {sz : Nat} {r : (Bool × Wl)} (hx : Fx X cL_sends 11 RL 9 1 6) (hC : GC (xΓ X) B) (htr : (xl X).stackTraces = false) (hr : Rt X (some .boolean) 1 6 (WX (xΓ X) B (some (.int (bI r.1))) r.2)) : ∀ (w : Wl) (l1 : Int32) (l2 : Int32) (l3 : Int32) (l4 : Int32) (l5 : Int32) (l6 : Int32) {G : Gf} (hW : Wd (xΓ X) B w G) (h : sL_sends_103  w l1 l2 l3 l4 l5 l6 = some r), J X 11 G sz 0 0 103 [some (.ref (B.1 + 0)), some (.int l1), some (.int l2), some (.int l3), some (.int l4), some (.int l5), some (.int l6), none, none, none, none] [] := by
  intro w l1 l2 l3 l4 l5 l6 G hW h
  unfold sL_sends_103 at h
  refine J_il hx rfl dL_sends_103 ?_
  refine J_iconst hx (3 : Int32) dL_sends_105 rfl ?_
  refine J_icmp_ne hx 115 dL_sends_106 rfl (fun h1 => ?_) (fun h1 => ?_)
  · replace h := neg h h1
    exact tL_sends_115 hx hC htr hr _ _ _ _ _ _ _  hW h
  · replace h := pos h h1
    refine J_il hx rfl dL_sends_109 ?_
    refine J_iconst hx (-1 : Int32) dL_sends_111 rfl ?_
    refine J_icmp_ne hx 142 dL_sends_112 rfl (fun h2 => ?_) (fun h2 => ?_)
    · replace h := neg h h2
      refine J_iconst hx (0 : Int32) dL_sends_142 rfl ?_
      obtain rfl := Option.some.inj h
      exact J_zretX (b := false) hx hr hW dL_sends_143 (by decide) (by decide)
    · replace h := pos h h2
      exact tL_sends_115 hx hC htr hr _ _ _ _ _ _ _  hW h
def sL_sends_86 (w : Wl) (l1 : Int32) (l2 : Int32) (l3 : Int32) (l4 : Int32) (l5 : Int32) (l6 : Int32) (s0 : Int32) : Option (Bool × Wl) := (sO_crate w l1 (2 : Int32)).bind (fun r1 => (if r1 < 0 then (if s0 = (0 : Int32) then sL_sends_103 w l1 l2 l3 l4 l5 l6 else some (false, w)) else (if s0 = (1 : Int32) then sL_sends_103 w l1 l2 l3 l4 l5 l6 else some (false, w))))
theorem tL_sends_86 {X : Cx} {B : Bs} {sz : Nat} {r : (Bool × Wl)} (hx : Fx X cL_sends 11 RL 9 1 6) (hC : GC (xΓ X) B) (htr : (xl X).stackTraces = false) (hr : Rt X (some .boolean) 1 6 (WX (xΓ X) B (some (.int (bI r.1))) r.2)) : ∀ (w : Wl) (l1 : Int32) (l2 : Int32) (l3 : Int32) (l4 : Int32) (l5 : Int32) (l6 : Int32) (s0 : Int32) {G : Gf} (hW : Wd (xΓ X) B w G) (h : sL_sends_86  w l1 l2 l3 l4 l5 l6 s0 = some r), J X 11 G sz 0 0 86 [some (.ref (B.1 + 0)), some (.int l1), some (.int l2), some (.int l3), some (.int l4), some (.int l5), some (.int l6), none, none, none, none] [.int s0] := by
  intro w l1 l2 l3 l4 l5 l6 s0 G hW h
  unfold sL_sends_86 at h
  refine J_al4 hx rfl rfl dL_sends_86 ?_
  refine J_il4 hx rfl rfl dL_sends_87 ?_
  refine J_iconst hx (2 : Int32) dL_sends_88 rfl ?_
  obtain ⟨r1, hr2, h⟩ := bnd h
  refine J_rdL hx (kP_crate hC hW (okS_e hr2)) ml_L_118 cw_crate st_crate ini_L hy_crate (rest := [.int s0]) rfl rfl (by decide) (by decide) (Nat.le_of_ble_eq_true rfl) (by decide) (by decide) dL_sends_89 ?_
  refine J_if_lt hx 99 dL_sends_92 rfl (fun h3 => ?_) (fun h3 => ?_)
  · replace h := pos h h3
    refine J_iconst hx (0 : Int32) dL_sends_99 rfl ?_
    refine J_icmp_ne hx 142 dL_sends_100 rfl (fun h4 => ?_) (fun h4 => ?_)
    · replace h := neg h h4
      refine J_iconst hx (0 : Int32) dL_sends_142 rfl ?_
      obtain rfl := Option.some.inj h
      exact J_zretX (b := false) hx hr hW dL_sends_143 (by decide) (by decide)
    · replace h := pos h h4
      exact tL_sends_103 hx hC htr hr _ _ _ _ _ _ _  hW h
  · replace h := neg h h3
    refine J_iconst hx (1 : Int32) dL_sends_95 rfl ?_
    refine J_goto hx 100 dL_sends_96 rfl ?_
    refine J_icmp_ne hx 142 dL_sends_100 rfl (fun h5 => ?_) (fun h5 => ?_)
    · replace h := neg h h5
      refine J_iconst hx (0 : Int32) dL_sends_142 rfl ?_
      obtain rfl := Option.some.inj h
      exact J_zretX (b := false) hx hr hW dL_sends_143 (by decide) (by decide)
    · replace h := pos h h5
      exact tL_sends_103 hx hC htr hr _ _ _ _ _ _ _  hW h
def sL_sends_65 (w : Wl) (l1 : Int32) (l2 : Int32) (l3 : Int32) (l4 : Int32) (l5 : Int32) (l6 : Int32) (l7 : Int32) (s0 : Int32) : Option (Bool × Wl) := (if s0 = l7 then (if l7 = 0 then (if l4 = (2 : Int32) then sL_sends_86 w l1 l2 l3 l4 l5 l6 (1 : Int32) else sL_sends_86 w l1 l2 l3 l4 l5 l6 (0 : Int32)) else sL_sends_103 w l1 l2 l3 l4 l5 l6) else some (false, w))
theorem tL_sends_65 {X : Cx} {B : Bs} {sz : Nat} {r : (Bool × Wl)} (hx : Fx X cL_sends 11 RL 9 1 6) (hC : GC (xΓ X) B) (htr : (xl X).stackTraces = false) (hr : Rt X (some .boolean) 1 6 (WX (xΓ X) B (some (.int (bI r.1))) r.2)) : ∀ (w : Wl) (l1 : Int32) (l2 : Int32) (l3 : Int32) (l4 : Int32) (l5 : Int32) (l6 : Int32) (l7 : Int32) (s0 : Int32) {G : Gf} (hW : Wd (xΓ X) B w G) (h : sL_sends_65  w l1 l2 l3 l4 l5 l6 l7 s0 = some r), J X 11 G sz 0 0 65 [some (.ref (B.1 + 0)), some (.int l1), some (.int l2), some (.int l3), some (.int l4), some (.int l5), some (.int l6), some (.int l7), none, none, none] [.int s0] := by
  intro w l1 l2 l3 l4 l5 l6 l7 s0 G hW h
  unfold sL_sends_65 at h
  refine J_il hx rfl dL_sends_65 ?_
  refine J_icmp_ne hx 142 dL_sends_67 rfl (fun h1 => ?_) (fun h1 => ?_)
  · replace h := neg h h1
    refine J_iconst hx (0 : Int32) dL_sends_142 rfl ?_
    obtain rfl := Option.some.inj h
    exact J_zretX (b := false) hx hr hW dL_sends_143 (by decide) (by decide)
  · replace h := pos h h1
    refine J_il hx rfl dL_sends_70 ?_
    refine J_if_ne hx 103 dL_sends_72 rfl (fun h2 => ?_) (fun h2 => ?_)
    · replace h := neg h h2
      refine J_lw (ls' := [some (.ref (B.1 + 0)), some (.int l1), some (.int l2), some (.int l3), some (.int l4), some (.int l5), some (.int l6), none, none, none, none]) (lwS (lwS (lwS (lwS (lwS (lwS (lwS (lwN (lwN (lwN (lwN lwZ))))))))))) ?_
      exact tL_sends_103 hx hC htr hr _ _ _ _ _ _ _  hW h
    · replace h := pos h h2
      refine J_il hx rfl dL_sends_75 ?_
      refine J_iconst hx (2 : Int32) dL_sends_77 rfl ?_
      refine J_icmp_ne hx 85 dL_sends_78 rfl (fun h3 => ?_) (fun h3 => ?_)
      · replace h := neg h h3
        refine J_iconst hx (0 : Int32) dL_sends_85 rfl ?_
        refine J_lw (ls' := [some (.ref (B.1 + 0)), some (.int l1), some (.int l2), some (.int l3), some (.int l4), some (.int l5), some (.int l6), none, none, none, none]) (lwS (lwS (lwS (lwS (lwS (lwS (lwS (lwN (lwN (lwN (lwN lwZ))))))))))) ?_
        exact tL_sends_86 hx hC htr hr _ _ _ _ _ _ _ _  hW h
      · replace h := pos h h3
        refine J_iconst hx (1 : Int32) dL_sends_81 rfl ?_
        refine J_goto hx 86 dL_sends_82 rfl ?_
        refine J_lw (ls' := [some (.ref (B.1 + 0)), some (.int l1), some (.int l2), some (.int l3), some (.int l4), some (.int l5), some (.int l6), none, none, none, none]) (lwS (lwS (lwS (lwS (lwS (lwS (lwS (lwN (lwN (lwN (lwN lwZ))))))))))) ?_
        exact tL_sends_86 hx hC htr hr _ _ _ _ _ _ _ _  hW h
def sL_sends_40 (w : Wl) (l1 : Int32) (l2 : Int32) (l3 : Int32) (l4 : Int32) (l5 : Int32) (l6 : Int32) (s0 : Int32) : Option (Bool × Wl) := (if l4 < 0 then some (false, w) else (if (10 : Int32) < l4 then some (false, w) else (if l4 = (1 : Int32) then sL_sends_65 w l1 l2 l3 l4 l5 l6 s0 (1 : Int32) else sL_sends_65 w l1 l2 l3 l4 l5 l6 s0 (0 : Int32))))
theorem tL_sends_40 {X : Cx} {B : Bs} {sz : Nat} {r : (Bool × Wl)} (hx : Fx X cL_sends 11 RL 9 1 6) (hC : GC (xΓ X) B) (htr : (xl X).stackTraces = false) (hr : Rt X (some .boolean) 1 6 (WX (xΓ X) B (some (.int (bI r.1))) r.2)) : ∀ (w : Wl) (l1 : Int32) (l2 : Int32) (l3 : Int32) (l4 : Int32) (l5 : Int32) (l6 : Int32) (s0 : Int32) {G : Gf} (hW : Wd (xΓ X) B w G) (h : sL_sends_40  w l1 l2 l3 l4 l5 l6 s0 = some r), J X 11 G sz 0 0 40 [some (.ref (B.1 + 0)), some (.int l1), some (.int l2), some (.int l3), some (.int l4), some (.int l5), some (.int l6), none, none, none, none] [.int s0] := by
  intro w l1 l2 l3 l4 l5 l6 s0 G hW h
  unfold sL_sends_40 at h
  refine J_is hx (by decide) (hc_of rfl) rfl dL_sends_40 ?_
  refine J_il hx rfl dL_sends_42 ?_
  refine J_if_lt hx 142 dL_sends_44 rfl (fun h1 => ?_) (fun h1 => ?_)
  · replace h := pos h h1
    refine J_iconst hx (0 : Int32) dL_sends_142 rfl ?_
    obtain rfl := Option.some.inj h
    exact J_zretX (b := false) hx hr hW dL_sends_143 (by decide) (by decide)
  · replace h := neg h h1
    refine J_il hx rfl dL_sends_47 ?_
    refine J_bipush hx (10 : Int32) dL_sends_49 rfl ?_
    refine J_icmp_gt hx 142 dL_sends_51 rfl (fun h2 => ?_) (fun h2 => ?_)
    · replace h := pos h h2
      refine J_iconst hx (0 : Int32) dL_sends_142 rfl ?_
      obtain rfl := Option.some.inj h
      exact J_zretX (b := false) hx hr hW dL_sends_143 (by decide) (by decide)
    · replace h := neg h h2
      refine J_il hx rfl dL_sends_54 ?_
      refine J_iconst hx (1 : Int32) dL_sends_56 rfl ?_
      refine J_icmp_ne hx 64 dL_sends_57 rfl (fun h3 => ?_) (fun h3 => ?_)
      · replace h := neg h h3
        refine J_iconst hx (0 : Int32) dL_sends_64 rfl ?_
        exact tL_sends_65 hx hC htr hr _ _ _ _ _ _ _ _ _  hW h
      · replace h := pos h h3
        refine J_iconst hx (1 : Int32) dL_sends_60 rfl ?_
        refine J_goto hx 65 dL_sends_61 rfl ?_
        exact tL_sends_65 hx hC htr hr _ _ _ _ _ _ _ _ _  hW h
def sL_sends (w : Wl) (l1 : Int32) (l2 : Int32) (l3 : Int32) : Option (Bool × Wl) := (sO_refusal w l1 l2 l3).bind (fun r1 => (sO_bestVenue w l1 l3).bind (fun r3 => (sO_crate r3.2 l1 (3 : Int32)).bind (fun r7 => (sO_crate r3.2 l1 (1 : Int32)).bind (fun r9 => (if r9 = (1 : Int32) then sL_sends_40 r3.2 l1 l2 l3 r1 r3.1 r7 (1 : Int32) else sL_sends_40 r3.2 l1 l2 l3 r1 r3.1 r7 (0 : Int32))))))
theorem kL_sends {l : Launch} {Γ : Gl} {B : Bs} {w : Wl} {G : Gf} {sz : Nat} {l1 : Int32} {l2 : Int32} {l3 : Int32} {r : (Bool × Wl)} (hC : GC Γ B) (htr : l.stackTraces = false) (hW : Wd Γ B w G) (h : sL_sends w l1 l2 l3 = some r) : Ct l Γ yL_sends cL_sends 11 (some .boolean) 9 [.ref (B.1 + 0), .int l1, .int l2, .int l3] G sz (WX Γ B (some (.int (bI r.1))) r.2) 1 6 := by
  refine Ct.of rfl (Nat.le_of_ble_eq_true rfl) fun X hx hr hl hΓ hnm => ?_
  subst hl hΓ
  show J X 11 G sz 0 0 0 [some (.ref (B.1 + 0)), some (.int l1), some (.int l2), some (.int l3), none, none, none, none, none, none, none] []
  unfold sL_sends at h
  refine J_al4 hx rfl rfl dL_sends_0 ?_
  refine J_il4 hx rfl rfl dL_sends_1 ?_
  refine J_il4 hx rfl rfl dL_sends_2 ?_
  refine J_il4 hx rfl rfl dL_sends_3 ?_
  obtain ⟨r1, hr2, h⟩ := bnd h
  refine J_rdL hx (kP_refusal hC hW (okS_e hr2)) ml_L_146 cw_refusal st_refusal ini_L hy_refusal (rest := []) rfl rfl (by decide) (by decide) (Nat.le_of_ble_eq_true rfl) (by decide) (by decide) dL_sends_4 ?_
  refine J_is hx (by decide) (hc_of rfl) rfl dL_sends_7 ?_
  refine J_al4 hx rfl rfl dL_sends_9 ?_
  refine J_il4 hx rfl rfl dL_sends_10 ?_
  refine J_il4 hx rfl rfl dL_sends_11 ?_
  obtain ⟨r3, hr4, h⟩ := bnd h
  refine J_wrL hx (kP_bestVenue hC hW (okS_e hr4)) ml_L_149 cw_bestVenue st_bestVenue ini_L hy_bestVenue (rest := []) rfl rfl (by decide) (by decide) (Nat.le_of_ble_eq_true rfl) (by decide) (by decide) dL_sends_12 fun G5 hW6 => ?_
  show J X 11 G5 sz 0 0 15 [some (.ref (B.1 + 0)), some (.int l1), some (.int l2), some (.int l3), some (.int r1), none, none, none, none, none, none] [.int r3.1]
  refine J_is hx (by decide) (hc_of rfl) rfl dL_sends_15 ?_
  refine J_al4 hx rfl rfl dL_sends_17 ?_
  refine J_il4 hx rfl rfl dL_sends_18 ?_
  refine J_iconst hx (3 : Int32) dL_sends_19 rfl ?_
  obtain ⟨r7, hr8, h⟩ := bnd h
  refine J_rdL hx (kP_crate hC hW6 (okS_e hr8)) ml_L_118 cw_crate st_crate ini_L hy_crate (rest := []) rfl rfl (by decide) (by decide) (Nat.le_of_ble_eq_true rfl) (by decide) (by decide) dL_sends_20 ?_
  refine J_is hx (by decide) (hc_of rfl) rfl dL_sends_23 ?_
  refine J_al4 hx rfl rfl dL_sends_25 ?_
  refine J_il4 hx rfl rfl dL_sends_26 ?_
  refine J_iconst hx (1 : Int32) dL_sends_27 rfl ?_
  obtain ⟨r9, hr10, h⟩ := bnd h
  refine J_rdL hx (kP_crate hC hW6 (okS_e hr10)) ml_L_118 cw_crate st_crate ini_L hy_crate (rest := []) rfl rfl (by decide) (by decide) (Nat.le_of_ble_eq_true rfl) (by decide) (by decide) dL_sends_28 ?_
  refine J_iconst hx (1 : Int32) dL_sends_31 rfl ?_
  refine J_icmp_ne hx 39 dL_sends_32 rfl (fun h11 => ?_) (fun h11 => ?_)
  · replace h := neg h h11
    refine J_iconst hx (0 : Int32) dL_sends_39 rfl ?_
    exact tL_sends_40 hx hC htr hr _ _ _ _ _ _ _ _  hW6 h
  · replace h := pos h h11
    refine J_iconst hx (1 : Int32) dL_sends_35 rfl ?_
    refine J_goto hx 40 dL_sends_36 rfl ?_
    exact tL_sends_40 hx hC htr hr _ _ _ _ _ _ _ _  hW6 h
theorem dL_passes_0 : decode cL_passes 0 = .ok (.aload_n 0, 1) := by decide +kernel
theorem dL_passes_1 : decode cL_passes 1 = .ok (.iconst 0, 1) := by decide +kernel
theorem dL_passes_2 : decode cL_passes 2 = .ok (.invokestatic 110, 3) := by decide +kernel
theorem dL_passes_5 : decode cL_passes 5 = .ok (.istore_n 2, 1) := by decide +kernel
theorem dL_passes_6 : decode cL_passes 6 = .ok (.aload_n 0, 1) := by decide +kernel
theorem dL_passes_7 : decode cL_passes 7 = .ok (.bipush 7, 2) := by decide +kernel
theorem dL_passes_9 : decode cL_passes 9 = .ok (.invokestatic 110, 3) := by decide +kernel
theorem dL_passes_12 : decode cL_passes 12 = .ok (.istore_n 3, 1) := by decide +kernel
theorem dL_passes_13 : decode cL_passes 13 = .ok (.iconst 0, 1) := by decide +kernel
theorem dL_passes_14 : decode cL_passes 14 = .ok (.istore 4, 2) := by decide +kernel
theorem dL_passes_16 : decode cL_passes 16 = .ok (.iconst 0, 1) := by decide +kernel
theorem dL_passes_17 : decode cL_passes 17 = .ok (.istore 5, 2) := by decide +kernel
theorem dL_passes_19 : decode cL_passes 19 = .ok (.iload 5, 2) := by decide +kernel
theorem dL_passes_21 : decode cL_passes 21 = .ok (.aload_n 0, 1) := by decide +kernel
theorem dL_passes_22 : decode cL_passes 22 = .ok (.iconst 2, 1) := by decide +kernel
theorem dL_passes_23 : decode cL_passes 23 = .ok (.invokestatic 110, 3) := by decide +kernel
theorem dL_passes_26 : decode cL_passes 26 = .ok (.if_icmp .ge 54, 3) := by decide +kernel
theorem dL_passes_29 : decode cL_passes 29 = .ok (.iload 4, 2) := by decide +kernel
theorem dL_passes_31 : decode cL_passes 31 = .ok (.aload_n 0, 1) := by decide +kernel
theorem dL_passes_32 : decode cL_passes 32 = .ok (.iload 5, 2) := by decide +kernel
theorem dL_passes_34 : decode cL_passes 34 = .ok (.iconst 2, 1) := by decide +kernel
theorem dL_passes_35 : decode cL_passes 35 = .ok (.invokestatic 118, 3) := by decide +kernel
theorem dL_passes_38 : decode cL_passes 38 = .ok (.iconst (-1), 1) := by decide +kernel
theorem dL_passes_39 : decode cL_passes 39 = .ok (.if_icmp .ne 31, 3) := by decide +kernel
theorem dL_passes_42 : decode cL_passes 42 = .ok (.aload_n 0, 1) := by decide +kernel
theorem dL_passes_43 : decode cL_passes 43 = .ok (.iload 5, 2) := by decide +kernel
theorem dL_passes_45 : decode cL_passes 45 = .ok (.iconst 3, 1) := by decide +kernel
theorem dL_passes_46 : decode cL_passes 46 = .ok (.invokestatic 118, 3) := by decide +kernel
theorem dL_passes_49 : decode cL_passes 49 = .ok (.iconst (-1), 1) := by decide +kernel
theorem dL_passes_50 : decode cL_passes 50 = .ok (.if_icmp .ne 20, 3) := by decide +kernel
theorem dL_passes_53 : decode cL_passes 53 = .ok (.aload_n 0, 1) := by decide +kernel
theorem dL_passes_54 : decode cL_passes 54 = .ok (.iload 5, 2) := by decide +kernel
theorem dL_passes_56 : decode cL_passes 56 = .ok (.iconst 5, 1) := by decide +kernel
theorem dL_passes_57 : decode cL_passes 57 = .ok (.invokestatic 118, 3) := by decide +kernel
theorem dL_passes_60 : decode cL_passes 60 = .ok (.iload_n 2, 1) := by decide +kernel
theorem dL_passes_61 : decode cL_passes 61 = .ok (.iload_n 1, 1) := by decide +kernel
theorem dL_passes_62 : decode cL_passes 62 = .ok (.iadd, 1) := by decide +kernel
theorem dL_passes_63 : decode cL_passes 63 = .ok (.if_icmp .gt 7, 3) := by decide +kernel
theorem dL_passes_66 : decode cL_passes 66 = .ok (.iconst 1, 1) := by decide +kernel
theorem dL_passes_67 : decode cL_passes 67 = .ok (.goto 4, 3) := by decide +kernel
theorem dL_passes_70 : decode cL_passes 70 = .ok (.iconst 0, 1) := by decide +kernel
theorem dL_passes_71 : decode cL_passes 71 = .ok (.iadd, 1) := by decide +kernel
theorem dL_passes_72 : decode cL_passes 72 = .ok (.istore 4, 2) := by decide +kernel
theorem dL_passes_74 : decode cL_passes 74 = .ok (.iinc 5 1, 3) := by decide +kernel
theorem dL_passes_77 : decode cL_passes 77 = .ok (.goto (-58), 3) := by decide +kernel
theorem dL_passes_80 : decode cL_passes 80 = .ok (.aload_n 0, 1) := by decide +kernel
theorem dL_passes_81 : decode cL_passes 81 = .ok (.iconst 5, 1) := by decide +kernel
theorem dL_passes_82 : decode cL_passes 82 = .ok (.invokestatic 110, 3) := by decide +kernel
theorem dL_passes_85 : decode cL_passes 85 = .ok (.istore 5, 2) := by decide +kernel
theorem dL_passes_87 : decode cL_passes 87 = .ok (.aload_n 0, 1) := by decide +kernel
theorem dL_passes_88 : decode cL_passes 88 = .ok (.iload_n 1, 1) := by decide +kernel
theorem dL_passes_89 : decode cL_passes 89 = .ok (.invokestatic 153, 3) := by decide +kernel
theorem dL_passes_92 : decode cL_passes 92 = .ok (.iload 4, 2) := by decide +kernel
theorem dL_passes_94 : decode cL_passes 94 = .ok (.if_icmp .ne 27, 3) := by decide +kernel
theorem dL_passes_97 : decode cL_passes 97 = .ok (.aload_n 0, 1) := by decide +kernel
theorem dL_passes_98 : decode cL_passes 98 = .ok (.iconst 0, 1) := by decide +kernel
theorem dL_passes_99 : decode cL_passes 99 = .ok (.invokestatic 110, 3) := by decide +kernel
theorem dL_passes_102 : decode cL_passes 102 = .ok (.iload_n 2, 1) := by decide +kernel
theorem dL_passes_103 : decode cL_passes 103 = .ok (.iload_n 1, 1) := by decide +kernel
theorem dL_passes_104 : decode cL_passes 104 = .ok (.iadd, 1) := by decide +kernel
theorem dL_passes_105 : decode cL_passes 105 = .ok (.if_icmp .ne 16, 3) := by decide +kernel
theorem dL_passes_108 : decode cL_passes 108 = .ok (.aload_n 0, 1) := by decide +kernel
theorem dL_passes_109 : decode cL_passes 109 = .ok (.bipush 7, 2) := by decide +kernel
theorem dL_passes_111 : decode cL_passes 111 = .ok (.invokestatic 110, 3) := by decide +kernel
theorem dL_passes_114 : decode cL_passes 114 = .ok (.iload_n 3, 1) := by decide +kernel
theorem dL_passes_115 : decode cL_passes 115 = .ok (.iload 4, 2) := by decide +kernel
theorem dL_passes_117 : decode cL_passes 117 = .ok (.iadd, 1) := by decide +kernel
theorem dL_passes_118 : decode cL_passes 118 = .ok (.if_icmp .eq 5, 3) := by decide +kernel
theorem dL_passes_121 : decode cL_passes 121 = .ok (.iconst 0, 1) := by decide +kernel
theorem dL_passes_122 : decode cL_passes 122 = .ok (.ireturn, 1) := by decide +kernel
theorem dL_passes_123 : decode cL_passes 123 = .ok (.iload_n 2, 1) := by decide +kernel
theorem dL_passes_124 : decode cL_passes 124 = .ok (.iload_n 1, 1) := by decide +kernel
theorem dL_passes_125 : decode cL_passes 125 = .ok (.iadd, 1) := by decide +kernel
theorem dL_passes_126 : decode cL_passes 126 = .ok (.bipush 24, 2) := by decide +kernel
theorem dL_passes_128 : decode cL_passes 128 = .ok (.idiv, 1) := by decide +kernel
theorem dL_passes_129 : decode cL_passes 129 = .ok (.iload_n 2, 1) := by decide +kernel
theorem dL_passes_130 : decode cL_passes 130 = .ok (.bipush 24, 2) := by decide +kernel
theorem dL_passes_132 : decode cL_passes 132 = .ok (.idiv, 1) := by decide +kernel
theorem dL_passes_133 : decode cL_passes 133 = .ok (.if_icmp .ne 19, 3) := by decide +kernel
theorem dL_passes_136 : decode cL_passes 136 = .ok (.aload_n 0, 1) := by decide +kernel
theorem dL_passes_137 : decode cL_passes 137 = .ok (.iconst 5, 1) := by decide +kernel
theorem dL_passes_138 : decode cL_passes 138 = .ok (.invokestatic 110, 3) := by decide +kernel
theorem dL_passes_141 : decode cL_passes 141 = .ok (.iload 5, 2) := by decide +kernel
theorem dL_passes_143 : decode cL_passes 143 = .ok (.if_icmp .ne 7, 3) := by decide +kernel
theorem dL_passes_146 : decode cL_passes 146 = .ok (.iconst 1, 1) := by decide +kernel
theorem dL_passes_147 : decode cL_passes 147 = .ok (.goto 4, 3) := by decide +kernel
theorem dL_passes_150 : decode cL_passes 150 = .ok (.iconst 0, 1) := by decide +kernel
theorem dL_passes_151 : decode cL_passes 151 = .ok (.ireturn, 1) := by decide +kernel
theorem dL_passes_152 : decode cL_passes 152 = .ok (.iconst 0, 1) := by decide +kernel
theorem dL_passes_153 : decode cL_passes 153 = .ok (.istore 6, 2) := by decide +kernel
theorem dL_passes_155 : decode cL_passes 155 = .ok (.iload 6, 2) := by decide +kernel
theorem dL_passes_157 : decode cL_passes 157 = .ok (.aload_n 0, 1) := by decide +kernel
theorem dL_passes_158 : decode cL_passes 158 = .ok (.iconst 3, 1) := by decide +kernel
theorem dL_passes_159 : decode cL_passes 159 = .ok (.invokestatic 110, 3) := by decide +kernel
theorem dL_passes_162 : decode cL_passes 162 = .ok (.if_icmp .ge 80, 3) := by decide +kernel
theorem dL_passes_165 : decode cL_passes 165 = .ok (.aload_n 0, 1) := by decide +kernel
theorem dL_passes_166 : decode cL_passes 166 = .ok (.iload 6, 2) := by decide +kernel
theorem dL_passes_168 : decode cL_passes 168 = .ok (.iconst 5, 1) := by decide +kernel
theorem dL_passes_169 : decode cL_passes 169 = .ok (.invokestatic 115, 3) := by decide +kernel
theorem dL_passes_172 : decode cL_passes 172 = .ok (.istore 7, 2) := by decide +kernel
theorem dL_passes_174 : decode cL_passes 174 = .ok (.aload_n 0, 1) := by decide +kernel
theorem dL_passes_175 : decode cL_passes 175 = .ok (.iload 6, 2) := by decide +kernel
theorem dL_passes_177 : decode cL_passes 177 = .ok (.iconst 0, 1) := by decide +kernel
theorem dL_passes_178 : decode cL_passes 178 = .ok (.invokestatic 155, 3) := by decide +kernel
theorem dL_passes_181 : decode cL_passes 181 = .ok (.istore 8, 2) := by decide +kernel
theorem dL_passes_183 : decode cL_passes 183 = .ok (.iload 8, 2) := by decide +kernel
theorem dL_passes_185 : decode cL_passes 185 = .ok (.ifCond .lt 49, 3) := by decide +kernel
theorem dL_passes_188 : decode cL_passes 188 = .ok (.iload 8, 2) := by decide +kernel
theorem dL_passes_190 : decode cL_passes 190 = .ok (.bipush 8, 2) := by decide +kernel
theorem dL_passes_192 : decode cL_passes 192 = .ok (.if_icmp .gt 42, 3) := by decide +kernel
theorem dL_passes_195 : decode cL_passes 195 = .ok (.iload_n 2, 1) := by decide +kernel
theorem dL_passes_196 : decode cL_passes 196 = .ok (.iload_n 1, 1) := by decide +kernel
theorem dL_passes_197 : decode cL_passes 197 = .ok (.iadd, 1) := by decide +kernel
theorem dL_passes_198 : decode cL_passes 198 = .ok (.bipush 24, 2) := by decide +kernel
theorem dL_passes_200 : decode cL_passes 200 = .ok (.irem, 1) := by decide +kernel
theorem dL_passes_201 : decode cL_passes 201 = .ok (.ifCond .ne 21, 3) := by decide +kernel
theorem dL_passes_204 : decode cL_passes 204 = .ok (.iload 8, 2) := by decide +kernel
theorem dL_passes_206 : decode cL_passes 206 = .ok (.iload 7, 2) := by decide +kernel
theorem dL_passes_208 : decode cL_passes 208 = .ok (.iconst (-1), 1) := by decide +kernel
theorem dL_passes_209 : decode cL_passes 209 = .ok (.if_icmp .ne 8, 3) := by decide +kernel
theorem dL_passes_212 : decode cL_passes 212 = .ok (.bipush 8, 2) := by decide +kernel
theorem dL_passes_214 : decode cL_passes 214 = .ok (.goto 5, 3) := by decide +kernel
theorem dL_passes_217 : decode cL_passes 217 = .ok (.iload 7, 2) := by decide +kernel
theorem dL_passes_219 : decode cL_passes 219 = .ok (.if_icmp .ne 15, 3) := by decide +kernel
theorem dL_passes_222 : decode cL_passes 222 = .ok (.aload_n 0, 1) := by decide +kernel
theorem dL_passes_223 : decode cL_passes 223 = .ok (.iload 6, 2) := by decide +kernel
theorem dL_passes_225 : decode cL_passes 225 = .ok (.bipush 10, 2) := by decide +kernel
theorem dL_passes_227 : decode cL_passes 227 = .ok (.invokestatic 155, 3) := by decide +kernel
theorem dL_passes_230 : decode cL_passes 230 = .ok (.iconst (-1), 1) := by decide +kernel
theorem dL_passes_231 : decode cL_passes 231 = .ok (.if_icmp .eq 5, 3) := by decide +kernel
theorem dL_passes_234 : decode cL_passes 234 = .ok (.iconst 0, 1) := by decide +kernel
theorem dL_passes_235 : decode cL_passes 235 = .ok (.ireturn, 1) := by decide +kernel
theorem dL_passes_236 : decode cL_passes 236 = .ok (.iinc 6 1, 3) := by decide +kernel
theorem dL_passes_239 : decode cL_passes 239 = .ok (.goto (-84), 3) := by decide +kernel
theorem dL_passes_242 : decode cL_passes 242 = .ok (.aload_n 0, 1) := by decide +kernel
theorem dL_passes_243 : decode cL_passes 243 = .ok (.invokestatic 133, 3) := by decide +kernel
theorem dL_passes_246 : decode cL_passes 246 = .ok (.ifCond .lt 36, 3) := by decide +kernel
theorem dL_passes_249 : decode cL_passes 249 = .ok (.aload_n 0, 1) := by decide +kernel
theorem dL_passes_250 : decode cL_passes 250 = .ok (.iconst 0, 1) := by decide +kernel
theorem dL_passes_251 : decode cL_passes 251 = .ok (.invokestatic 110, 3) := by decide +kernel
theorem dL_passes_254 : decode cL_passes 254 = .ok (.iload_n 2, 1) := by decide +kernel
theorem dL_passes_255 : decode cL_passes 255 = .ok (.if_icmp .ne 27, 3) := by decide +kernel
theorem dL_passes_258 : decode cL_passes 258 = .ok (.aload_n 0, 1) := by decide +kernel
theorem dL_passes_259 : decode cL_passes 259 = .ok (.iconst 5, 1) := by decide +kernel
theorem dL_passes_260 : decode cL_passes 260 = .ok (.invokestatic 110, 3) := by decide +kernel
theorem dL_passes_263 : decode cL_passes 263 = .ok (.iload 5, 2) := by decide +kernel
theorem dL_passes_265 : decode cL_passes 265 = .ok (.if_icmp .ne 17, 3) := by decide +kernel
theorem dL_passes_268 : decode cL_passes 268 = .ok (.aload_n 0, 1) := by decide +kernel
theorem dL_passes_269 : decode cL_passes 269 = .ok (.iload_n 1, 1) := by decide +kernel
theorem dL_passes_270 : decode cL_passes 270 = .ok (.invokestatic 153, 3) := by decide +kernel
theorem dL_passes_273 : decode cL_passes 273 = .ok (.iload 4, 2) := by decide +kernel
theorem dL_passes_275 : decode cL_passes 275 = .ok (.if_icmp .ne 7, 3) := by decide +kernel
theorem dL_passes_278 : decode cL_passes 278 = .ok (.iconst 1, 1) := by decide +kernel
theorem dL_passes_279 : decode cL_passes 279 = .ok (.goto 4, 3) := by decide +kernel
theorem dL_passes_282 : decode cL_passes 282 = .ok (.iconst 0, 1) := by decide +kernel
theorem dL_passes_283 : decode cL_passes 283 = .ok (.ireturn, 1) := by decide +kernel
def sL_passes_222 (k155 : Wl → Int32 → Int32 → Int32 → Int32 → Int32 → Option (Bool × Wl)) (w : Wl) (l1 : Int32) (l2 : Int32) (l4 : Int32) (l5 : Int32) (l6 : Int32) : Option (Bool × Wl) := (sO_noted w l6 (10 : Int32)).bind (fun r1 => (if r1 = (-1 : Int32) then k155 w l1 l2 l4 l5 (l6 + 1) else some (false, w)))
theorem tL_passes_222 {X : Cx} {B : Bs} {sz : Nat} {r : (Bool × Wl)} (hx : Fx X cL_passes 9 RL 9 0 0) (hC : GC (xΓ X) B) (htr : (xl X).stackTraces = false) (hr : Rt X (some .boolean) 0 0 (WΨ (xΓ X) B (some (.int (bI r.1))) r.2 sz)) (k155 : Wl → Int32 → Int32 → Int32 → Int32 → Int32 → Option (Bool × Wl)) (hk155 : ∀ (w : Wl) (l1 : Int32) (l2 : Int32) (l4 : Int32) (l5 : Int32) (l6 : Int32) {G : Gf} (hW : Wd (xΓ X) B w G) (h : k155 w l1 l2 l4 l5 l6 = some r), J X 9 G sz 0 0 155 [some (.ref (B.1 + 0)), some (.int l1), some (.int l2), none, some (.int l4), some (.int l5), some (.int l6), none, none] []) : ∀ (w : Wl) (l1 : Int32) (l2 : Int32) (l4 : Int32) (l5 : Int32) (l6 : Int32) {G : Gf} (hW : Wd (xΓ X) B w G) (h : sL_passes_222 k155  w l1 l2 l4 l5 l6 = some r), J X 9 G sz 0 0 222 [some (.ref (B.1 + 0)), some (.int l1), some (.int l2), none, some (.int l4), some (.int l5), some (.int l6), none, none] [] := by
  intro w l1 l2 l4 l5 l6 G hW h
  unfold sL_passes_222 at h
  refine J_al4 hx rfl rfl dL_passes_222 ?_
  refine J_il hx rfl dL_passes_223 ?_
  refine J_bipush hx (10 : Int32) dL_passes_225 rfl ?_
  obtain ⟨r1, hr2, h⟩ := bnd h
  refine J_rdL hx (kP_noted hC hW (okS_e hr2)) ml_L_155 cw_noted st_noted ini_L hy_noted (rest := []) rfl rfl (by decide) (by decide) (Nat.le_of_ble_eq_true rfl) (Nat.le_refl 0) (Nat.le_refl 0) dL_passes_227 ?_
  refine J_iconst hx (-1 : Int32) dL_passes_230 rfl ?_
  refine J_icmp_eq hx 236 dL_passes_231 rfl (fun h3 => ?_) (fun h3 => ?_)
  · replace h := pos h h3
    refine J_iinc hx (v' := (l6 + 1)) rfl rfl (by decide) (hc_of rfl) rfl dL_passes_236 ?_
    refine J_goto hx 155 dL_passes_239 rfl ?_
    exact hk155 _ _ _ _ _ _  hW h
  · replace h := neg h h3
    refine J_iconst hx (0 : Int32) dL_passes_234 rfl ?_
    obtain rfl := Option.some.inj h
    exact J_zretW (b := false) hx hr hW dL_passes_235 (Nat.le_refl 0) (Nat.le_refl 0)
def sL_passes_155 : Nat → Wl → Int32 → Int32 → Int32 → Int32 → Int32 → Option (Bool × Wl)
  | 0, _, _, _, _, _, _ => none
  | n + 1, w, l1, l2, l4, l5, l6 => (sO_whole w (3 : Int32)).bind (fun r1 => (if r1 ≤ l6 then (sO_undo w).bind (fun r4 => (if r4.1 < 0 then some (false, r4.2) else (sO_whole r4.2 (0 : Int32)).bind (fun r9 => (if r9 = l2 then (sO_whole r4.2 (5 : Int32)).bind (fun r12 => (if r12 = l5 then (sO_advance r4.2 l1).bind (fun r15 => (if r15.1 = l4 then some (true, r15.2) else some (false, r15.2))) else some (false, r4.2))) else some (false, r4.2))))) else (sO_work w l6 (5 : Int32)).bind (fun r20 => (sO_noted w l6 (0 : Int32)).bind (fun r22 => (if r22 < 0 then some (false, w) else (if (8 : Int32) < r22 then some (false, w) else (if ((l2 + l1) - ((l2 + l1) / (24 : Int32)) * (24 : Int32)) = 0 then (if r20 = (-1 : Int32) then (if r22 = (8 : Int32) then sL_passes_222 (fun w l1 l2 l4 l5 l6 => sL_passes_155 n w l1 l2 l4 l5 l6) w l1 l2 l4 l5 l6 else some (false, w)) else (if r22 = r20 then sL_passes_222 (fun w l1 l2 l4 l5 l6 => sL_passes_155 n w l1 l2 l4 l5 l6) w l1 l2 l4 l5 l6 else some (false, w))) else sL_passes_222 (fun w l1 l2 l4 l5 l6 => sL_passes_155 n w l1 l2 l4 l5 l6) w l1 l2 l4 l5 l6)))))))
theorem tL_passes_155 {X : Cx} {B : Bs} {sz : Nat} {r : (Bool × Wl)} (hx : Fx X cL_passes 9 RL 9 0 0) (hC : GC (xΓ X) B) (htr : (xl X).stackTraces = false) (hr : Rt X (some .boolean) 0 0 (WΨ (xΓ X) B (some (.int (bI r.1))) r.2 sz)) : ∀ (n : Nat), ∀ (w : Wl) (l1 : Int32) (l2 : Int32) (l4 : Int32) (l5 : Int32) (l6 : Int32) {G : Gf} (hW : Wd (xΓ X) B w G) (h : sL_passes_155 n w l1 l2 l4 l5 l6 = some r), J X 9 G sz 0 0 155 [some (.ref (B.1 + 0)), some (.int l1), some (.int l2), none, some (.int l4), some (.int l5), some (.int l6), none, none] [] := by
  intro n
  induction n with
  | zero => intro w l1 l2 l4 l5 l6 G hW h; rw [sL_passes_155.eq_1] at h; cases h
  | succ n ih =>
    intro w l1 l2 l4 l5 l6 G hW h
    rw [sL_passes_155.eq_2] at h
    refine J_il hx rfl dL_passes_155 ?_
    refine J_al4 hx rfl rfl dL_passes_157 ?_
    refine J_iconst hx (3 : Int32) dL_passes_158 rfl ?_
    obtain ⟨r1, hr2, h⟩ := bnd h
    refine J_rdL hx (kP_whole hC hW (okS_e hr2)) ml_L_110 cw_whole st_whole ini_L hy_whole (rest := [.int l6]) rfl rfl (by decide) (by decide) (Nat.le_of_ble_eq_true rfl) (Nat.le_refl 0) (Nat.le_refl 0) dL_passes_159 ?_
    refine J_icmp_ge hx 242 dL_passes_162 rfl (fun h3 => ?_) (fun h3 => ?_)
    · replace h := pos h h3
      refine J_al4 hx rfl rfl dL_passes_242 ?_
      obtain ⟨r4, hr5, h⟩ := bnd h
      refine J_wrL hx (kP_undo hC hW (okS_e hr5)) ml_L_133 cw_undo st_undo ini_L hy_undo (rest := []) rfl rfl (by decide) (by decide) (Nat.le_of_ble_eq_true rfl) (Nat.le_refl 0) (Nat.le_refl 0) dL_passes_243 fun G6 hW7 => ?_
      show J X 9 G6 sz 0 0 246 [some (.ref (B.1 + 0)), some (.int l1), some (.int l2), none, some (.int l4), some (.int l5), some (.int l6), none, none] [.int r4.1]
      refine J_if_lt hx 282 dL_passes_246 rfl (fun h8 => ?_) (fun h8 => ?_)
      · replace h := pos h h8
        refine J_iconst hx (0 : Int32) dL_passes_282 rfl ?_
        obtain rfl := Option.some.inj h
        exact J_zretW (b := false) hx hr hW7 dL_passes_283 (Nat.le_refl 0) (Nat.le_refl 0)
      · replace h := neg h h8
        refine J_al4 hx rfl rfl dL_passes_249 ?_
        refine J_iconst hx (0 : Int32) dL_passes_250 rfl ?_
        obtain ⟨r9, hr10, h⟩ := bnd h
        refine J_rdL hx (kP_whole hC hW7 (okS_e hr10)) ml_L_110 cw_whole st_whole ini_L hy_whole (rest := []) rfl rfl (by decide) (by decide) (Nat.le_of_ble_eq_true rfl) (Nat.le_refl 0) (Nat.le_refl 0) dL_passes_251 ?_
        refine J_il4 hx rfl rfl dL_passes_254 ?_
        refine J_icmp_ne hx 282 dL_passes_255 rfl (fun h11 => ?_) (fun h11 => ?_)
        · replace h := neg h h11
          refine J_iconst hx (0 : Int32) dL_passes_282 rfl ?_
          obtain rfl := Option.some.inj h
          exact J_zretW (b := false) hx hr hW7 dL_passes_283 (Nat.le_refl 0) (Nat.le_refl 0)
        · replace h := pos h h11
          refine J_al4 hx rfl rfl dL_passes_258 ?_
          refine J_iconst hx (5 : Int32) dL_passes_259 rfl ?_
          obtain ⟨r12, hr13, h⟩ := bnd h
          refine J_rdL hx (kP_whole hC hW7 (okS_e hr13)) ml_L_110 cw_whole st_whole ini_L hy_whole (rest := []) rfl rfl (by decide) (by decide) (Nat.le_of_ble_eq_true rfl) (Nat.le_refl 0) (Nat.le_refl 0) dL_passes_260 ?_
          refine J_il hx rfl dL_passes_263 ?_
          refine J_icmp_ne hx 282 dL_passes_265 rfl (fun h14 => ?_) (fun h14 => ?_)
          · replace h := neg h h14
            refine J_iconst hx (0 : Int32) dL_passes_282 rfl ?_
            obtain rfl := Option.some.inj h
            exact J_zretW (b := false) hx hr hW7 dL_passes_283 (Nat.le_refl 0) (Nat.le_refl 0)
          · replace h := pos h h14
            refine J_al4 hx rfl rfl dL_passes_268 ?_
            refine J_il4 hx rfl rfl dL_passes_269 ?_
            obtain ⟨r15, hr16, h⟩ := bnd h
            refine J_wrL hx (kP_advance hC hW7 (okS_e hr16)) ml_L_153 cw_advance st_advance ini_L hy_advance (rest := []) rfl rfl (by decide) (by decide) (Nat.le_of_ble_eq_true rfl) (Nat.le_refl 0) (Nat.le_refl 0) dL_passes_270 fun G17 hW18 => ?_
            show J X 9 G17 sz 0 0 273 [some (.ref (B.1 + 0)), some (.int l1), some (.int l2), none, some (.int l4), some (.int l5), some (.int l6), none, none] [.int r15.1]
            refine J_il hx rfl dL_passes_273 ?_
            refine J_icmp_ne hx 282 dL_passes_275 rfl (fun h19 => ?_) (fun h19 => ?_)
            · replace h := neg h h19
              refine J_iconst hx (0 : Int32) dL_passes_282 rfl ?_
              obtain rfl := Option.some.inj h
              exact J_zretW (b := false) hx hr hW18 dL_passes_283 (Nat.le_refl 0) (Nat.le_refl 0)
            · replace h := pos h h19
              refine J_iconst hx (1 : Int32) dL_passes_278 rfl ?_
              refine J_goto hx 283 dL_passes_279 rfl ?_
              obtain rfl := Option.some.inj h
              exact J_zretW (b := true) hx hr hW18 dL_passes_283 (Nat.le_refl 0) (Nat.le_refl 0)
    · replace h := neg h h3
      refine J_al4 hx rfl rfl dL_passes_165 ?_
      refine J_il hx rfl dL_passes_166 ?_
      refine J_iconst hx (5 : Int32) dL_passes_168 rfl ?_
      obtain ⟨r20, hr21, h⟩ := bnd h
      refine J_rdL hx (kP_work hC hW (okS_e hr21)) ml_L_115 cw_work st_work ini_L hy_work (rest := []) rfl rfl (by decide) (by decide) (Nat.le_of_ble_eq_true rfl) (Nat.le_refl 0) (Nat.le_refl 0) dL_passes_169 ?_
      refine J_is hx (by decide) (hc_of rfl) rfl dL_passes_172 ?_
      refine J_al4 hx rfl rfl dL_passes_174 ?_
      refine J_il hx rfl dL_passes_175 ?_
      refine J_iconst hx (0 : Int32) dL_passes_177 rfl ?_
      obtain ⟨r22, hr23, h⟩ := bnd h
      refine J_rdL hx (kP_noted hC hW (okS_e hr23)) ml_L_155 cw_noted st_noted ini_L hy_noted (rest := []) rfl rfl (by decide) (by decide) (Nat.le_of_ble_eq_true rfl) (Nat.le_refl 0) (Nat.le_refl 0) dL_passes_178 ?_
      refine J_is hx (by decide) (hc_of rfl) rfl dL_passes_181 ?_
      refine J_il hx rfl dL_passes_183 ?_
      refine J_if_lt hx 234 dL_passes_185 rfl (fun h24 => ?_) (fun h24 => ?_)
      · replace h := pos h h24
        refine J_iconst hx (0 : Int32) dL_passes_234 rfl ?_
        obtain rfl := Option.some.inj h
        exact J_zretW (b := false) hx hr hW dL_passes_235 (Nat.le_refl 0) (Nat.le_refl 0)
      · replace h := neg h h24
        refine J_il hx rfl dL_passes_188 ?_
        refine J_bipush hx (8 : Int32) dL_passes_190 rfl ?_
        refine J_icmp_gt hx 234 dL_passes_192 rfl (fun h25 => ?_) (fun h25 => ?_)
        · replace h := pos h h25
          refine J_iconst hx (0 : Int32) dL_passes_234 rfl ?_
          obtain rfl := Option.some.inj h
          exact J_zretW (b := false) hx hr hW dL_passes_235 (Nat.le_refl 0) (Nat.le_refl 0)
        · replace h := neg h h25
          refine J_il4 hx rfl rfl dL_passes_195 ?_
          refine J_il4 hx rfl rfl dL_passes_196 ?_
          refine J_iadd hx dL_passes_197 ?_
          refine J_bipush hx (24 : Int32) dL_passes_198 rfl ?_
          refine J_irem hx (by decide) dL_passes_200 ?_
          refine J_if_ne hx 222 dL_passes_201 rfl (fun h26 => ?_) (fun h26 => ?_)
          · replace h := neg h h26
            refine J_lw (ls' := [some (.ref (B.1 + 0)), some (.int l1), some (.int l2), none, some (.int l4), some (.int l5), some (.int l6), none, none]) (lwS (lwS (lwS (lwN (lwS (lwS (lwS (lwN (lwN lwZ))))))))) ?_
            exact tL_passes_222 hx hC htr hr _ ih _ _ _ _ _ _  hW h
          · replace h := pos h h26
            refine J_il hx rfl dL_passes_204 ?_
            refine J_il hx rfl dL_passes_206 ?_
            refine J_iconst hx (-1 : Int32) dL_passes_208 rfl ?_
            refine J_icmp_ne hx 217 dL_passes_209 rfl (fun h27 => ?_) (fun h27 => ?_)
            · replace h := neg h h27
              refine J_il hx rfl dL_passes_217 ?_
              refine J_icmp_ne hx 234 dL_passes_219 rfl (fun h28 => ?_) (fun h28 => ?_)
              · replace h := neg h h28
                refine J_iconst hx (0 : Int32) dL_passes_234 rfl ?_
                obtain rfl := Option.some.inj h
                exact J_zretW (b := false) hx hr hW dL_passes_235 (Nat.le_refl 0) (Nat.le_refl 0)
              · replace h := pos h h28
                refine J_lw (ls' := [some (.ref (B.1 + 0)), some (.int l1), some (.int l2), none, some (.int l4), some (.int l5), some (.int l6), none, none]) (lwS (lwS (lwS (lwN (lwS (lwS (lwS (lwN (lwN lwZ))))))))) ?_
                exact tL_passes_222 hx hC htr hr _ ih _ _ _ _ _ _  hW h
            · replace h := pos h h27
              refine J_bipush hx (8 : Int32) dL_passes_212 rfl ?_
              refine J_goto hx 219 dL_passes_214 rfl ?_
              refine J_icmp_ne hx 234 dL_passes_219 rfl (fun h29 => ?_) (fun h29 => ?_)
              · replace h := neg h h29
                refine J_iconst hx (0 : Int32) dL_passes_234 rfl ?_
                obtain rfl := Option.some.inj h
                exact J_zretW (b := false) hx hr hW dL_passes_235 (Nat.le_refl 0) (Nat.le_refl 0)
              · replace h := pos h h29
                refine J_lw (ls' := [some (.ref (B.1 + 0)), some (.int l1), some (.int l2), none, some (.int l4), some (.int l5), some (.int l6), none, none]) (lwS (lwS (lwS (lwN (lwS (lwS (lwS (lwN (lwN lwZ))))))))) ?_
                exact tL_passes_222 hx hC htr hr _ ih _ _ _ _ _ _  hW h
def sL_passes_19 : Nat → Wl → Int32 → Int32 → Int32 → Int32 → Int32 → Option (Bool × Wl)
  | 0, _, _, _, _, _, _ => none
  | n + 1, w, l1, l2, l3, l4, l5 => (sO_whole w (2 : Int32)).bind (fun r1 => (if r1 ≤ l5 then (sO_whole w (5 : Int32)).bind (fun r4 => (sO_advance w l1).bind (fun r6 => (if r6.1 = l4 then (sO_whole r6.2 (0 : Int32)).bind (fun r11 => (if r11 = (l2 + l1) then (sO_whole r6.2 (7 : Int32)).bind (fun r14 => (if r14 = (l3 + l4) then (if ((l2 + l1) / (24 : Int32)) = (l2 / (24 : Int32)) then (sO_whole r6.2 (5 : Int32)).bind (fun r18 => (if r18 = r4 then some (true, r6.2) else some (false, r6.2))) else sL_passes_155 FU r6.2 l1 l2 l4 r4 (0 : Int32)) else some (false, r6.2))) else some (false, r6.2))) else some (false, r6.2)))) else (sO_crate w l5 (2 : Int32)).bind (fun r21 => (if r21 = (-1 : Int32) then (sO_crate w l5 (3 : Int32)).bind (fun r24 => (if r24 = (-1 : Int32) then (sO_crate w l5 (5 : Int32)).bind (fun r27 => (if (l2 + l1) < r27 then sL_passes_19 n w l1 l2 l3 (l4 + (0 : Int32)) (l5 + 1) else sL_passes_19 n w l1 l2 l3 (l4 + (1 : Int32)) (l5 + 1))) else sL_passes_19 n w l1 l2 l3 (l4 + (0 : Int32)) (l5 + 1))) else sL_passes_19 n w l1 l2 l3 (l4 + (0 : Int32)) (l5 + 1)))))
theorem tL_passes_19 {X : Cx} {B : Bs} {sz : Nat} {r : (Bool × Wl)} (hx : Fx X cL_passes 9 RL 9 0 0) (hC : GC (xΓ X) B) (htr : (xl X).stackTraces = false) (hr : Rt X (some .boolean) 0 0 (WΨ (xΓ X) B (some (.int (bI r.1))) r.2 sz)) : ∀ (n : Nat), ∀ (w : Wl) (l1 : Int32) (l2 : Int32) (l3 : Int32) (l4 : Int32) (l5 : Int32) {G : Gf} (hW : Wd (xΓ X) B w G) (h : sL_passes_19 n w l1 l2 l3 l4 l5 = some r), J X 9 G sz 0 0 19 [some (.ref (B.1 + 0)), some (.int l1), some (.int l2), some (.int l3), some (.int l4), some (.int l5), none, none, none] [] := by
  intro n
  induction n with
  | zero => intro w l1 l2 l3 l4 l5 G hW h; rw [sL_passes_19.eq_1] at h; cases h
  | succ n ih =>
    intro w l1 l2 l3 l4 l5 G hW h
    rw [sL_passes_19.eq_2] at h
    refine J_il hx rfl dL_passes_19 ?_
    refine J_al4 hx rfl rfl dL_passes_21 ?_
    refine J_iconst hx (2 : Int32) dL_passes_22 rfl ?_
    obtain ⟨r1, hr2, h⟩ := bnd h
    refine J_rdL hx (kP_whole hC hW (okS_e hr2)) ml_L_110 cw_whole st_whole ini_L hy_whole (rest := [.int l5]) rfl rfl (by decide) (by decide) (Nat.le_of_ble_eq_true rfl) (Nat.le_refl 0) (Nat.le_refl 0) dL_passes_23 ?_
    refine J_icmp_ge hx 80 dL_passes_26 rfl (fun h3 => ?_) (fun h3 => ?_)
    · replace h := pos h h3
      refine J_al4 hx rfl rfl dL_passes_80 ?_
      refine J_iconst hx (5 : Int32) dL_passes_81 rfl ?_
      obtain ⟨r4, hr5, h⟩ := bnd h
      refine J_rdL hx (kP_whole hC hW (okS_e hr5)) ml_L_110 cw_whole st_whole ini_L hy_whole (rest := []) rfl rfl (by decide) (by decide) (Nat.le_of_ble_eq_true rfl) (Nat.le_refl 0) (Nat.le_refl 0) dL_passes_82 ?_
      refine J_is hx (by decide) (hc_of rfl) rfl dL_passes_85 ?_
      refine J_al4 hx rfl rfl dL_passes_87 ?_
      refine J_il4 hx rfl rfl dL_passes_88 ?_
      obtain ⟨r6, hr7, h⟩ := bnd h
      refine J_wrL hx (kP_advance hC hW (okS_e hr7)) ml_L_153 cw_advance st_advance ini_L hy_advance (rest := []) rfl rfl (by decide) (by decide) (Nat.le_of_ble_eq_true rfl) (Nat.le_refl 0) (Nat.le_refl 0) dL_passes_89 fun G8 hW9 => ?_
      show J X 9 G8 sz 0 0 92 [some (.ref (B.1 + 0)), some (.int l1), some (.int l2), some (.int l3), some (.int l4), some (.int r4), none, none, none] [.int r6.1]
      refine J_il hx rfl dL_passes_92 ?_
      refine J_icmp_ne hx 121 dL_passes_94 rfl (fun h10 => ?_) (fun h10 => ?_)
      · replace h := neg h h10
        refine J_iconst hx (0 : Int32) dL_passes_121 rfl ?_
        obtain rfl := Option.some.inj h
        exact J_zretW (b := false) hx hr hW9 dL_passes_122 (Nat.le_refl 0) (Nat.le_refl 0)
      · replace h := pos h h10
        refine J_al4 hx rfl rfl dL_passes_97 ?_
        refine J_iconst hx (0 : Int32) dL_passes_98 rfl ?_
        obtain ⟨r11, hr12, h⟩ := bnd h
        refine J_rdL hx (kP_whole hC hW9 (okS_e hr12)) ml_L_110 cw_whole st_whole ini_L hy_whole (rest := []) rfl rfl (by decide) (by decide) (Nat.le_of_ble_eq_true rfl) (Nat.le_refl 0) (Nat.le_refl 0) dL_passes_99 ?_
        refine J_il4 hx rfl rfl dL_passes_102 ?_
        refine J_il4 hx rfl rfl dL_passes_103 ?_
        refine J_iadd hx dL_passes_104 ?_
        refine J_icmp_ne hx 121 dL_passes_105 rfl (fun h13 => ?_) (fun h13 => ?_)
        · replace h := neg h h13
          refine J_iconst hx (0 : Int32) dL_passes_121 rfl ?_
          obtain rfl := Option.some.inj h
          exact J_zretW (b := false) hx hr hW9 dL_passes_122 (Nat.le_refl 0) (Nat.le_refl 0)
        · replace h := pos h h13
          refine J_al4 hx rfl rfl dL_passes_108 ?_
          refine J_bipush hx (7 : Int32) dL_passes_109 rfl ?_
          obtain ⟨r14, hr15, h⟩ := bnd h
          refine J_rdL hx (kP_whole hC hW9 (okS_e hr15)) ml_L_110 cw_whole st_whole ini_L hy_whole (rest := []) rfl rfl (by decide) (by decide) (Nat.le_of_ble_eq_true rfl) (Nat.le_refl 0) (Nat.le_refl 0) dL_passes_111 ?_
          refine J_il4 hx rfl rfl dL_passes_114 ?_
          refine J_il hx rfl dL_passes_115 ?_
          refine J_iadd hx dL_passes_117 ?_
          refine J_icmp_eq hx 123 dL_passes_118 rfl (fun h16 => ?_) (fun h16 => ?_)
          · replace h := pos h h16
            refine J_il4 hx rfl rfl dL_passes_123 ?_
            refine J_il4 hx rfl rfl dL_passes_124 ?_
            refine J_iadd hx dL_passes_125 ?_
            refine J_bipush hx (24 : Int32) dL_passes_126 rfl ?_
            refine J_idiv hx (by decide) dL_passes_128 ?_
            refine J_il4 hx rfl rfl dL_passes_129 ?_
            refine J_bipush hx (24 : Int32) dL_passes_130 rfl ?_
            refine J_idiv hx (by decide) dL_passes_132 ?_
            refine J_icmp_ne hx 152 dL_passes_133 rfl (fun h17 => ?_) (fun h17 => ?_)
            · replace h := neg h h17
              refine J_iconst hx (0 : Int32) dL_passes_152 rfl ?_
              refine J_is hx (by decide) (hc_of rfl) rfl dL_passes_153 ?_
              refine J_lw (ls' := [some (.ref (B.1 + 0)), some (.int l1), some (.int l2), none, some (.int l4), some (.int r4), some (.int (0 : Int32)), none, none]) (lwS (lwS (lwS (lwN (lwS (lwS (lwS (lwN (lwN lwZ))))))))) ?_
              exact tL_passes_155 hx hC htr hr _ _ _ _ _ _ _  hW9 h
            · replace h := pos h h17
              refine J_al4 hx rfl rfl dL_passes_136 ?_
              refine J_iconst hx (5 : Int32) dL_passes_137 rfl ?_
              obtain ⟨r18, hr19, h⟩ := bnd h
              refine J_rdL hx (kP_whole hC hW9 (okS_e hr19)) ml_L_110 cw_whole st_whole ini_L hy_whole (rest := []) rfl rfl (by decide) (by decide) (Nat.le_of_ble_eq_true rfl) (Nat.le_refl 0) (Nat.le_refl 0) dL_passes_138 ?_
              refine J_il hx rfl dL_passes_141 ?_
              refine J_icmp_ne hx 150 dL_passes_143 rfl (fun h20 => ?_) (fun h20 => ?_)
              · replace h := neg h h20
                refine J_iconst hx (0 : Int32) dL_passes_150 rfl ?_
                obtain rfl := Option.some.inj h
                exact J_zretW (b := false) hx hr hW9 dL_passes_151 (Nat.le_refl 0) (Nat.le_refl 0)
              · replace h := pos h h20
                refine J_iconst hx (1 : Int32) dL_passes_146 rfl ?_
                refine J_goto hx 151 dL_passes_147 rfl ?_
                obtain rfl := Option.some.inj h
                exact J_zretW (b := true) hx hr hW9 dL_passes_151 (Nat.le_refl 0) (Nat.le_refl 0)
          · replace h := neg h h16
            refine J_iconst hx (0 : Int32) dL_passes_121 rfl ?_
            obtain rfl := Option.some.inj h
            exact J_zretW (b := false) hx hr hW9 dL_passes_122 (Nat.le_refl 0) (Nat.le_refl 0)
    · replace h := neg h h3
      refine J_il hx rfl dL_passes_29 ?_
      refine J_al4 hx rfl rfl dL_passes_31 ?_
      refine J_il hx rfl dL_passes_32 ?_
      refine J_iconst hx (2 : Int32) dL_passes_34 rfl ?_
      obtain ⟨r21, hr22, h⟩ := bnd h
      refine J_rdL hx (kP_crate hC hW (okS_e hr22)) ml_L_118 cw_crate st_crate ini_L hy_crate (rest := [.int l4]) rfl rfl (by decide) (by decide) (Nat.le_of_ble_eq_true rfl) (Nat.le_refl 0) (Nat.le_refl 0) dL_passes_35 ?_
      refine J_iconst hx (-1 : Int32) dL_passes_38 rfl ?_
      refine J_icmp_ne hx 70 dL_passes_39 rfl (fun h23 => ?_) (fun h23 => ?_)
      · replace h := neg h h23
        refine J_iconst hx (0 : Int32) dL_passes_70 rfl ?_
        refine J_iadd hx dL_passes_71 ?_
        refine J_is hx (by decide) (hc_of rfl) rfl dL_passes_72 ?_
        refine J_iinc hx (v' := (l5 + 1)) rfl rfl (by decide) (hc_of rfl) rfl dL_passes_74 ?_
        refine J_goto hx 19 dL_passes_77 rfl ?_
        exact ih _ _ _ _ _ _  hW h
      · replace h := pos h h23
        refine J_al4 hx rfl rfl dL_passes_42 ?_
        refine J_il hx rfl dL_passes_43 ?_
        refine J_iconst hx (3 : Int32) dL_passes_45 rfl ?_
        obtain ⟨r24, hr25, h⟩ := bnd h
        refine J_rdL hx (kP_crate hC hW (okS_e hr25)) ml_L_118 cw_crate st_crate ini_L hy_crate (rest := [.int l4]) rfl rfl (by decide) (by decide) (Nat.le_of_ble_eq_true rfl) (Nat.le_refl 0) (Nat.le_refl 0) dL_passes_46 ?_
        refine J_iconst hx (-1 : Int32) dL_passes_49 rfl ?_
        refine J_icmp_ne hx 70 dL_passes_50 rfl (fun h26 => ?_) (fun h26 => ?_)
        · replace h := neg h h26
          refine J_iconst hx (0 : Int32) dL_passes_70 rfl ?_
          refine J_iadd hx dL_passes_71 ?_
          refine J_is hx (by decide) (hc_of rfl) rfl dL_passes_72 ?_
          refine J_iinc hx (v' := (l5 + 1)) rfl rfl (by decide) (hc_of rfl) rfl dL_passes_74 ?_
          refine J_goto hx 19 dL_passes_77 rfl ?_
          exact ih _ _ _ _ _ _  hW h
        · replace h := pos h h26
          refine J_al4 hx rfl rfl dL_passes_53 ?_
          refine J_il hx rfl dL_passes_54 ?_
          refine J_iconst hx (5 : Int32) dL_passes_56 rfl ?_
          obtain ⟨r27, hr28, h⟩ := bnd h
          refine J_rdL hx (kP_crate hC hW (okS_e hr28)) ml_L_118 cw_crate st_crate ini_L hy_crate (rest := [.int l4]) rfl rfl (by decide) (by decide) (Nat.le_of_ble_eq_true rfl) (Nat.le_refl 0) (Nat.le_refl 0) dL_passes_57 ?_
          refine J_il4 hx rfl rfl dL_passes_60 ?_
          refine J_il4 hx rfl rfl dL_passes_61 ?_
          refine J_iadd hx dL_passes_62 ?_
          refine J_icmp_gt hx 70 dL_passes_63 rfl (fun h29 => ?_) (fun h29 => ?_)
          · replace h := pos h h29
            refine J_iconst hx (0 : Int32) dL_passes_70 rfl ?_
            refine J_iadd hx dL_passes_71 ?_
            refine J_is hx (by decide) (hc_of rfl) rfl dL_passes_72 ?_
            refine J_iinc hx (v' := (l5 + 1)) rfl rfl (by decide) (hc_of rfl) rfl dL_passes_74 ?_
            refine J_goto hx 19 dL_passes_77 rfl ?_
            exact ih _ _ _ _ _ _  hW h
          · replace h := neg h h29
            refine J_iconst hx (1 : Int32) dL_passes_66 rfl ?_
            refine J_goto hx 71 dL_passes_67 rfl ?_
            refine J_iadd hx dL_passes_71 ?_
            refine J_is hx (by decide) (hc_of rfl) rfl dL_passes_72 ?_
            refine J_iinc hx (v' := (l5 + 1)) rfl rfl (by decide) (hc_of rfl) rfl dL_passes_74 ?_
            refine J_goto hx 19 dL_passes_77 rfl ?_
            exact ih _ _ _ _ _ _  hW h
def sL_passes (w : Wl) (l1 : Int32) : Option (Bool × Wl) := (sO_whole w (0 : Int32)).bind (fun r1 => (sO_whole w (7 : Int32)).bind (fun r3 => sL_passes_19 FU w l1 r1 r3 (0 : Int32) (0 : Int32)))
theorem kL_passes {l : Launch} {Γ : Gl} {B : Bs} {w : Wl} {G : Gf} {sz : Nat} {l1 : Int32} {r : (Bool × Wl)} (hC : GC Γ B) (htr : l.stackTraces = false) (hW : Wd Γ B w G) (h : sL_passes w l1 = some r) : CtW l Γ yL_passes cL_passes 9 (some .boolean) 9 [.ref (B.1 + 0), .int l1] G sz B (some (.int (bI r.1))) r.2 := by
  refine Ct.of rfl (Nat.le_of_ble_eq_true rfl) fun X hx hr hl hΓ hnm => ?_
  subst hl hΓ
  show J X 9 G sz 0 0 0 [some (.ref (B.1 + 0)), some (.int l1), none, none, none, none, none, none, none] []
  unfold sL_passes at h
  refine J_al4 hx rfl rfl dL_passes_0 ?_
  refine J_iconst hx (0 : Int32) dL_passes_1 rfl ?_
  obtain ⟨r1, hr2, h⟩ := bnd h
  refine J_rdL hx (kP_whole hC hW (okS_e hr2)) ml_L_110 cw_whole st_whole ini_L hy_whole (rest := []) rfl rfl (by decide) (by decide) (Nat.le_of_ble_eq_true rfl) (Nat.le_refl 0) (Nat.le_refl 0) dL_passes_2 ?_
  refine J_is4 hx rfl (by decide) (hc_of rfl) rfl dL_passes_5 ?_
  refine J_al4 hx rfl rfl dL_passes_6 ?_
  refine J_bipush hx (7 : Int32) dL_passes_7 rfl ?_
  obtain ⟨r3, hr4, h⟩ := bnd h
  refine J_rdL hx (kP_whole hC hW (okS_e hr4)) ml_L_110 cw_whole st_whole ini_L hy_whole (rest := []) rfl rfl (by decide) (by decide) (Nat.le_of_ble_eq_true rfl) (Nat.le_refl 0) (Nat.le_refl 0) dL_passes_9 ?_
  refine J_is4 hx rfl (by decide) (hc_of rfl) rfl dL_passes_12 ?_
  refine J_iconst hx (0 : Int32) dL_passes_13 rfl ?_
  refine J_is hx (by decide) (hc_of rfl) rfl dL_passes_14 ?_
  refine J_iconst hx (0 : Int32) dL_passes_16 rfl ?_
  refine J_is hx (by decide) (hc_of rfl) rfl dL_passes_17 ?_
  exact tL_passes_19 hx hC htr hr _ _ _ _ _ _ _  hW h
