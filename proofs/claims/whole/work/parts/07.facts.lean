/-! The words of the tables that the walks name: written by wip/whole/gen_facts.py -/
theorem wtm_1 {w : Cond} (i : Nat) (h : tables_1_1[i]? = some w) (g : goodWord w = true) : w ∈ WT := List.mem_filter.mpr ⟨List.mem_append_right _ (List.mem_append_left _ (List.mem_of_getElem? h)), g⟩
theorem wtm_2 {w : Cond} (i : Nat) (h : tables_1_2[i]? = some w) (g : goodWord w = true) : w ∈ WT := List.mem_filter.mpr ⟨List.mem_append_right _ (List.mem_append_right _ (List.mem_append_left _ (List.mem_of_getElem? h))), g⟩
theorem wtm_3 {w : Cond} (i : Nat) (h : tables_1_3[i]? = some w) (g : goodWord w = true) : w ∈ WT := List.mem_filter.mpr ⟨List.mem_append_right _ (List.mem_append_right _ (List.mem_append_right _ (List.mem_append_left _ (List.mem_of_getElem? h)))), g⟩
theorem wtm_4 {w : Cond} (i : Nat) (h : tables_1_4[i]? = some w) (g : goodWord w = true) : w ∈ WT := List.mem_filter.mpr ⟨List.mem_append_right _ (List.mem_append_right _ (List.mem_append_right _ (List.mem_append_right _ (List.mem_append_left _ (List.mem_of_getElem? h))))), g⟩
theorem wtm_5 {w : Cond} (i : Nat) (h : tables_1_5[i]? = some w) (g : goodWord w = true) : w ∈ WT := List.mem_filter.mpr ⟨List.mem_append_right _ (List.mem_append_right _ (List.mem_append_right _ (List.mem_append_right _ (List.mem_append_right _ (List.mem_append_left _ (List.mem_of_getElem? h)))))), g⟩
theorem wtm_6 {w : Cond} (i : Nat) (h : tables_1_6[i]? = some w) (g : goodWord w = true) : w ∈ WT := List.mem_filter.mpr ⟨List.mem_append_right _ (List.mem_append_right _ (List.mem_append_right _ (List.mem_append_right _ (List.mem_append_right _ (List.mem_append_right _ (List.mem_append_left _ (List.mem_of_getElem? h))))))), g⟩
theorem wtm_7 {w : Cond} (i : Nat) (h : tables_1_7[i]? = some w) (g : goodWord w = true) : w ∈ WT := List.mem_filter.mpr ⟨List.mem_append_right _ (List.mem_append_right _ (List.mem_append_right _ (List.mem_append_right _ (List.mem_append_right _ (List.mem_append_right _ (List.mem_append_right _ (List.mem_append_left _ (List.mem_of_getElem? h)))))))), g⟩
theorem wtm_8 {w : Cond} (i : Nat) (h : tables_1_8[i]? = some w) (g : goodWord w = true) : w ∈ WT := List.mem_filter.mpr ⟨List.mem_append_right _ (List.mem_append_right _ (List.mem_append_right _ (List.mem_append_right _ (List.mem_append_right _ (List.mem_append_right _ (List.mem_append_right _ (List.mem_append_right _ (List.mem_of_getElem? h)))))))), g⟩
theorem wtp {y : MethodName} {q : Nat} (i : Nat) (h : lw_privs[i]? = some (y, q)) : Cond.selects y.cls y y ∈ WT := List.mem_filter.mpr ⟨List.mem_append_left _ (List.mem_map.mpr ⟨_, List.mem_of_getElem? h, rfl⟩), rfl⟩
theorem ml_L_105 : Cond.methodLink RL 105 yX12_init ∈ WT := (wtm_1 30 (by decide +kernel) (by decide +kernel))
theorem ml_X12_1 : Cond.methodLink RX12 1 objectInit ∈ WT := (wtm_1 33 (by decide +kernel) (by decide +kernel))
theorem ml_X12_9 : Cond.methodLink RX12 9 yX6_init ∈ WT := (wtm_1 38 (by decide +kernel) (by decide +kernel))
theorem ml_X6_3 : Cond.methodLink RX6 3 objectInit ∈ WT := (wtm_1 41 (by decide +kernel) (by decide +kernel))
theorem ml_X9_3 : Cond.methodLink RX9 3 objectInit ∈ WT := (wtm_1 54 (by decide +kernel) (by decide +kernel))
theorem ml_X3_3 : Cond.methodLink RX3 3 objectInit ∈ WT := (wtm_1 96 (by decide +kernel) (by decide +kernel))
theorem ml_X11_3 : Cond.methodLink RX11 3 objectInit ∈ WT := (wtm_1 166 (by decide +kernel) (by decide +kernel))
theorem ml_X12_18 : Cond.methodLink RX12 18 yX1_init ∈ WT := (wtm_2 70 (by decide +kernel) (by decide +kernel))
theorem ml_X1_3 : Cond.methodLink RX1 3 objectInit ∈ WT := (wtm_2 73 (by decide +kernel) (by decide +kernel))
theorem ml_X12_27 : Cond.methodLink RX12 27 yX4_init ∈ WT := (wtm_2 80 (by decide +kernel) (by decide +kernel))
theorem ml_X4_3 : Cond.methodLink RX4 3 objectInit ∈ WT := (wtm_2 83 (by decide +kernel) (by decide +kernel))
theorem ml_X12_34 : Cond.methodLink RX12 34 yX8_init ∈ WT := (wtm_2 90 (by decide +kernel) (by decide +kernel))
theorem ml_X8_3 : Cond.methodLink RX8 3 objectInit ∈ WT := (wtm_2 93 (by decide +kernel) (by decide +kernel))
theorem ml_X12_41 : Cond.methodLink RX12 41 yX5_init ∈ WT := (wtm_2 100 (by decide +kernel) (by decide +kernel))
theorem ml_X5_3 : Cond.methodLink RX5 3 objectInit ∈ WT := (wtm_2 103 (by decide +kernel) (by decide +kernel))
theorem ml_X12_50 : Cond.methodLink RX12 50 yX7_init ∈ WT := (wtm_2 116 (by decide +kernel) (by decide +kernel))
theorem ml_X7_3 : Cond.methodLink RX7 3 objectInit ∈ WT := (wtm_2 119 (by decide +kernel) (by decide +kernel))
theorem ml_X7_17 : Cond.methodLink RX7 17 yX6_init ∈ WT := (wtm_2 122 (by decide +kernel) (by decide +kernel))
theorem ml_X2_3 : Cond.methodLink RX2 3 objectInit ∈ WT := (wtm_2 136 (by decide +kernel) (by decide +kernel))
theorem ml_L_200 : Cond.methodLink RL 200 yX12_clearCommands ∈ WT := (wtm_2 184 (by decide +kernel) (by decide +kernel))
theorem ml_X12_247 : Cond.methodLink RX12 247 yX2_empty ∈ WT := (wtm_2 188 (by decide +kernel) (by decide +kernel))
theorem ml_L_204 : Cond.methodLink RL 204 yX12_runCommands ∈ WT := (wtm_2 192 (by decide +kernel) (by decide +kernel))
theorem ml_X12_251 : Cond.methodLink RX12 251 yX2_findFault ∈ WT := (wtm_2 196 (by decide +kernel) (by decide +kernel))
theorem ml_X2_35 : Cond.methodLink RX2 35 yX2_rewind ∈ WT := (wtm_2 200 (by decide +kernel) (by decide +kernel))
theorem ml_X2_38 : Cond.methodLink RX2 38 yX2_readNext ∈ WT := (wtm_2 204 (by decide +kernel) (by decide +kernel))
theorem ml_X2_45 : Cond.methodLink RX2 45 yX2_skipSpaces ∈ WT := (wtm_2 208 (by decide +kernel) (by decide +kernel))
theorem ml_X2_48 : Cond.methodLink RX2 48 yX2_readWord ∈ WT := (wtm_2 212 (by decide +kernel) (by decide +kernel))
theorem ml_X2_65 : Cond.methodLink RX2 65 yX2_isWordAt ∈ WT := (wtm_2 218 (by decide +kernel) (by decide +kernel))
theorem ml_X2_73 : Cond.methodLink RX2 73 yJ0_length_8abf5 ∈ WT := (wtm_2 222 (by decide +kernel) (by decide +kernel))
theorem ml_J0_335 : Cond.methodLink RJ0 335 yJ0_coder_7d493 ∈ WT := (wtm_2 226 (by decide +kernel) (by decide +kernel))
theorem ml_X2_78 : Cond.methodLink RX2 78 yJ0_charAt_5068e ∈ WT := (wtm_2 232 (by decide +kernel) (by decide +kernel))
theorem ml_J0_492 : Cond.methodLink RJ0 492 yJ0_isLatin1_aae02 ∈ WT := (wtm_2 236 (by decide +kernel) (by decide +kernel))
theorem ml_J0_495 : Cond.methodLink RJ0 495 yJ1_charAt_3b067 ∈ WT := (wtm_3 0 (by decide +kernel) (by decide +kernel))
theorem ml_J1_9 : Cond.methodLink RJ1 9 yJ0_checkIndex_df160 ∈ WT := (wtm_3 3 (by decide +kernel) (by decide +kernel))
theorem ml_J0_1059 : Cond.methodLink RJ0 1059 yJ3_checkIndex_8e157 ∈ WT := (wtm_3 8 (by decide +kernel) (by decide +kernel))
theorem ml_J0_498 : Cond.methodLink RJ0 498 yJ2_charAt_3b067 ∈ WT := (wtm_3 11 (by decide +kernel) (by decide +kernel))
theorem ml_J2_67 : Cond.methodLink RJ2 67 yJ2_checkIndex_2214a ∈ WT := (wtm_3 14 (by decide +kernel) (by decide +kernel))
theorem ml_J2_48 : Cond.methodLink RJ2 48 yJ2_length_9d52b ∈ WT := (wtm_3 17 (by decide +kernel) (by decide +kernel))
theorem ml_J2_414 : Cond.methodLink RJ2 414 yJ0_checkIndex_df160 ∈ WT := (wtm_3 20 (by decide +kernel) (by decide +kernel))
theorem ml_J2_71 : Cond.methodLink RJ2 71 yJ2_getChar_3b067 ∈ WT := (wtm_3 21 (by decide +kernel) (by decide +kernel))
theorem ml_X2_69 : Cond.methodLink RX2 69 yX2_failAt ∈ WT := (wtm_3 30 (by decide +kernel) (by decide +kernel))
theorem ml_X2_51 : Cond.methodLink RX2 51 yX2_readNumbers ∈ WT := (wtm_3 34 (by decide +kernel) (by decide +kernel))
theorem ml_X2_85 : Cond.methodLink RX2 85 yX2_readNumber ∈ WT := (wtm_3 38 (by decide +kernel) (by decide +kernel))
theorem ml_X2_88 : Cond.methodLink RX2 88 yX2_isAtDigit ∈ WT := (wtm_3 42 (by decide +kernel) (by decide +kernel))
theorem ml_X2_54 : Cond.methodLink RX2 54 yX2_readSemicolon ∈ WT := (wtm_3 46 (by decide +kernel) (by decide +kernel))
theorem ml_X12_70 : Cond.methodLink RX12 70 yX7_keep ∈ WT := (wtm_3 50 (by decide +kernel) (by decide +kernel))
theorem ml_X7_22 : Cond.methodLink RX7 22 yX7_dropOldest ∈ WT := (wtm_3 54 (by decide +kernel) (by decide +kernel))
theorem ml_X7_25 : Cond.methodLink RX7 25 yX6_copyFrom ∈ WT := (wtm_3 58 (by decide +kernel) (by decide +kernel))
theorem ml_X6_69 : Cond.methodLink RX6 69 yX9_copyFrom ∈ WT := (wtm_3 62 (by decide +kernel) (by decide +kernel))
theorem ml_X9_31 : Cond.methodLink RX9 31 arraycopyName ∈ WT := (wtm_3 66 (by decide +kernel) (by decide +kernel))
theorem ml_X6_73 : Cond.methodLink RX6 73 yX3_copyFrom ∈ WT := (wtm_3 69 (by decide +kernel) (by decide +kernel))
theorem ml_X6_76 : Cond.methodLink RX6 76 yX11_copyFrom ∈ WT := (wtm_3 73 (by decide +kernel) (by decide +kernel))
theorem ml_X11_41 : Cond.methodLink RX11 41 arraycopyName ∈ WT := (wtm_3 77 (by decide +kernel) (by decide +kernel))
theorem ml_X6_79 : Cond.methodLink RX6 79 arraycopyName ∈ WT := (wtm_3 78 (by decide +kernel) (by decide +kernel))
theorem ml_X12_254 : Cond.methodLink RX12 254 yX2_rewind ∈ WT := (wtm_3 79 (by decide +kernel) (by decide +kernel))
theorem ml_X12_257 : Cond.methodLink RX12 257 yX2_readNext ∈ WT := (wtm_3 80 (by decide +kernel) (by decide +kernel))
theorem ml_X12_268 : Cond.methodLink RX12 268 yX12_wrongWith ∈ WT := (wtm_3 81 (by decide +kernel) (by decide +kernel))
theorem ml_X12_122 : Cond.methodLink RX12 122 yX1_ofOpening ∈ WT := (wtm_3 93 (by decide +kernel) (by decide +kernel))
theorem ml_X1_51 : Cond.methodLink RX1 51 yX6_hasCrate ∈ WT := (wtm_3 97 (by decide +kernel) (by decide +kernel))
theorem ml_X1_54 : Cond.methodLink RX1 54 yX1_mayBeOpened ∈ WT := (wtm_3 101 (by decide +kernel) (by decide +kernel))
theorem ml_X1_67 : Cond.methodLink RX1 67 yX6_isWithinReach ∈ WT := (wtm_3 105 (by decide +kernel) (by decide +kernel))
theorem ml_X6_98 : Cond.methodLink RX6 98 yX6_hasCrate ∈ WT := (wtm_3 109 (by decide +kernel) (by decide +kernel))
theorem ml_X6_89 : Cond.methodLink RX6 89 yX6_hasVenue ∈ WT := (wtm_3 110 (by decide +kernel) (by decide +kernel))
theorem ml_X1_91 : Cond.methodLink RX1 91 yX6_venueOfCrate ∈ WT := (wtm_3 114 (by decide +kernel) (by decide +kernel))
theorem ml_X6_108 : Cond.methodLink RX6 108 yX6_outermost ∈ WT := (wtm_3 118 (by decide +kernel) (by decide +kernel))
theorem ml_X1_34 : Cond.methodLink RX1 34 yX6_hasVenue ∈ WT := (wtm_3 122 (by decide +kernel) (by decide +kernel))
theorem ml_X1_196 : Cond.methodLink RX1 196 yX3_hoursNeededAt ∈ WT := (wtm_3 123 (by decide +kernel) (by decide +kernel))
theorem ml_X3_46 : Cond.methodLink RX3 46 yJ9_abs_0f7a4 ∈ WT := (wtm_3 127 (by decide +kernel) (by decide +kernel))
theorem ml_X1_30 : Cond.methodLink RX1 30 yX1_firstWrong ∈ WT := (wtm_3 130 (by decide +kernel) (by decide +kernel))
theorem ml_X12_128 : Cond.methodLink RX12 128 yX1_ofClosing ∈ WT := (wtm_3 133 (by decide +kernel) (by decide +kernel))
theorem ml_X1_70 : Cond.methodLink RX1 70 yX1_holdsOpenCrate ∈ WT := (wtm_3 137 (by decide +kernel) (by decide +kernel))
theorem ml_X12_134 : Cond.methodLink RX12 134 yX1_ofNesting ∈ WT := (wtm_3 141 (by decide +kernel) (by decide +kernel))
theorem ml_X1_73 : Cond.methodLink RX1 73 yX1_mayBeNested ∈ WT := (wtm_3 145 (by decide +kernel) (by decide +kernel))
theorem ml_X12_140 : Cond.methodLink RX12 140 yX1_ofTakingOut ∈ WT := (wtm_3 149 (by decide +kernel) (by decide +kernel))
theorem ml_X12_146 : Cond.methodLink RX12 146 yX1_ofPacking ∈ WT := (wtm_3 153 (by decide +kernel) (by decide +kernel))
theorem ml_X1_79 : Cond.methodLink RX1 79 yX6_hasWork ∈ WT := (wtm_3 157 (by decide +kernel) (by decide +kernel))
theorem ml_X12_152 : Cond.methodLink RX12 152 yX1_ofUnpacking ∈ WT := (wtm_3 161 (by decide +kernel) (by decide +kernel))
theorem ml_X12_158 : Cond.methodLink RX12 158 yX1_ofSending ∈ WT := (wtm_3 165 (by decide +kernel) (by decide +kernel))
theorem ml_X1_105 : Cond.methodLink RX1 105 yX1_ofLeg ∈ WT := (wtm_3 169 (by decide +kernel) (by decide +kernel))
theorem ml_X1_98 : Cond.methodLink RX1 98 yX6_isCourierOrNone ∈ WT := (wtm_3 173 (by decide +kernel) (by decide +kernel))
theorem ml_X6_85 : Cond.methodLink RX6 85 yX6_hasCourier ∈ WT := (wtm_3 177 (by decide +kernel) (by decide +kernel))
theorem ml_X1_101 : Cond.methodLink RX1 101 yX1_ofNumber ∈ WT := (wtm_3 181 (by decide +kernel) (by decide +kernel))
theorem ml_X1_109 : Cond.methodLink RX1 109 yX1_reasonAgainst ∈ WT := (wtm_3 185 (by decide +kernel) (by decide +kernel))
theorem ml_X1_112 : Cond.methodLink RX1 112 yX1_reasonOfCrate ∈ WT := (wtm_3 189 (by decide +kernel) (by decide +kernel))
theorem ml_X1_129 : Cond.methodLink RX1 129 yX6_hoursBetween ∈ WT := (wtm_3 193 (by decide +kernel) (by decide +kernel))
theorem ml_X1_116 : Cond.methodLink RX1 116 yX1_reasonOfWorks ∈ WT := (wtm_3 197 (by decide +kernel) (by decide +kernel))
theorem ml_X1_132 : Cond.methodLink RX1 132 yX6_isInOrBelow ∈ WT := (wtm_3 201 (by decide +kernel) (by decide +kernel))
theorem ml_X1_145 : Cond.methodLink RX1 145 yX1_bars ∈ WT := (wtm_3 205 (by decide +kernel) (by decide +kernel))
theorem ml_X1_153 : Cond.methodLink RX1 153 yX1_suits ∈ WT := (wtm_3 208 (by decide +kernel) (by decide +kernel))
theorem ml_X1_119 : Cond.methodLink RX1 119 yX1_isAboveCap ∈ WT := (wtm_3 211 (by decide +kernel) (by decide +kernel))
theorem ml_X1_157 : Cond.methodLink RX1 157 yX6_valueInOrBelow ∈ WT := (wtm_3 215 (by decide +kernel) (by decide +kernel))
theorem ml_X6_119 : Cond.methodLink RX6 119 yX6_isInOrBelow ∈ WT := (wtm_3 219 (by decide +kernel) (by decide +kernel))
theorem ml_X1_160 : Cond.methodLink RX1 160 yX6_valueAt ∈ WT := (wtm_3 220 (by decide +kernel) (by decide +kernel))
theorem ml_X6_126 : Cond.methodLink RX6 126 yX6_venueOfWork ∈ WT := (wtm_3 224 (by decide +kernel) (by decide +kernel))
theorem ml_X1_163 : Cond.methodLink RX1 163 yX6_valueOnTheWayTo ∈ WT := (wtm_3 228 (by decide +kernel) (by decide +kernel))
theorem ml_X6_129 : Cond.methodLink RX6 129 yX6_goalOfWork ∈ WT := (wtm_3 232 (by decide +kernel) (by decide +kernel))
theorem ml_X1_122 : Cond.methodLink RX1 122 yX1_reasonOfCourier ∈ WT := (wtm_3 236 (by decide +kernel) (by decide +kernel))
theorem ml_X1_171 : Cond.methodLink RX1 171 yX6_hasCourier ∈ WT := (wtm_4 0 (by decide +kernel) (by decide +kernel))
theorem ml_X1_174 : Cond.methodLink RX1 174 yX1_needsCourier ∈ WT := (wtm_4 1 (by decide +kernel) (by decide +kernel))
theorem ml_X12_164 : Cond.methodLink RX12 164 yX1_ofWaiting ∈ WT := (wtm_4 5 (by decide +kernel) (by decide +kernel))
theorem ml_X1_19 : Cond.methodLink RX1 19 yX1_isIn ∈ WT := (wtm_4 9 (by decide +kernel) (by decide +kernel))
theorem ml_X12_272 : Cond.methodLink RX12 272 yX12_perform ∈ WT := (wtm_4 12 (by decide +kernel) (by decide +kernel))
theorem ml_X12_125 : Cond.methodLink RX12 125 yX4_openCrate ∈ WT := (wtm_4 16 (by decide +kernel) (by decide +kernel))
theorem ml_X4_112 : Cond.methodLink RX4 112 yX6_worksDirectlyIn ∈ WT := (wtm_4 20 (by decide +kernel) (by decide +kernel))
theorem ml_X12_131 : Cond.methodLink RX12 131 yX4_closeCrate ∈ WT := (wtm_4 24 (by decide +kernel) (by decide +kernel))
theorem ml_X4_116 : Cond.methodLink RX4 116 yX6_venueOfCrate ∈ WT := (wtm_4 28 (by decide +kernel) (by decide +kernel))
theorem ml_X4_119 : Cond.methodLink RX4 119 yX6_hasVenue ∈ WT := (wtm_4 29 (by decide +kernel) (by decide +kernel))
theorem ml_X4_125 : Cond.methodLink RX4 125 yX6_worksInOrBelow ∈ WT := (wtm_4 30 (by decide +kernel) (by decide +kernel))
theorem ml_X12_137 : Cond.methodLink RX12 137 yX4_putCrateInto ∈ WT := (wtm_4 34 (by decide +kernel) (by decide +kernel))
theorem ml_X4_72 : Cond.methodLink RX4 72 yX3_standAt ∈ WT := (wtm_4 38 (by decide +kernel) (by decide +kernel))
theorem ml_X4_128 : Cond.methodLink RX4 128 yX6_cratesDirectlyIn ∈ WT := (wtm_4 42 (by decide +kernel) (by decide +kernel))
theorem ml_X12_143 : Cond.methodLink RX12 143 yX4_takeCrateOut ∈ WT := (wtm_4 46 (by decide +kernel) (by decide +kernel))
theorem ml_X12_149 : Cond.methodLink RX12 149 yX4_packWork ∈ WT := (wtm_4 50 (by decide +kernel) (by decide +kernel))
theorem ml_X12_155 : Cond.methodLink RX12 155 yX4_unpackWork ∈ WT := (wtm_4 54 (by decide +kernel) (by decide +kernel))
theorem ml_X4_131 : Cond.methodLink RX4 131 yX6_venueOfWork ∈ WT := (wtm_4 58 (by decide +kernel) (by decide +kernel))
theorem ml_X12_161 : Cond.methodLink RX12 161 yX4_sendCrate ∈ WT := (wtm_4 59 (by decide +kernel) (by decide +kernel))
theorem ml_X4_135 : Cond.methodLink RX4 135 yX6_hoursBetween ∈ WT := (wtm_4 63 (by decide +kernel) (by decide +kernel))
theorem ml_X4_148 : Cond.methodLink RX4 148 yX6_hasCourier ∈ WT := (wtm_4 64 (by decide +kernel) (by decide +kernel))
theorem ml_X12_167 : Cond.methodLink RX12 167 yX4_letHoursPass ∈ WT := (wtm_4 65 (by decide +kernel) (by decide +kernel))
theorem ml_X4_154 : Cond.methodLink RX4 154 yX4_passHour ∈ WT := (wtm_4 69 (by decide +kernel) (by decide +kernel))
theorem ml_X4_157 : Cond.methodLink RX4 157 yX4_arrive ∈ WT := (wtm_4 73 (by decide +kernel) (by decide +kernel))
theorem ml_X4_163 : Cond.methodLink RX4 163 yX6_isInOrBelow ∈ WT := (wtm_4 77 (by decide +kernel) (by decide +kernel))
theorem ml_X4_160 : Cond.methodLink RX4 160 yX4_endDay ∈ WT := (wtm_4 78 (by decide +kernel) (by decide +kernel))
theorem ml_X4_167 : Cond.methodLink RX4 167 yX4_premiumOf ∈ WT := (wtm_4 82 (by decide +kernel) (by decide +kernel))
theorem ml_X4_173 : Cond.methodLink RX4 173 yX11_notePlace ∈ WT := (wtm_4 86 (by decide +kernel) (by decide +kernel))
theorem ml_X11_47 : Cond.methodLink RX11 47 yJ9_min_7cf53 ∈ WT := (wtm_4 90 (by decide +kernel) (by decide +kernel))
theorem ml_L_212 : Cond.methodLink RL 212 yX12_digest ∈ WT := (wtm_4 93 (by decide +kernel) (by decide +kernel))
theorem ml_X12_284 : Cond.methodLink RX12 284 yX12_mixed ∈ WT := (wtm_4 98 (by decide +kernel) (by decide +kernel))
theorem ml_X12_222 : Cond.methodLink RX12 222 yX8_ofWhole ∈ WT := (wtm_4 102 (by decide +kernel) (by decide +kernel))
theorem ml_X8_160 : Cond.methodLink RX8 160 yX8_worksOnTheirWay ∈ WT := (wtm_4 106 (by decide +kernel) (by decide +kernel))
theorem ml_X8_180 : Cond.methodLink RX8 180 yX6_goalOfWork ∈ WT := (wtm_4 110 (by decide +kernel) (by decide +kernel))
theorem ml_X8_164 : Cond.methodLink RX8 164 yX8_openCrates ∈ WT := (wtm_4 111 (by decide +kernel) (by decide +kernel))
theorem ml_X12_288 : Cond.methodLink RX12 288 yX12_withVenues ∈ WT := (wtm_4 115 (by decide +kernel) (by decide +kernel))
theorem ml_X12_208 : Cond.methodLink RX12 208 yX8_ofVenue ∈ WT := (wtm_4 119 (by decide +kernel) (by decide +kernel))
theorem ml_X8_125 : Cond.methodLink RX8 125 yX6_valueAt ∈ WT := (wtm_4 123 (by decide +kernel) (by decide +kernel))
theorem ml_X8_128 : Cond.methodLink RX8 128 yX6_valueOnTheWayTo ∈ WT := (wtm_4 124 (by decide +kernel) (by decide +kernel))
theorem ml_X8_131 : Cond.methodLink RX8 131 yX8_cratesAt ∈ WT := (wtm_4 125 (by decide +kernel) (by decide +kernel))
theorem ml_X8_134 : Cond.methodLink RX8 134 yX8_couriersAt ∈ WT := (wtm_4 129 (by decide +kernel) (by decide +kernel))
theorem ml_X12_292 : Cond.methodLink RX12 292 yX12_withCrates ∈ WT := (wtm_4 133 (by decide +kernel) (by decide +kernel))
theorem ml_X12_184 : Cond.methodLink RX12 184 yX8_ofCrate ∈ WT := (wtm_4 137 (by decide +kernel) (by decide +kernel))
theorem ml_X8_21 : Cond.methodLink RX8 21 yX6_outermost ∈ WT := (wtm_4 141 (by decide +kernel) (by decide +kernel))
theorem ml_X8_35 : Cond.methodLink RX8 35 yX8_asNumber ∈ WT := (wtm_4 142 (by decide +kernel) (by decide +kernel))
theorem ml_X8_51 : Cond.methodLink RX8 51 yX8_temperatureIn ∈ WT := (wtm_4 145 (by decide +kernel) (by decide +kernel))
theorem ml_X8_167 : Cond.methodLink RX8 167 yX6_hasVenue ∈ WT := (wtm_4 149 (by decide +kernel) (by decide +kernel))
theorem ml_X8_55 : Cond.methodLink RX8 55 yX8_humidityIn ∈ WT := (wtm_4 150 (by decide +kernel) (by decide +kernel))
theorem ml_X8_61 : Cond.methodLink RX8 61 yX8_hoursNeeded ∈ WT := (wtm_4 154 (by decide +kernel) (by decide +kernel))
theorem ml_X8_172 : Cond.methodLink RX8 172 yX3_hoursNeededAt ∈ WT := (wtm_4 158 (by decide +kernel) (by decide +kernel))
theorem ml_X8_64 : Cond.methodLink RX8 64 yX6_worksInOrBelow ∈ WT := (wtm_4 159 (by decide +kernel) (by decide +kernel))
theorem ml_X8_67 : Cond.methodLink RX8 67 yX6_cratesBelow ∈ WT := (wtm_4 160 (by decide +kernel) (by decide +kernel))
theorem ml_X8_70 : Cond.methodLink RX8 70 yX6_valueInOrBelow ∈ WT := (wtm_4 164 (by decide +kernel) (by decide +kernel))
theorem ml_X8_73 : Cond.methodLink RX8 73 yX6_isWithinReach ∈ WT := (wtm_4 165 (by decide +kernel) (by decide +kernel))
theorem ml_X12_228 : Cond.methodLink RX12 228 yX5_timeOfCrate ∈ WT := (wtm_4 166 (by decide +kernel) (by decide +kernel))
theorem ml_X5_68 : Cond.methodLink RX5 68 yX6_isInOrBelow ∈ WT := (wtm_4 170 (by decide +kernel) (by decide +kernel))
theorem ml_X5_72 : Cond.methodLink RX5 72 yX5_timeOfWork ∈ WT := (wtm_4 171 (by decide +kernel) (by decide +kernel))
theorem ml_X5_35 : Cond.methodLink RX5 35 yX6_hasCrate ∈ WT := (wtm_4 175 (by decide +kernel) (by decide +kernel))
theorem ml_X5_46 : Cond.methodLink RX5 46 yX6_outermost ∈ WT := (wtm_4 176 (by decide +kernel) (by decide +kernel))
theorem ml_X5_58 : Cond.methodLink RX5 58 yX5_timeThrough ∈ WT := (wtm_4 177 (by decide +kernel) (by decide +kernel))
theorem ml_X5_95 : Cond.methodLink RX5 95 yX6_hasVenue ∈ WT := (wtm_4 181 (by decide +kernel) (by decide +kernel))
theorem ml_X5_98 : Cond.methodLink RX5 98 yX5_listAround ∈ WT := (wtm_4 182 (by decide +kernel) (by decide +kernel))
theorem ml_X5_112 : Cond.methodLink RX5 112 yX3_hoursNeededAt ∈ WT := (wtm_4 186 (by decide +kernel) (by decide +kernel))
theorem ml_X5_75 : Cond.methodLink RX5 75 yJ9_max_7cf53 ∈ WT := (wtm_4 187 (by decide +kernel) (by decide +kernel))
theorem ml_X12_295 : Cond.methodLink RX12 295 yX12_withWorks ∈ WT := (wtm_4 190 (by decide +kernel) (by decide +kernel))
theorem ml_X12_190 : Cond.methodLink RX12 190 yX8_ofWork ∈ WT := (wtm_4 194 (by decide +kernel) (by decide +kernel))
theorem ml_X8_98 : Cond.methodLink RX8 98 yX6_venueOfWork ∈ WT := (wtm_4 198 (by decide +kernel) (by decide +kernel))
theorem ml_X8_101 : Cond.methodLink RX8 101 yX6_cratesOutwards ∈ WT := (wtm_4 199 (by decide +kernel) (by decide +kernel))
theorem ml_X12_200 : Cond.methodLink RX12 200 yX11_placeNoted ∈ WT := (wtm_4 203 (by decide +kernel) (by decide +kernel))
theorem ml_X12_225 : Cond.methodLink RX12 225 yX5_timeOfWork ∈ WT := (wtm_4 207 (by decide +kernel) (by decide +kernel))
theorem ml_L_109 : Cond.methodLink RL 109 yL_addVenue ∈ WT := (wtm_4 208 (by decide +kernel) (by decide +kernel))
theorem ml_L_7 : Cond.methodLink RL 7 yX12_addVenue ∈ WT := (wtm_4 213 (by decide +kernel) (by decide +kernel))
theorem ml_X12_62 : Cond.methodLink RX12 62 yX1_ofNewVenue ∈ WT := (wtm_4 217 (by decide +kernel) (by decide +kernel))
theorem ml_X1_15 : Cond.methodLink RX1 15 yX1_isClimate ∈ WT := (wtm_4 221 (by decide +kernel) (by decide +kernel))
theorem ml_X12_66 : Cond.methodLink RX12 66 yX12_throwIfWrong ∈ WT := (wtm_4 225 (by decide +kernel) (by decide +kernel))
theorem ml_X12_73 : Cond.methodLink RX12 73 yX4_makeVenue ∈ WT := (wtm_5 87 (by decide +kernel) (by decide +kernel))
theorem ml_L_118 : Cond.methodLink RL 118 yL_setClimate ∈ WT := (wtm_5 91 (by decide +kernel) (by decide +kernel))
theorem ml_L_17 : Cond.methodLink RL 17 yX12_setClimate ∈ WT := (wtm_5 95 (by decide +kernel) (by decide +kernel))
theorem ml_X12_76 : Cond.methodLink RX12 76 yX1_ofClimate ∈ WT := (wtm_5 99 (by decide +kernel) (by decide +kernel))
theorem ml_X12_80 : Cond.methodLink RX12 80 yX4_changeClimate ∈ WT := (wtm_5 103 (by decide +kernel) (by decide +kernel))
theorem ml_L_122 : Cond.methodLink RL 122 yL_setWay ∈ WT := (wtm_5 107 (by decide +kernel) (by decide +kernel))
theorem ml_L_23 : Cond.methodLink RL 23 yX12_setWay ∈ WT := (wtm_5 110 (by decide +kernel) (by decide +kernel))
theorem ml_X12_83 : Cond.methodLink RX12 83 yX1_ofWay ∈ WT := (wtm_5 114 (by decide +kernel) (by decide +kernel))
theorem ml_X12_86 : Cond.methodLink RX12 86 yX4_changeWay ∈ WT := (wtm_5 118 (by decide +kernel) (by decide +kernel))
theorem ml_L_125 : Cond.methodLink RL 125 yL_setLender ∈ WT := (wtm_5 122 (by decide +kernel) (by decide +kernel))
theorem ml_L_26 : Cond.methodLink RL 26 yX12_setLender ∈ WT := (wtm_5 125 (by decide +kernel) (by decide +kernel))
theorem ml_X12_89 : Cond.methodLink RX12 89 yX1_ofLenderValue ∈ WT := (wtm_5 129 (by decide +kernel) (by decide +kernel))
theorem ml_X1_38 : Cond.methodLink RX1 38 yX1_isLenderValue ∈ WT := (wtm_5 133 (by decide +kernel) (by decide +kernel))
theorem ml_X12_92 : Cond.methodLink RX12 92 yX4_changeLender ∈ WT := (wtm_5 136 (by decide +kernel) (by decide +kernel))
theorem ml_L_128 : Cond.methodLink RL 128 yL_setWayRate ∈ WT := (wtm_5 140 (by decide +kernel) (by decide +kernel))
theorem ml_L_29 : Cond.methodLink RL 29 yX12_setWayRate ∈ WT := (wtm_5 143 (by decide +kernel) (by decide +kernel))
theorem ml_X12_95 : Cond.methodLink RX12 95 yX1_ofWayRate ∈ WT := (wtm_5 147 (by decide +kernel) (by decide +kernel))
theorem ml_X12_99 : Cond.methodLink RX12 99 yX4_changeWayRate ∈ WT := (wtm_5 151 (by decide +kernel) (by decide +kernel))
theorem ml_L_132 : Cond.methodLink RL 132 yL_addCourier ∈ WT := (wtm_5 155 (by decide +kernel) (by decide +kernel))
theorem ml_L_33 : Cond.methodLink RL 33 yX12_addCourier ∈ WT := (wtm_5 158 (by decide +kernel) (by decide +kernel))
theorem ml_X12_102 : Cond.methodLink RX12 102 yX1_ofNewCourier ∈ WT := (wtm_5 162 (by decide +kernel) (by decide +kernel))
theorem ml_X12_105 : Cond.methodLink RX12 105 yX4_makeCourier ∈ WT := (wtm_5 166 (by decide +kernel) (by decide +kernel))
theorem ml_L_135 : Cond.methodLink RL 135 yL_addCrate ∈ WT := (wtm_5 170 (by decide +kernel) (by decide +kernel))
theorem ml_L_36 : Cond.methodLink RL 36 yX12_addCrate ∈ WT := (wtm_5 173 (by decide +kernel) (by decide +kernel))
theorem ml_X12_108 : Cond.methodLink RX12 108 yX1_ofNewCrate ∈ WT := (wtm_5 177 (by decide +kernel) (by decide +kernel))
theorem ml_X12_112 : Cond.methodLink RX12 112 yX4_makeCrate ∈ WT := (wtm_5 181 (by decide +kernel) (by decide +kernel))
theorem ml_L_139 : Cond.methodLink RL 139 yL_addWork ∈ WT := (wtm_5 185 (by decide +kernel) (by decide +kernel))
theorem ml_L_40 : Cond.methodLink RL 40 yX12_addWork ∈ WT := (wtm_5 188 (by decide +kernel) (by decide +kernel))
theorem ml_X12_115 : Cond.methodLink RX12 115 yX1_ofNewWork ∈ WT := (wtm_5 192 (by decide +kernel) (by decide +kernel))
theorem ml_X12_118 : Cond.methodLink RX12 118 yX4_makeWork ∈ WT := (wtm_5 197 (by decide +kernel) (by decide +kernel))
theorem ml_L_143 : Cond.methodLink RL 143 yL_open ∈ WT := (wtm_5 201 (by decide +kernel) (by decide +kernel))
theorem ml_L_44 : Cond.methodLink RL 44 yX12_open ∈ WT := (wtm_5 204 (by decide +kernel) (by decide +kernel))
theorem ml_L_146 : Cond.methodLink RL 146 yL_close ∈ WT := (wtm_5 208 (by decide +kernel) (by decide +kernel))
theorem ml_L_47 : Cond.methodLink RL 47 yX12_close ∈ WT := (wtm_5 211 (by decide +kernel) (by decide +kernel))
theorem ml_L_149 : Cond.methodLink RL 149 yL_nest ∈ WT := (wtm_5 215 (by decide +kernel) (by decide +kernel))
theorem ml_L_50 : Cond.methodLink RL 50 yX12_nest ∈ WT := (wtm_5 218 (by decide +kernel) (by decide +kernel))
theorem ml_L_152 : Cond.methodLink RL 152 yL_takeOut ∈ WT := (wtm_5 222 (by decide +kernel) (by decide +kernel))
theorem ml_L_53 : Cond.methodLink RL 53 yX12_takeOut ∈ WT := (wtm_5 225 (by decide +kernel) (by decide +kernel))
theorem ml_L_155 : Cond.methodLink RL 155 yL_pack ∈ WT := (wtm_5 229 (by decide +kernel) (by decide +kernel))
theorem ml_L_56 : Cond.methodLink RL 56 yX12_pack ∈ WT := (wtm_5 232 (by decide +kernel) (by decide +kernel))
theorem ml_L_158 : Cond.methodLink RL 158 yL_unpack ∈ WT := (wtm_5 236 (by decide +kernel) (by decide +kernel))
theorem ml_L_59 : Cond.methodLink RL 59 yX12_unpack ∈ WT := (wtm_5 239 (by decide +kernel) (by decide +kernel))
theorem ml_L_161 : Cond.methodLink RL 161 yL_send ∈ WT := (wtm_6 3 (by decide +kernel) (by decide +kernel))
theorem ml_L_62 : Cond.methodLink RL 62 yX12_send ∈ WT := (wtm_6 6 (by decide +kernel) (by decide +kernel))
theorem ml_L_164 : Cond.methodLink RL 164 yL_advance ∈ WT := (wtm_6 10 (by decide +kernel) (by decide +kernel))
theorem ml_L_65 : Cond.methodLink RL 65 yX12_advance ∈ WT := (wtm_6 13 (by decide +kernel) (by decide +kernel))
theorem ml_L_167 : Cond.methodLink RL 167 yL_refusal ∈ WT := (wtm_6 17 (by decide +kernel) (by decide +kernel))
theorem ml_L_68 : Cond.methodLink RL 68 yX12_refusal ∈ WT := (wtm_6 20 (by decide +kernel) (by decide +kernel))
theorem ml_X12_170 : Cond.methodLink RX12 170 yX1_ofLeg ∈ WT := (wtm_6 24 (by decide +kernel) (by decide +kernel))
theorem ml_X12_173 : Cond.methodLink RX12 173 yX1_reasonAgainst ∈ WT := (wtm_6 25 (by decide +kernel) (by decide +kernel))
theorem ml_L_170 : Cond.methodLink RL 170 yL_crate ∈ WT := (wtm_6 26 (by decide +kernel) (by decide +kernel))
theorem ml_L_71 : Cond.methodLink RL 71 yX12_crate ∈ WT := (wtm_6 29 (by decide +kernel) (by decide +kernel))
theorem ml_X12_176 : Cond.methodLink RX12 176 yX6_hasCrate ∈ WT := (wtm_6 33 (by decide +kernel) (by decide +kernel))
theorem ml_X12_180 : Cond.methodLink RX12 180 yX1_ofValue ∈ WT := (wtm_6 34 (by decide +kernel) (by decide +kernel))
theorem ml_L_173 : Cond.methodLink RL 173 yL_work ∈ WT := (wtm_6 38 (by decide +kernel) (by decide +kernel))
theorem ml_L_74 : Cond.methodLink RL 74 yX12_work ∈ WT := (wtm_6 41 (by decide +kernel) (by decide +kernel))
theorem ml_X12_187 : Cond.methodLink RX12 187 yX6_hasWork ∈ WT := (wtm_6 45 (by decide +kernel) (by decide +kernel))
theorem ml_L_176 : Cond.methodLink RL 176 yL_noted ∈ WT := (wtm_6 46 (by decide +kernel) (by decide +kernel))
theorem ml_L_77 : Cond.methodLink RL 77 yX12_noted ∈ WT := (wtm_6 49 (by decide +kernel) (by decide +kernel))
theorem ml_X12_193 : Cond.methodLink RX12 193 yX1_ofNoted ∈ WT := (wtm_6 53 (by decide +kernel) (by decide +kernel))
theorem ml_L_179 : Cond.methodLink RL 179 yL_venue ∈ WT := (wtm_6 57 (by decide +kernel) (by decide +kernel))
theorem ml_L_80 : Cond.methodLink RL 80 yX12_venue ∈ WT := (wtm_6 60 (by decide +kernel) (by decide +kernel))
theorem ml_X12_205 : Cond.methodLink RX12 205 yX6_hasVenue ∈ WT := (wtm_6 64 (by decide +kernel) (by decide +kernel))
theorem ml_L_182 : Cond.methodLink RL 182 yL_courier ∈ WT := (wtm_6 65 (by decide +kernel) (by decide +kernel))
theorem ml_L_83 : Cond.methodLink RL 83 yX12_courier ∈ WT := (wtm_6 68 (by decide +kernel) (by decide +kernel))
theorem ml_X12_211 : Cond.methodLink RX12 211 yX6_hasCourier ∈ WT := (wtm_6 72 (by decide +kernel) (by decide +kernel))
theorem ml_X12_214 : Cond.methodLink RX12 214 yX1_ofNumber ∈ WT := (wtm_6 73 (by decide +kernel) (by decide +kernel))
theorem ml_L_185 : Cond.methodLink RL 185 yL_whole ∈ WT := (wtm_6 74 (by decide +kernel) (by decide +kernel))
theorem ml_L_86 : Cond.methodLink RL 86 yX12_whole ∈ WT := (wtm_6 77 (by decide +kernel) (by decide +kernel))
theorem ml_L_188 : Cond.methodLink RL 188 yL_readyAt ∈ WT := (wtm_6 81 (by decide +kernel) (by decide +kernel))
theorem ml_L_89 : Cond.methodLink RL 89 yX12_readyAt ∈ WT := (wtm_6 84 (by decide +kernel) (by decide +kernel))
theorem ml_L_191 : Cond.methodLink RL 191 yL_allReadyAt ∈ WT := (wtm_6 88 (by decide +kernel) (by decide +kernel))
theorem ml_L_92 : Cond.methodLink RL 92 yX12_allReadyAt ∈ WT := (wtm_6 91 (by decide +kernel) (by decide +kernel))
theorem ml_L_194 : Cond.methodLink RL 194 yL_bestVenue ∈ WT := (wtm_6 95 (by decide +kernel) (by decide +kernel))
theorem ml_L_95 : Cond.methodLink RL 95 yX12_bestVenue ∈ WT := (wtm_6 98 (by decide +kernel) (by decide +kernel))
theorem ml_X12_231 : Cond.methodLink RX12 231 yX6_isCourierOrNone ∈ WT := (wtm_6 102 (by decide +kernel) (by decide +kernel))
theorem ml_X12_234 : Cond.methodLink RX12 234 yX5_soonestVenue ∈ WT := (wtm_6 103 (by decide +kernel) (by decide +kernel))
theorem ml_X5_84 : Cond.methodLink RX5 84 yX1_reasonAgainst ∈ WT := (wtm_6 107 (by decide +kernel) (by decide +kernel))
theorem ml_X5_89 : Cond.methodLink RX5 89 yX5_timeIfSent ∈ WT := (wtm_6 108 (by decide +kernel) (by decide +kernel))
theorem ml_X5_92 : Cond.methodLink RX5 92 yX6_hoursBetween ∈ WT := (wtm_6 112 (by decide +kernel) (by decide +kernel))
theorem ml_L_197 : Cond.methodLink RL 197 yL_type ∈ WT := (wtm_6 113 (by decide +kernel) (by decide +kernel))
theorem ml_L_98 : Cond.methodLink RL 98 yX12_type ∈ WT := (wtm_6 116 (by decide +kernel) (by decide +kernel))
theorem ml_X12_241 : Cond.methodLink RX12 241 yX1_ofByte ∈ WT := (wtm_6 120 (by decide +kernel) (by decide +kernel))
theorem ml_X12_244 : Cond.methodLink RX12 244 yX2_append ∈ WT := (wtm_6 124 (by decide +kernel) (by decide +kernel))
theorem ml_L_208 : Cond.methodLink RL 208 yL_undo ∈ WT := (wtm_6 128 (by decide +kernel) (by decide +kernel))
theorem ml_L_101 : Cond.methodLink RL 101 yX12_undo ∈ WT := (wtm_6 131 (by decide +kernel) (by decide +kernel))
theorem ml_X12_278 : Cond.methodLink RX12 278 yX7_restore ∈ WT := (wtm_6 135 (by decide +kernel) (by decide +kernel))
theorem ml_L_108 : Cond.methodLink RL 108 yX13_init ∈ WT := (wtm_6 141 (by decide +kernel) (by decide +kernel))
theorem ml_X13_1 : Cond.methodLink RX13 1 objectInit ∈ WT := (wtm_6 144 (by decide +kernel) (by decide +kernel))
theorem ml_L_115 : Cond.methodLink RL 115 yX13_thrown ∈ WT := (wtm_6 179 (by decide +kernel) (by decide +kernel))
theorem ml_L_114 : Cond.methodLink RL 114 yX13_addVenue ∈ WT := (wtm_6 183 (by decide +kernel) (by decide +kernel))
theorem ml_X13_58 : Cond.methodLink RX13 58 yX13_isClimate ∈ WT := (wtm_6 187 (by decide +kernel) (by decide +kernel))
theorem ml_X13_32 : Cond.methodLink RX13 32 yX13_in ∈ WT := (wtm_6 190 (by decide +kernel) (by decide +kernel))
theorem ml_X13_62 : Cond.methodLink RX13 62 yX13_keep ∈ WT := (wtm_6 194 (by decide +kernel) (by decide +kernel))
theorem ml_L_121 : Cond.methodLink RL 121 yX13_setClimate ∈ WT := (wtm_6 198 (by decide +kernel) (by decide +kernel))
theorem ml_X13_65 : Cond.methodLink RX13 65 yX13_isVenue ∈ WT := (wtm_6 202 (by decide +kernel) (by decide +kernel))
theorem ml_L_124 : Cond.methodLink RL 124 yX13_setWay ∈ WT := (wtm_6 206 (by decide +kernel) (by decide +kernel))
theorem ml_X13_68 : Cond.methodLink RX13 68 yX13_ofVenue ∈ WT := (wtm_6 210 (by decide +kernel) (by decide +kernel))
theorem ml_L_127 : Cond.methodLink RL 127 yX13_setLender ∈ WT := (wtm_6 214 (by decide +kernel) (by decide +kernel))
theorem ml_X13_71 : Cond.methodLink RX13 71 yX13_isLent ∈ WT := (wtm_6 218 (by decide +kernel) (by decide +kernel))
theorem ml_L_131 : Cond.methodLink RL 131 yX13_setWayRate ∈ WT := (wtm_6 221 (by decide +kernel) (by decide +kernel))
theorem ml_L_134 : Cond.methodLink RL 134 yX13_addCourier ∈ WT := (wtm_6 225 (by decide +kernel) (by decide +kernel))
theorem ml_L_138 : Cond.methodLink RL 138 yX13_addCrate ∈ WT := (wtm_6 229 (by decide +kernel) (by decide +kernel))
theorem ml_X13_74 : Cond.methodLink RX13 74 yX13_put ∈ WT := (wtm_6 233 (by decide +kernel) (by decide +kernel))
theorem ml_L_142 : Cond.methodLink RL 142 yX13_addWork ∈ WT := (wtm_6 237 (by decide +kernel) (by decide +kernel))
theorem ml_X13_79 : Cond.methodLink RX13 79 yX13_putWork ∈ WT := (wtm_7 2 (by decide +kernel) (by decide +kernel))
theorem ml_L_145 : Cond.methodLink RL 145 yX13_open ∈ WT := (wtm_7 6 (by decide +kernel) (by decide +kernel))
theorem ml_X13_97 : Cond.methodLink RX13 97 yX13_notOpen ∈ WT := (wtm_7 10 (by decide +kernel) (by decide +kernel))
theorem ml_X13_85 : Cond.methodLink RX13 85 yX13_isCrate ∈ WT := (wtm_7 14 (by decide +kernel) (by decide +kernel))
theorem ml_X13_47 : Cond.methodLink RX13 47 yX13_isOpen ∈ WT := (wtm_7 18 (by decide +kernel) (by decide +kernel))
theorem ml_X13_36 : Cond.methodLink RX13 36 yX13_of ∈ WT := (wtm_7 22 (by decide +kernel) (by decide +kernel))
theorem ml_X13_88 : Cond.methodLink RX13 88 yX13_isReached ∈ WT := (wtm_7 26 (by decide +kernel) (by decide +kernel))
theorem ml_X13_44 : Cond.methodLink RX13 44 yX13_venueOf ∈ WT := (wtm_7 30 (by decide +kernel) (by decide +kernel))
theorem ml_X13_40 : Cond.methodLink RX13 40 yX13_outermost ∈ WT := (wtm_7 34 (by decide +kernel) (by decide +kernel))
theorem ml_X13_91 : Cond.methodLink RX13 91 yX13_needs ∈ WT := (wtm_7 38 (by decide +kernel) (by decide +kernel))
theorem ml_X13_82 : Cond.methodLink RX13 82 yX13_size ∈ WT := (wtm_7 42 (by decide +kernel) (by decide +kernel))
theorem ml_X13_100 : Cond.methodLink RX13 100 yX13_opens ∈ WT := (wtm_7 45 (by decide +kernel) (by decide +kernel))
theorem ml_X13_94 : Cond.methodLink RX13 94 yX13_directWorks ∈ WT := (wtm_7 49 (by decide +kernel) (by decide +kernel))
theorem ml_X13_51 : Cond.methodLink RX13 51 yX13_ofWork ∈ WT := (wtm_7 53 (by decide +kernel) (by decide +kernel))
theorem ml_L_148 : Cond.methodLink RL 148 yX13_close ∈ WT := (wtm_7 57 (by decide +kernel) (by decide +kernel))
theorem ml_X13_106 : Cond.methodLink RX13 106 yX13_notClose ∈ WT := (wtm_7 61 (by decide +kernel) (by decide +kernel))
theorem ml_X13_109 : Cond.methodLink RX13 109 yX13_closes ∈ WT := (wtm_7 65 (by decide +kernel) (by decide +kernel))
theorem ml_X13_103 : Cond.methodLink RX13 103 yX13_worksIn ∈ WT := (wtm_7 69 (by decide +kernel) (by decide +kernel))
theorem ml_X13_54 : Cond.methodLink RX13 54 yX13_isWithin ∈ WT := (wtm_7 73 (by decide +kernel) (by decide +kernel))
theorem ml_L_151 : Cond.methodLink RL 151 yX13_nest ∈ WT := (wtm_7 77 (by decide +kernel) (by decide +kernel))
theorem ml_X13_118 : Cond.methodLink RX13 118 yX13_notNest ∈ WT := (wtm_7 81 (by decide +kernel) (by decide +kernel))
theorem ml_X13_112 : Cond.methodLink RX13 112 yX13_isForUse ∈ WT := (wtm_7 85 (by decide +kernel) (by decide +kernel))
theorem ml_X13_121 : Cond.methodLink RX13 121 yX13_nests ∈ WT := (wtm_7 89 (by decide +kernel) (by decide +kernel))
theorem ml_X13_115 : Cond.methodLink RX13 115 yX13_directCrates ∈ WT := (wtm_7 93 (by decide +kernel) (by decide +kernel))
theorem ml_L_154 : Cond.methodLink RL 154 yX13_takeOut ∈ WT := (wtm_7 97 (by decide +kernel) (by decide +kernel))
theorem ml_X13_124 : Cond.methodLink RX13 124 yX13_notTakeOut ∈ WT := (wtm_7 101 (by decide +kernel) (by decide +kernel))
theorem ml_X13_127 : Cond.methodLink RX13 127 yX13_takesOut ∈ WT := (wtm_7 105 (by decide +kernel) (by decide +kernel))
theorem ml_L_157 : Cond.methodLink RL 157 yX13_pack ∈ WT := (wtm_7 109 (by decide +kernel) (by decide +kernel))
theorem ml_X13_133 : Cond.methodLink RX13 133 yX13_notPack ∈ WT := (wtm_7 113 (by decide +kernel) (by decide +kernel))
theorem ml_X13_130 : Cond.methodLink RX13 130 yX13_isWork ∈ WT := (wtm_7 117 (by decide +kernel) (by decide +kernel))
theorem ml_X13_136 : Cond.methodLink RX13 136 yX13_packs ∈ WT := (wtm_7 121 (by decide +kernel) (by decide +kernel))
theorem ml_L_160 : Cond.methodLink RL 160 yX13_unpack ∈ WT := (wtm_7 125 (by decide +kernel) (by decide +kernel))
theorem ml_X13_139 : Cond.methodLink RX13 139 yX13_notUnpack ∈ WT := (wtm_7 129 (by decide +kernel) (by decide +kernel))
theorem ml_X13_142 : Cond.methodLink RX13 142 yX13_unpacks ∈ WT := (wtm_7 133 (by decide +kernel) (by decide +kernel))
theorem ml_L_163 : Cond.methodLink RL 163 yX13_send ∈ WT := (wtm_7 137 (by decide +kernel) (by decide +kernel))
theorem ml_X13_174 : Cond.methodLink RX13 174 yX13_notSend ∈ WT := (wtm_7 141 (by decide +kernel) (by decide +kernel))
theorem ml_X13_167 : Cond.methodLink RX13 167 yX13_isSending ∈ WT := (wtm_7 145 (by decide +kernel) (by decide +kernel))
theorem ml_X13_164 : Cond.methodLink RX13 164 yX13_isCourier ∈ WT := (wtm_7 149 (by decide +kernel) (by decide +kernel))
theorem ml_X13_170 : Cond.methodLink RX13 170 yX13_reason ∈ WT := (wtm_7 153 (by decide +kernel) (by decide +kernel))
theorem ml_X13_154 : Cond.methodLink RX13 154 yX13_worksRefuse ∈ WT := (wtm_7 157 (by decide +kernel) (by decide +kernel))
theorem ml_X13_151 : Cond.methodLink RX13 151 yX13_lenderRefuses ∈ WT := (wtm_7 161 (by decide +kernel) (by decide +kernel))
theorem ml_X13_157 : Cond.methodLink RX13 157 yX13_valuesFor ∈ WT := (wtm_7 165 (by decide +kernel) (by decide +kernel))
theorem ml_X13_145 : Cond.methodLink RX13 145 yX13_standsIn ∈ WT := (wtm_7 169 (by decide +kernel) (by decide +kernel))
theorem ml_X13_148 : Cond.methodLink RX13 148 yX13_goesTo ∈ WT := (wtm_7 173 (by decide +kernel) (by decide +kernel))
theorem ml_X13_161 : Cond.methodLink RX13 161 yX13_isEscorted ∈ WT := (wtm_7 177 (by decide +kernel) (by decide +kernel))
theorem ml_X13_177 : Cond.methodLink RX13 177 yX13_sends ∈ WT := (wtm_7 181 (by decide +kernel) (by decide +kernel))
theorem ml_L_166 : Cond.methodLink RL 166 yX13_advance ∈ WT := (wtm_7 185 (by decide +kernel) (by decide +kernel))
theorem ml_X13_197 : Cond.methodLink RX13 197 yX13_notAdvance ∈ WT := (wtm_7 189 (by decide +kernel) (by decide +kernel))
theorem ml_X13_200 : Cond.methodLink RX13 200 yX13_advances ∈ WT := (wtm_7 192 (by decide +kernel) (by decide +kernel))
theorem ml_X13_193 : Cond.methodLink RX13 193 yX13_hour ∈ WT := (wtm_7 196 (by decide +kernel) (by decide +kernel))
theorem ml_X13_186 : Cond.methodLink RX13 186 yX13_arrives ∈ WT := (wtm_7 200 (by decide +kernel) (by decide +kernel))
theorem ml_X13_190 : Cond.methodLink RX13 190 yX13_pays ∈ WT := (wtm_7 204 (by decide +kernel) (by decide +kernel))
theorem ml_X13_182 : Cond.methodLink RX13 182 yX13_note ∈ WT := (wtm_7 209 (by decide +kernel) (by decide +kernel))
theorem ml_L_169 : Cond.methodLink RL 169 yX13_refusal ∈ WT := (wtm_7 213 (by decide +kernel) (by decide +kernel))
theorem ml_L_172 : Cond.methodLink RL 172 yX13_crate ∈ WT := (wtm_7 217 (by decide +kernel) (by decide +kernel))
theorem ml_X13_206 : Cond.methodLink RX13 206 yX13_crateOf ∈ WT := (wtm_7 221 (by decide +kernel) (by decide +kernel))
theorem ml_X13_203 : Cond.methodLink RX13 203 yX13_cratesBelow ∈ WT := (wtm_7 225 (by decide +kernel) (by decide +kernel))
theorem ml_L_175 : Cond.methodLink RL 175 yX13_work ∈ WT := (wtm_7 229 (by decide +kernel) (by decide +kernel))
theorem ml_X13_212 : Cond.methodLink RX13 212 yX13_workOf ∈ WT := (wtm_7 233 (by decide +kernel) (by decide +kernel))
theorem ml_X13_209 : Cond.methodLink RX13 209 yX13_around ∈ WT := (wtm_7 237 (by decide +kernel) (by decide +kernel))
theorem ml_L_178 : Cond.methodLink RL 178 yX13_noted ∈ WT := (wtm_8 1 (by decide +kernel) (by decide +kernel))
theorem ml_X13_215 : Cond.methodLink RX13 215 yX13_notedOf ∈ WT := (wtm_8 5 (by decide +kernel) (by decide +kernel))
theorem ml_L_181 : Cond.methodLink RL 181 yX13_venue ∈ WT := (wtm_8 9 (by decide +kernel) (by decide +kernel))
theorem ml_X13_228 : Cond.methodLink RX13 228 yX13_venueOfWhat ∈ WT := (wtm_8 13 (by decide +kernel) (by decide +kernel))
theorem ml_X13_218 : Cond.methodLink RX13 218 yX13_valuesAt ∈ WT := (wtm_8 17 (by decide +kernel) (by decide +kernel))
theorem ml_X13_222 : Cond.methodLink RX13 222 yX13_cratesAt ∈ WT := (wtm_8 21 (by decide +kernel) (by decide +kernel))
theorem ml_X13_225 : Cond.methodLink RX13 225 yX13_couriersAt ∈ WT := (wtm_8 25 (by decide +kernel) (by decide +kernel))
theorem ml_L_184 : Cond.methodLink RL 184 yX13_courier ∈ WT := (wtm_8 29 (by decide +kernel) (by decide +kernel))
theorem ml_L_187 : Cond.methodLink RL 187 yX13_whole ∈ WT := (wtm_8 33 (by decide +kernel) (by decide +kernel))
theorem ml_X13_237 : Cond.methodLink RX13 237 yX13_wholeOf ∈ WT := (wtm_8 37 (by decide +kernel) (by decide +kernel))
theorem ml_X13_231 : Cond.methodLink RX13 231 yX13_onTheirWay ∈ WT := (wtm_8 41 (by decide +kernel) (by decide +kernel))
theorem ml_X13_234 : Cond.methodLink RX13 234 yX13_openCrates ∈ WT := (wtm_8 45 (by decide +kernel) (by decide +kernel))
theorem ml_L_190 : Cond.methodLink RL 190 yX13_readyAt ∈ WT := (wtm_8 49 (by decide +kernel) (by decide +kernel))
theorem ml_X13_243 : Cond.methodLink RX13 243 yX13_ready ∈ WT := (wtm_8 53 (by decide +kernel) (by decide +kernel))
theorem ml_X13_240 : Cond.methodLink RX13 240 yX13_greater ∈ WT := (wtm_8 57 (by decide +kernel) (by decide +kernel))
theorem ml_L_193 : Cond.methodLink RL 193 yX13_allReadyAt ∈ WT := (wtm_8 60 (by decide +kernel) (by decide +kernel))
theorem ml_X13_246 : Cond.methodLink RX13 246 yX13_allReady ∈ WT := (wtm_8 64 (by decide +kernel) (by decide +kernel))
theorem ml_L_196 : Cond.methodLink RL 196 yX13_bestVenue ∈ WT := (wtm_8 68 (by decide +kernel) (by decide +kernel))
theorem ml_X13_249 : Cond.methodLink RX13 249 yX13_readyBy ∈ WT := (wtm_8 72 (by decide +kernel) (by decide +kernel))
theorem ml_L_199 : Cond.methodLink RL 199 yX13_type ∈ WT := (wtm_8 76 (by decide +kernel) (by decide +kernel))
theorem ml_L_203 : Cond.methodLink RL 203 yX13_clearCommands ∈ WT := (wtm_8 80 (by decide +kernel) (by decide +kernel))
theorem ml_L_207 : Cond.methodLink RL 207 yX13_runCommands ∈ WT := (wtm_8 84 (by decide +kernel) (by decide +kernel))
theorem ml_X13_308 : Cond.methodLink RX13 308 yX13_isGood ∈ WT := (wtm_8 88 (by decide +kernel) (by decide +kernel))
theorem ml_X13_292 : Cond.methodLink RX13 292 yX13_skips ∈ WT := (wtm_8 92 (by decide +kernel) (by decide +kernel))
theorem ml_X13_258 : Cond.methodLink RX13 258 yX13_here ∈ WT := (wtm_8 96 (by decide +kernel) (by decide +kernel))
theorem ml_X13_305 : Cond.methodLink RX13 305 yX13_readCommand ∈ WT := (wtm_8 100 (by decide +kernel) (by decide +kernel))
theorem ml_X13_296 : Cond.methodLink RX13 296 yX13_readWord ∈ WT := (wtm_8 104 (by decide +kernel) (by decide +kernel))
theorem ml_X13_285 : Cond.methodLink RX13 285 yX13_commandOf ∈ WT := (wtm_8 111 (by decide +kernel) (by decide +kernel))
theorem ml_X13_299 : Cond.methodLink RX13 299 yX13_manyFor ∈ WT := (wtm_8 123 (by decide +kernel) (by decide +kernel))
theorem ml_X13_302 : Cond.methodLink RX13 302 yX13_readNumber ∈ WT := (wtm_8 127 (by decide +kernel) (by decide +kernel))
theorem ml_X13_311 : Cond.methodLink RX13 311 yX13_whyNot ∈ WT := (wtm_8 131 (by decide +kernel) (by decide +kernel))
theorem ml_X13_314 : Cond.methodLink RX13 314 yX13_carryOut ∈ WT := (wtm_8 135 (by decide +kernel) (by decide +kernel))
theorem ml_L_211 : Cond.methodLink RL 211 yX13_undo ∈ WT := (wtm_8 139 (by decide +kernel) (by decide +kernel))
theorem ml_L_216 : Cond.methodLink RL 216 yX13_digest ∈ WT := (wtm_8 143 (by decide +kernel) (by decide +kernel))
theorem ml_X13_323 : Cond.methodLink RX13 323 yX13_mix ∈ WT := (wtm_8 148 (by decide +kernel) (by decide +kernel))
theorem ml_X13_329 : Cond.methodLink RX13 329 yX13_mixWork ∈ WT := (wtm_8 153 (by decide +kernel) (by decide +kernel))
theorem fl_X9_15 : Cond.fieldLink RX9 15 "CrateTour$Venue" "temperature" "I" ∈ WT := (wtm_1 55 (by decide +kernel) (by decide +kernel))
theorem fl_X4_25 : Cond.fieldLink RX4 25 "CrateTour$Venue" "temperature" "I" ∈ WT := (wtm_1 56 (by decide +kernel) (by decide +kernel))
theorem fl_X3_43 : Cond.fieldLink RX3 43 "CrateTour$Venue" "temperature" "I" ∈ WT := (wtm_1 57 (by decide +kernel) (by decide +kernel))
theorem fl_X8_111 : Cond.fieldLink RX8 111 "CrateTour$Venue" "temperature" "I" ∈ WT := (wtm_1 58 (by decide +kernel) (by decide +kernel))
theorem fl_X1_184 : Cond.fieldLink RX1 184 "CrateTour$Venue" "temperature" "I" ∈ WT := (wtm_1 59 (by decide +kernel) (by decide +kernel))
theorem fl_X9_19 : Cond.fieldLink RX9 19 "CrateTour$Venue" "humidity" "I" ∈ WT := (wtm_1 60 (by decide +kernel) (by decide +kernel))
theorem fl_X4_30 : Cond.fieldLink RX4 30 "CrateTour$Venue" "humidity" "I" ∈ WT := (wtm_1 61 (by decide +kernel) (by decide +kernel))
theorem fl_X3_52 : Cond.fieldLink RX3 52 "CrateTour$Venue" "humidity" "I" ∈ WT := (wtm_1 62 (by decide +kernel) (by decide +kernel))
theorem fl_X8_116 : Cond.fieldLink RX8 116 "CrateTour$Venue" "humidity" "I" ∈ WT := (wtm_1 63 (by decide +kernel) (by decide +kernel))
theorem fl_X1_187 : Cond.fieldLink RX1 187 "CrateTour$Venue" "humidity" "I" ∈ WT := (wtm_1 64 (by decide +kernel) (by decide +kernel))
theorem fl_X9_22 : Cond.fieldLink RX9 22 "CrateTour$Venue" "rate" "I" ∈ WT := (wtm_1 65 (by decide +kernel) (by decide +kernel))
theorem fl_X4_33 : Cond.fieldLink RX4 33 "CrateTour$Venue" "rate" "I" ∈ WT := (wtm_1 66 (by decide +kernel) (by decide +kernel))
theorem fl_X8_119 : Cond.fieldLink RX8 119 "CrateTour$Venue" "rate" "I" ∈ WT := (wtm_1 67 (by decide +kernel) (by decide +kernel))
theorem fl_X9_25 : Cond.fieldLink RX9 25 "CrateTour$Venue" "cap" "I" ∈ WT := (wtm_1 68 (by decide +kernel) (by decide +kernel))
theorem fl_X4_36 : Cond.fieldLink RX4 36 "CrateTour$Venue" "cap" "I" ∈ WT := (wtm_1 69 (by decide +kernel) (by decide +kernel))
theorem fl_X8_122 : Cond.fieldLink RX8 122 "CrateTour$Venue" "cap" "I" ∈ WT := (wtm_1 70 (by decide +kernel) (by decide +kernel))
theorem fl_X1_166 : Cond.fieldLink RX1 166 "CrateTour$Venue" "cap" "I" ∈ WT := (wtm_1 71 (by decide +kernel) (by decide +kernel))
theorem fl_X9_28 : Cond.fieldLink RX9 28 "CrateTour$Venue" "paid" "I" ∈ WT := (wtm_1 72 (by decide +kernel) (by decide +kernel))
theorem fl_X8_137 : Cond.fieldLink RX8 137 "CrateTour$Venue" "paid" "I" ∈ WT := (wtm_1 73 (by decide +kernel) (by decide +kernel))
theorem fl_X4_170 : Cond.fieldLink RX4 170 "CrateTour$Venue" "paid" "I" ∈ WT := (wtm_1 74 (by decide +kernel) (by decide +kernel))
theorem fl_X9_9 : Cond.fieldLink RX9 9 "CrateTour$Venue" "hoursTo" "[I" ∈ WT := (wtm_1 75 (by decide +kernel) (by decide +kernel))
theorem fl_X4_39 : Cond.fieldLink RX4 39 "CrateTour$Venue" "hoursTo" "[I" ∈ WT := (wtm_1 76 (by decide +kernel) (by decide +kernel))
theorem fl_X6_92 : Cond.fieldLink RX6 92 "CrateTour$Venue" "hoursTo" "[I" ∈ WT := (wtm_1 77 (by decide +kernel) (by decide +kernel))
theorem fl_X3_9 : Cond.fieldLink RX3 9 "CrateTour$Crate" "insulation" "I" ∈ WT := (wtm_1 97 (by decide +kernel) (by decide +kernel))
theorem fl_X8_25 : Cond.fieldLink RX8 25 "CrateTour$Crate" "insulation" "I" ∈ WT := (wtm_1 98 (by decide +kernel) (by decide +kernel))
theorem fl_X4_63 : Cond.fieldLink RX4 63 "CrateTour$Crate" "insulation" "I" ∈ WT := (wtm_1 99 (by decide +kernel) (by decide +kernel))
theorem fl_X3_15 : Cond.fieldLink RX3 15 "CrateTour$Crate" "isOpen" "Z" ∈ WT := (wtm_1 100 (by decide +kernel) (by decide +kernel))
theorem fl_X8_31 : Cond.fieldLink RX8 31 "CrateTour$Crate" "isOpen" "Z" ∈ WT := (wtm_1 101 (by decide +kernel) (by decide +kernel))
theorem fl_X5_101 : Cond.fieldLink RX5 101 "CrateTour$Crate" "isOpen" "Z" ∈ WT := (wtm_1 102 (by decide +kernel) (by decide +kernel))
theorem fl_X4_68 : Cond.fieldLink RX4 68 "CrateTour$Crate" "isOpen" "Z" ∈ WT := (wtm_1 103 (by decide +kernel) (by decide +kernel))
theorem fl_X1_61 : Cond.fieldLink RX1 61 "CrateTour$Crate" "isOpen" "Z" ∈ WT := (wtm_1 104 (by decide +kernel) (by decide +kernel))
theorem fl_X6_104 : Cond.fieldLink RX6 104 "CrateTour$Crate" "isOpen" "Z" ∈ WT := (wtm_1 105 (by decide +kernel) (by decide +kernel))
theorem fl_X3_19 : Cond.fieldLink RX3 19 "CrateTour$Crate" "holder" "I" ∈ WT := (wtm_1 106 (by decide +kernel) (by decide +kernel))
theorem fl_X8_39 : Cond.fieldLink RX8 39 "CrateTour$Crate" "holder" "I" ∈ WT := (wtm_1 107 (by decide +kernel) (by decide +kernel))
theorem fl_X5_116 : Cond.fieldLink RX5 116 "CrateTour$Crate" "holder" "I" ∈ WT := (wtm_1 108 (by decide +kernel) (by decide +kernel))
theorem fl_X6_95 : Cond.fieldLink RX6 95 "CrateTour$Crate" "holder" "I" ∈ WT := (wtm_1 109 (by decide +kernel) (by decide +kernel))
theorem fl_X4_103 : Cond.fieldLink RX4 103 "CrateTour$Crate" "holder" "I" ∈ WT := (wtm_1 110 (by decide +kernel) (by decide +kernel))
theorem fl_X1_76 : Cond.fieldLink RX1 76 "CrateTour$Crate" "holder" "I" ∈ WT := (wtm_1 111 (by decide +kernel) (by decide +kernel))
theorem fl_X3_22 : Cond.fieldLink RX3 22 "CrateTour$Crate" "venue" "I" ∈ WT := (wtm_1 112 (by decide +kernel) (by decide +kernel))
theorem fl_X5_62 : Cond.fieldLink RX5 62 "CrateTour$Crate" "venue" "I" ∈ WT := (wtm_1 113 (by decide +kernel) (by decide +kernel))
theorem fl_X8_42 : Cond.fieldLink RX8 42 "CrateTour$Crate" "venue" "I" ∈ WT := (wtm_1 114 (by decide +kernel) (by decide +kernel))
theorem fl_X6_101 : Cond.fieldLink RX6 101 "CrateTour$Crate" "venue" "I" ∈ WT := (wtm_1 115 (by decide +kernel) (by decide +kernel))
theorem fl_X4_134 : Cond.fieldLink RX4 134 "CrateTour$Crate" "venue" "I" ∈ WT := (wtm_1 116 (by decide +kernel) (by decide +kernel))
theorem fl_X1_128 : Cond.fieldLink RX1 128 "CrateTour$Crate" "venue" "I" ∈ WT := (wtm_1 117 (by decide +kernel) (by decide +kernel))
theorem fl_X3_25 : Cond.fieldLink RX3 25 "CrateTour$Crate" "goal" "I" ∈ WT := (wtm_1 118 (by decide +kernel) (by decide +kernel))
theorem fl_X5_50 : Cond.fieldLink RX5 50 "CrateTour$Crate" "goal" "I" ∈ WT := (wtm_1 119 (by decide +kernel) (by decide +kernel))
theorem fl_X8_45 : Cond.fieldLink RX8 45 "CrateTour$Crate" "goal" "I" ∈ WT := (wtm_1 120 (by decide +kernel) (by decide +kernel))
theorem fl_X6_116 : Cond.fieldLink RX6 116 "CrateTour$Crate" "goal" "I" ∈ WT := (wtm_1 121 (by decide +kernel) (by decide +kernel))
theorem fl_X4_142 : Cond.fieldLink RX4 142 "CrateTour$Crate" "goal" "I" ∈ WT := (wtm_1 122 (by decide +kernel) (by decide +kernel))
theorem fl_X1_125 : Cond.fieldLink RX1 125 "CrateTour$Crate" "goal" "I" ∈ WT := (wtm_1 123 (by decide +kernel) (by decide +kernel))
theorem fl_X3_28 : Cond.fieldLink RX3 28 "CrateTour$Crate" "arrival" "I" ∈ WT := (wtm_1 124 (by decide +kernel) (by decide +kernel))
theorem fl_X5_55 : Cond.fieldLink RX5 55 "CrateTour$Crate" "arrival" "I" ∈ WT := (wtm_1 125 (by decide +kernel) (by decide +kernel))
theorem fl_X8_48 : Cond.fieldLink RX8 48 "CrateTour$Crate" "arrival" "I" ∈ WT := (wtm_1 126 (by decide +kernel) (by decide +kernel))
theorem fl_X4_139 : Cond.fieldLink RX4 139 "CrateTour$Crate" "arrival" "I" ∈ WT := (wtm_1 127 (by decide +kernel) (by decide +kernel))
theorem fl_X3_31 : Cond.fieldLink RX3 31 "CrateTour$Crate" "companion" "I" ∈ WT := (wtm_1 128 (by decide +kernel) (by decide +kernel))
theorem fl_X4_145 : Cond.fieldLink RX4 145 "CrateTour$Crate" "companion" "I" ∈ WT := (wtm_1 129 (by decide +kernel) (by decide +kernel))
theorem fl_X3_34 : Cond.fieldLink RX3 34 "CrateTour$Crate" "temperature" "I" ∈ WT := (wtm_1 130 (by decide +kernel) (by decide +kernel))
theorem fl_X8_170 : Cond.fieldLink RX8 170 "CrateTour$Crate" "temperature" "I" ∈ WT := (wtm_1 131 (by decide +kernel) (by decide +kernel))
theorem fl_X4_123 : Cond.fieldLink RX4 123 "CrateTour$Crate" "temperature" "I" ∈ WT := (wtm_1 132 (by decide +kernel) (by decide +kernel))
theorem fl_X3_37 : Cond.fieldLink RX3 37 "CrateTour$Crate" "humidity" "I" ∈ WT := (wtm_1 133 (by decide +kernel) (by decide +kernel))
theorem fl_X8_171 : Cond.fieldLink RX8 171 "CrateTour$Crate" "humidity" "I" ∈ WT := (wtm_1 134 (by decide +kernel) (by decide +kernel))
theorem fl_X4_124 : Cond.fieldLink RX4 124 "CrateTour$Crate" "humidity" "I" ∈ WT := (wtm_1 135 (by decide +kernel) (by decide +kernel))
theorem fl_X3_40 : Cond.fieldLink RX3 40 "CrateTour$Crate" "waitsSince" "I" ∈ WT := (wtm_1 136 (by decide +kernel) (by decide +kernel))
theorem fl_X8_58 : Cond.fieldLink RX8 58 "CrateTour$Crate" "waitsSince" "I" ∈ WT := (wtm_1 137 (by decide +kernel) (by decide +kernel))
theorem fl_X5_105 : Cond.fieldLink RX5 105 "CrateTour$Crate" "waitsSince" "I" ∈ WT := (wtm_1 138 (by decide +kernel) (by decide +kernel))
theorem fl_X4_109 : Cond.fieldLink RX4 109 "CrateTour$Crate" "waitsSince" "I" ∈ WT := (wtm_1 139 (by decide +kernel) (by decide +kernel))
theorem fl_X1_193 : Cond.fieldLink RX1 193 "CrateTour$Crate" "waitsSince" "I" ∈ WT := (wtm_1 140 (by decide +kernel) (by decide +kernel))
theorem fl_X11_15 : Cond.fieldLink RX11 15 "CrateTour$Work" "lender" "I" ∈ WT := (wtm_1 167 (by decide +kernel) (by decide +kernel))
theorem fl_X8_81 : Cond.fieldLink RX8 81 "CrateTour$Work" "lender" "I" ∈ WT := (wtm_1 168 (by decide +kernel) (by decide +kernel))
theorem fl_X4_83 : Cond.fieldLink RX4 83 "CrateTour$Work" "lender" "I" ∈ WT := (wtm_1 169 (by decide +kernel) (by decide +kernel))
theorem fl_X1_142 : Cond.fieldLink RX1 142 "CrateTour$Work" "lender" "I" ∈ WT := (wtm_1 170 (by decide +kernel) (by decide +kernel))
theorem fl_X11_19 : Cond.fieldLink RX11 19 "CrateTour$Work" "value" "I" ∈ WT := (wtm_1 171 (by decide +kernel) (by decide +kernel))
theorem fl_X8_86 : Cond.fieldLink RX8 86 "CrateTour$Work" "value" "I" ∈ WT := (wtm_1 172 (by decide +kernel) (by decide +kernel))
theorem fl_X4_88 : Cond.fieldLink RX4 88 "CrateTour$Work" "value" "I" ∈ WT := (wtm_1 173 (by decide +kernel) (by decide +kernel))
theorem fl_X6_123 : Cond.fieldLink RX6 123 "CrateTour$Work" "value" "I" ∈ WT := (wtm_1 174 (by decide +kernel) (by decide +kernel))
theorem fl_X11_22 : Cond.fieldLink RX11 22 "CrateTour$Work" "legs" "I" ∈ WT := (wtm_1 175 (by decide +kernel) (by decide +kernel))
theorem fl_X8_89 : Cond.fieldLink RX8 89 "CrateTour$Work" "legs" "I" ∈ WT := (wtm_1 176 (by decide +kernel) (by decide +kernel))
theorem fl_X4_91 : Cond.fieldLink RX4 91 "CrateTour$Work" "legs" "I" ∈ WT := (wtm_1 177 (by decide +kernel) (by decide +kernel))
theorem fl_X1_135 : Cond.fieldLink RX1 135 "CrateTour$Work" "legs" "I" ∈ WT := (wtm_1 178 (by decide +kernel) (by decide +kernel))
theorem fl_X11_25 : Cond.fieldLink RX11 25 "CrateTour$Work" "escorted" "Z" ∈ WT := (wtm_1 179 (by decide +kernel) (by decide +kernel))
theorem fl_X8_92 : Cond.fieldLink RX8 92 "CrateTour$Work" "escorted" "Z" ∈ WT := (wtm_1 180 (by decide +kernel) (by decide +kernel))
theorem fl_X4_94 : Cond.fieldLink RX4 94 "CrateTour$Work" "escorted" "Z" ∈ WT := (wtm_1 181 (by decide +kernel) (by decide +kernel))
theorem fl_X1_181 : Cond.fieldLink RX1 181 "CrateTour$Work" "escorted" "Z" ∈ WT := (wtm_1 182 (by decide +kernel) (by decide +kernel))
theorem fl_X5_29 : Cond.fieldLink RX5 29 "CrateTour$Work" "crate" "I" ∈ WT := (wtm_1 183 (by decide +kernel) (by decide +kernel))
theorem fl_X11_29 : Cond.fieldLink RX11 29 "CrateTour$Work" "crate" "I" ∈ WT := (wtm_1 184 (by decide +kernel) (by decide +kernel))
theorem fl_X8_95 : Cond.fieldLink RX8 95 "CrateTour$Work" "crate" "I" ∈ WT := (wtm_1 185 (by decide +kernel) (by decide +kernel))
theorem fl_X4_97 : Cond.fieldLink RX4 97 "CrateTour$Work" "crate" "I" ∈ WT := (wtm_1 186 (by decide +kernel) (by decide +kernel))
theorem fl_X6_112 : Cond.fieldLink RX6 112 "CrateTour$Work" "crate" "I" ∈ WT := (wtm_1 187 (by decide +kernel) (by decide +kernel))
theorem fl_X1_86 : Cond.fieldLink RX1 86 "CrateTour$Work" "crate" "I" ∈ WT := (wtm_1 188 (by decide +kernel) (by decide +kernel))
theorem fl_X11_32 : Cond.fieldLink RX11 32 "CrateTour$Work" "venue" "I" ∈ WT := (wtm_1 189 (by decide +kernel) (by decide +kernel))
theorem fl_X4_100 : Cond.fieldLink RX4 100 "CrateTour$Work" "venue" "I" ∈ WT := (wtm_1 190 (by decide +kernel) (by decide +kernel))
theorem fl_X6_115 : Cond.fieldLink RX6 115 "CrateTour$Work" "venue" "I" ∈ WT := (wtm_1 191 (by decide +kernel) (by decide +kernel))
theorem fl_X1_95 : Cond.fieldLink RX1 95 "CrateTour$Work" "venue" "I" ∈ WT := (wtm_1 192 (by decide +kernel) (by decide +kernel))
theorem fl_X11_35 : Cond.fieldLink RX11 35 "CrateTour$Work" "paid" "I" ∈ WT := (wtm_1 193 (by decide +kernel) (by decide +kernel))
theorem fl_X8_104 : Cond.fieldLink RX8 104 "CrateTour$Work" "paid" "I" ∈ WT := (wtm_1 194 (by decide +kernel) (by decide +kernel))
theorem fl_X4_179 : Cond.fieldLink RX4 179 "CrateTour$Work" "paid" "I" ∈ WT := (wtm_1 195 (by decide +kernel) (by decide +kernel))
theorem fl_X11_38 : Cond.fieldLink RX11 38 "CrateTour$Work" "placesKept" "I" ∈ WT := (wtm_1 196 (by decide +kernel) (by decide +kernel))
theorem fl_X11_9 : Cond.fieldLink RX11 9 "CrateTour$Work" "places" "[I" ∈ WT := (wtm_1 197 (by decide +kernel) (by decide +kernel))
theorem fl_X6_45 : Cond.fieldLink RX6 45 "CrateTour$State" "time" "I" ∈ WT := (wtm_1 217 (by decide +kernel) (by decide +kernel))
theorem fl_X5_39 : Cond.fieldLink RX5 39 "CrateTour$State" "time" "I" ∈ WT := (wtm_1 218 (by decide +kernel) (by decide +kernel))
theorem fl_X8_138 : Cond.fieldLink RX8 138 "CrateTour$State" "time" "I" ∈ WT := (wtm_1 219 (by decide +kernel) (by decide +kernel))
theorem fl_X4_106 : Cond.fieldLink RX4 106 "CrateTour$State" "time" "I" ∈ WT := (wtm_1 220 (by decide +kernel) (by decide +kernel))
theorem fl_X1_190 : Cond.fieldLink RX1 190 "CrateTour$State" "time" "I" ∈ WT := (wtm_1 221 (by decide +kernel) (by decide +kernel))
theorem fl_X6_9 : Cond.fieldLink RX6 9 "CrateTour$State" "wayRate" "I" ∈ WT := (wtm_1 222 (by decide +kernel) (by decide +kernel))
theorem fl_X4_47 : Cond.fieldLink RX4 47 "CrateTour$State" "wayRate" "I" ∈ WT := (wtm_1 223 (by decide +kernel) (by decide +kernel))
theorem fl_X6_48 : Cond.fieldLink RX6 48 "CrateTour$State" "paid" "I" ∈ WT := (wtm_1 224 (by decide +kernel) (by decide +kernel))
theorem fl_X8_153 : Cond.fieldLink RX8 153 "CrateTour$State" "paid" "I" ∈ WT := (wtm_1 225 (by decide +kernel) (by decide +kernel))
theorem fl_X4_180 : Cond.fieldLink RX4 180 "CrateTour$State" "paid" "I" ∈ WT := (wtm_1 226 (by decide +kernel) (by decide +kernel))
theorem fl_X6_51 : Cond.fieldLink RX6 51 "CrateTour$State" "paidForWays" "I" ∈ WT := (wtm_1 227 (by decide +kernel) (by decide +kernel))
theorem fl_X8_154 : Cond.fieldLink RX8 154 "CrateTour$State" "paidForWays" "I" ∈ WT := (wtm_1 228 (by decide +kernel) (by decide +kernel))
theorem fl_X4_176 : Cond.fieldLink RX4 176 "CrateTour$State" "paidForWays" "I" ∈ WT := (wtm_1 229 (by decide +kernel) (by decide +kernel))
theorem fl_X6_54 : Cond.fieldLink RX6 54 "CrateTour$State" "arrived" "I" ∈ WT := (wtm_1 230 (by decide +kernel) (by decide +kernel))
theorem fl_X8_157 : Cond.fieldLink RX8 157 "CrateTour$State" "arrived" "I" ∈ WT := (wtm_1 231 (by decide +kernel) (by decide +kernel))
theorem fl_X4_151 : Cond.fieldLink RX4 151 "CrateTour$State" "arrived" "I" ∈ WT := (wtm_1 232 (by decide +kernel) (by decide +kernel))
theorem fl_X4_15 : Cond.fieldLink RX4 15 "CrateTour$State" "venueCount" "I" ∈ WT := (wtm_1 233 (by decide +kernel) (by decide +kernel))
theorem fl_X6_57 : Cond.fieldLink RX6 57 "CrateTour$State" "venueCount" "I" ∈ WT := (wtm_1 234 (by decide +kernel) (by decide +kernel))
theorem fl_X1_24 : Cond.fieldLink RX1 24 "CrateTour$State" "venueCount" "I" ∈ WT := (wtm_1 235 (by decide +kernel) (by decide +kernel))
theorem fl_X5_81 : Cond.fieldLink RX5 81 "CrateTour$State" "venueCount" "I" ∈ WT := (wtm_1 236 (by decide +kernel) (by decide +kernel))
theorem fl_X8_141 : Cond.fieldLink RX8 141 "CrateTour$State" "venueCount" "I" ∈ WT := (wtm_1 237 (by decide +kernel) (by decide +kernel))
theorem fl_X12_301 : Cond.fieldLink RX12 301 "CrateTour$State" "venueCount" "I" ∈ WT := (wtm_1 238 (by decide +kernel) (by decide +kernel))
theorem fl_X6_60 : Cond.fieldLink RX6 60 "CrateTour$State" "crateCount" "I" ∈ WT := (wtm_1 239 (by decide +kernel) (by decide +kernel))
theorem fl_X8_144 : Cond.fieldLink RX8 144 "CrateTour$State" "crateCount" "I" ∈ WT := (wtm_2 0 (by decide +kernel) (by decide +kernel))
theorem fl_X4_56 : Cond.fieldLink RX4 56 "CrateTour$State" "crateCount" "I" ∈ WT := (wtm_2 1 (by decide +kernel) (by decide +kernel))
theorem fl_X1_44 : Cond.fieldLink RX1 44 "CrateTour$State" "crateCount" "I" ∈ WT := (wtm_2 2 (by decide +kernel) (by decide +kernel))
theorem fl_X12_304 : Cond.fieldLink RX12 304 "CrateTour$State" "crateCount" "I" ∈ WT := (wtm_2 3 (by decide +kernel) (by decide +kernel))
theorem fl_X6_63 : Cond.fieldLink RX6 63 "CrateTour$State" "workCount" "I" ∈ WT := (wtm_2 4 (by decide +kernel) (by decide +kernel))
theorem fl_X5_65 : Cond.fieldLink RX5 65 "CrateTour$State" "workCount" "I" ∈ WT := (wtm_2 5 (by decide +kernel) (by decide +kernel))
theorem fl_X8_147 : Cond.fieldLink RX8 147 "CrateTour$State" "workCount" "I" ∈ WT := (wtm_2 6 (by decide +kernel) (by decide +kernel))
theorem fl_X4_76 : Cond.fieldLink RX4 76 "CrateTour$State" "workCount" "I" ∈ WT := (wtm_2 7 (by decide +kernel) (by decide +kernel))
theorem fl_X1_48 : Cond.fieldLink RX1 48 "CrateTour$State" "workCount" "I" ∈ WT := (wtm_2 8 (by decide +kernel) (by decide +kernel))
theorem fl_X12_307 : Cond.fieldLink RX12 307 "CrateTour$State" "workCount" "I" ∈ WT := (wtm_2 9 (by decide +kernel) (by decide +kernel))
theorem fl_X6_66 : Cond.fieldLink RX6 66 "CrateTour$State" "courierCount" "I" ∈ WT := (wtm_2 10 (by decide +kernel) (by decide +kernel))
theorem fl_X8_150 : Cond.fieldLink RX8 150 "CrateTour$State" "courierCount" "I" ∈ WT := (wtm_2 11 (by decide +kernel) (by decide +kernel))
theorem fl_X4_50 : Cond.fieldLink RX4 50 "CrateTour$State" "courierCount" "I" ∈ WT := (wtm_2 12 (by decide +kernel) (by decide +kernel))
theorem fl_X1_41 : Cond.fieldLink RX1 41 "CrateTour$State" "courierCount" "I" ∈ WT := (wtm_2 13 (by decide +kernel) (by decide +kernel))
theorem fl_X12_298 : Cond.fieldLink RX12 298 "CrateTour$State" "courierCount" "I" ∈ WT := (wtm_2 14 (by decide +kernel) (by decide +kernel))
theorem fl_X6_17 : Cond.fieldLink RX6 17 "CrateTour$State" "venues" "[LCrateTour$Venue;" ∈ WT := (wtm_2 15 (by decide +kernel) (by decide +kernel))
theorem fl_X4_21 : Cond.fieldLink RX4 21 "CrateTour$State" "venues" "[LCrateTour$Venue;" ∈ WT := (wtm_2 16 (by decide +kernel) (by decide +kernel))
theorem fl_X8_107 : Cond.fieldLink RX8 107 "CrateTour$State" "venues" "[LCrateTour$Venue;" ∈ WT := (wtm_2 17 (by decide +kernel) (by decide +kernel))
theorem fl_X5_108 : Cond.fieldLink RX5 108 "CrateTour$State" "venues" "[LCrateTour$Venue;" ∈ WT := (wtm_2 18 (by decide +kernel) (by decide +kernel))
theorem fl_X1_149 : Cond.fieldLink RX1 149 "CrateTour$State" "venues" "[LCrateTour$Venue;" ∈ WT := (wtm_2 19 (by decide +kernel) (by decide +kernel))
theorem fl_X6_23 : Cond.fieldLink RX6 23 "CrateTour$State" "crates" "[LCrateTour$Crate;" ∈ WT := (wtm_2 20 (by decide +kernel) (by decide +kernel))
theorem fl_X8_15 : Cond.fieldLink RX8 15 "CrateTour$State" "crates" "[LCrateTour$Crate;" ∈ WT := (wtm_2 21 (by decide +kernel) (by decide +kernel))
theorem fl_X5_42 : Cond.fieldLink RX5 42 "CrateTour$State" "crates" "[LCrateTour$Crate;" ∈ WT := (wtm_2 22 (by decide +kernel) (by decide +kernel))
theorem fl_X4_59 : Cond.fieldLink RX4 59 "CrateTour$State" "crates" "[LCrateTour$Crate;" ∈ WT := (wtm_2 23 (by decide +kernel) (by decide +kernel))
theorem fl_X1_57 : Cond.fieldLink RX1 57 "CrateTour$State" "crates" "[LCrateTour$Crate;" ∈ WT := (wtm_2 24 (by decide +kernel) (by decide +kernel))
theorem fl_X6_29 : Cond.fieldLink RX6 29 "CrateTour$State" "works" "[LCrateTour$Work;" ∈ WT := (wtm_2 25 (by decide +kernel) (by decide +kernel))
theorem fl_X5_23 : Cond.fieldLink RX5 23 "CrateTour$State" "works" "[LCrateTour$Work;" ∈ WT := (wtm_2 26 (by decide +kernel) (by decide +kernel))
theorem fl_X8_77 : Cond.fieldLink RX8 77 "CrateTour$State" "works" "[LCrateTour$Work;" ∈ WT := (wtm_2 27 (by decide +kernel) (by decide +kernel))
theorem fl_X4_79 : Cond.fieldLink RX4 79 "CrateTour$State" "works" "[LCrateTour$Work;" ∈ WT := (wtm_2 28 (by decide +kernel) (by decide +kernel))
theorem fl_X1_82 : Cond.fieldLink RX1 82 "CrateTour$State" "works" "[LCrateTour$Work;" ∈ WT := (wtm_2 29 (by decide +kernel) (by decide +kernel))
theorem fl_X12_196 : Cond.fieldLink RX12 196 "CrateTour$State" "works" "[LCrateTour$Work;" ∈ WT := (wtm_2 30 (by decide +kernel) (by decide +kernel))
theorem fl_X6_33 : Cond.fieldLink RX6 33 "CrateTour$State" "couriers" "[I" ∈ WT := (wtm_2 31 (by decide +kernel) (by decide +kernel))
theorem fl_X4_53 : Cond.fieldLink RX4 53 "CrateTour$State" "couriers" "[I" ∈ WT := (wtm_2 32 (by decide +kernel) (by decide +kernel))
theorem fl_X8_176 : Cond.fieldLink RX8 176 "CrateTour$State" "couriers" "[I" ∈ WT := (wtm_2 33 (by decide +kernel) (by decide +kernel))
theorem fl_X12_218 : Cond.fieldLink RX12 218 "CrateTour$State" "couriers" "[I" ∈ WT := (wtm_2 34 (by decide +kernel) (by decide +kernel))
theorem fl_X1_177 : Cond.fieldLink RX1 177 "CrateTour$State" "couriers" "[I" ∈ WT := (wtm_2 35 (by decide +kernel) (by decide +kernel))
theorem fl_X6_39 : Cond.fieldLink RX6 39 "CrateTour$State" "lenders" "[[I" ∈ WT := (wtm_2 36 (by decide +kernel) (by decide +kernel))
theorem fl_X4_43 : Cond.fieldLink RX4 43 "CrateTour$State" "lenders" "[[I" ∈ WT := (wtm_2 37 (by decide +kernel) (by decide +kernel))
theorem fl_X1_138 : Cond.fieldLink RX1 138 "CrateTour$State" "lenders" "[[I" ∈ WT := (wtm_2 38 (by decide +kernel) (by decide +kernel))
theorem fl_X1_9 : Cond.fieldLink RX1 9 "CrateTour$Checks" "state" "LCrateTour$State;" ∈ WT := (wtm_2 74 (by decide +kernel) (by decide +kernel))
theorem fl_X4_9 : Cond.fieldLink RX4 9 "CrateTour$Deeds" "state" "LCrateTour$State;" ∈ WT := (wtm_2 84 (by decide +kernel) (by decide +kernel))
theorem fl_X8_9 : Cond.fieldLink RX8 9 "CrateTour$Values" "state" "LCrateTour$State;" ∈ WT := (wtm_2 94 (by decide +kernel) (by decide +kernel))
theorem fl_X5_15 : Cond.fieldLink RX5 15 "CrateTour$Forecast" "state" "LCrateTour$State;" ∈ WT := (wtm_2 104 (by decide +kernel) (by decide +kernel))
theorem fl_X5_19 : Cond.fieldLink RX5 19 "CrateTour$Forecast" "checks" "LCrateTour$Checks;" ∈ WT := (wtm_2 105 (by decide +kernel) (by decide +kernel))
theorem fl_X5_9 : Cond.fieldLink RX5 9 "CrateTour$Forecast" "around" "[I" ∈ WT := (wtm_2 106 (by decide +kernel) (by decide +kernel))
theorem fl_X7_11 : Cond.fieldLink RX7 11 "CrateTour$UndoStack" "states" "[LCrateTour$State;" ∈ WT := (wtm_2 123 (by decide +kernel) (by decide +kernel))
theorem fl_X7_18 : Cond.fieldLink RX7 18 "CrateTour$UndoStack" "count" "I" ∈ WT := (wtm_2 124 (by decide +kernel) (by decide +kernel))
theorem fl_X12_275 : Cond.fieldLink RX12 275 "CrateTour$UndoStack" "count" "I" ∈ WT := (wtm_2 125 (by decide +kernel) (by decide +kernel))
theorem fl_X2_19 : Cond.fieldLink RX2 19 "CrateTour$Word" "OPEN" "LCrateTour$Word;" ∈ WT := (wtm_2 137 (by decide +kernel) (by decide +kernel))
theorem fl_X2_9 : Cond.fieldLink RX2 9 "CrateTour$CommandText" "bytes" "[B" ∈ WT := (wtm_2 139 (by decide +kernel) (by decide +kernel))
theorem fl_X2_32 : Cond.fieldLink RX2 32 "CrateTour$CommandText" "length" "I" ∈ WT := (wtm_2 140 (by decide +kernel) (by decide +kernel))
theorem fl_X12_237 : Cond.fieldLink RX12 237 "CrateTour$CommandText" "length" "I" ∈ WT := (wtm_2 141 (by decide +kernel) (by decide +kernel))
theorem fl_X2_42 : Cond.fieldLink RX2 42 "CrateTour$CommandText" "position" "I" ∈ WT := (wtm_2 142 (by decide +kernel) (by decide +kernel))
theorem fl_X2_15 : Cond.fieldLink RX2 15 "CrateTour$CommandText" "fault" "I" ∈ WT := (wtm_2 143 (by decide +kernel) (by decide +kernel))
theorem fl_X2_25 : Cond.fieldLink RX2 25 "CrateTour$CommandText" "word" "LCrateTour$Word;" ∈ WT := (wtm_2 144 (by decide +kernel) (by decide +kernel))
theorem fl_X12_261 : Cond.fieldLink RX12 261 "CrateTour$CommandText" "word" "LCrateTour$Word;" ∈ WT := (wtm_2 145 (by decide +kernel) (by decide +kernel))
theorem fl_X2_28 : Cond.fieldLink RX2 28 "CrateTour$CommandText" "numbers" "[I" ∈ WT := (wtm_2 146 (by decide +kernel) (by decide +kernel))
theorem fl_X12_265 : Cond.fieldLink RX12 265 "CrateTour$CommandText" "numbers" "[I" ∈ WT := (wtm_2 147 (by decide +kernel) (by decide +kernel))
theorem fl_X12_10 : Cond.fieldLink RX12 10 "CrateTour" "state" "LCrateTour$State;" ∈ WT := (wtm_2 162 (by decide +kernel) (by decide +kernel))
theorem fl_X12_21 : Cond.fieldLink RX12 21 "CrateTour" "checks" "LCrateTour$Checks;" ∈ WT := (wtm_2 163 (by decide +kernel) (by decide +kernel))
theorem fl_X12_28 : Cond.fieldLink RX12 28 "CrateTour" "deeds" "LCrateTour$Deeds;" ∈ WT := (wtm_2 164 (by decide +kernel) (by decide +kernel))
theorem fl_X12_35 : Cond.fieldLink RX12 35 "CrateTour" "values" "LCrateTour$Values;" ∈ WT := (wtm_2 165 (by decide +kernel) (by decide +kernel))
theorem fl_X12_44 : Cond.fieldLink RX12 44 "CrateTour" "forecast" "LCrateTour$Forecast;" ∈ WT := (wtm_2 166 (by decide +kernel) (by decide +kernel))
theorem fl_X12_51 : Cond.fieldLink RX12 51 "CrateTour" "saved" "LCrateTour$UndoStack;" ∈ WT := (wtm_2 167 (by decide +kernel) (by decide +kernel))
theorem fl_X12_58 : Cond.fieldLink RX12 58 "CrateTour" "commands" "LCrateTour$CommandText;" ∈ WT := (wtm_2 168 (by decide +kernel) (by decide +kernel))
theorem fl_J0_38 : Cond.fieldLink RJ0 38 "java/lang/String" "COMPACT_STRINGS" "Z" ∈ WT := (wtm_2 230 (by decide +kernel) (by decide +kernel))
theorem fl_J0_1053 : Cond.fieldLink RJ0 1053 "jdk/internal/util/Preconditions" "SIOOBE_FORMATTER" "Ljava/util/function/BiFunction;" ∈ WT := (wtm_3 6 (by decide +kernel) (by decide +kernel))
theorem fl_J2_44 : Cond.fieldLink RJ2 44 "java/lang/StringUTF16" "$assertionsDisabled" "Z" ∈ WT := (wtm_3 24 (by decide +kernel) (by decide +kernel))
theorem fl_J2_59 : Cond.fieldLink RJ2 59 "java/lang/StringUTF16" "HI_BYTE_SHIFT" "I" ∈ WT := (wtm_3 26 (by decide +kernel) (by decide +kernel))
theorem fl_J2_63 : Cond.fieldLink RJ2 63 "java/lang/StringUTF16" "LO_BYTE_SHIFT" "I" ∈ WT := (wtm_3 28 (by decide +kernel) (by decide +kernel))
theorem fl_X12_329 : Cond.fieldLink RX12 329 "CrateTour$1" "$SwitchMap$CrateTour$Word" "[I" ∈ WT := (wtm_3 85 (by decide +kernel) (by decide +kernel))
theorem fl_X13_7 : Cond.fieldLink RX13 7 "CrateTourModel" "m" "[I" ∈ WT := (wtm_6 145 (by decide +kernel) (by decide +kernel))
theorem fl_X13_13 : Cond.fieldLink RX13 13 "CrateTourModel" "saved" "[I" ∈ WT := (wtm_6 146 (by decide +kernel) (by decide +kernel))
theorem fl_X13_29 : Cond.fieldLink RX13 29 "CrateTourModel" "savedCount" "I" ∈ WT := (wtm_6 147 (by decide +kernel) (by decide +kernel))
theorem fl_X13_16 : Cond.fieldLink RX13 16 "CrateTourModel" "text" "[I" ∈ WT := (wtm_6 148 (by decide +kernel) (by decide +kernel))
theorem fl_X13_252 : Cond.fieldLink RX13 252 "CrateTourModel" "textLength" "I" ∈ WT := (wtm_6 149 (by decide +kernel) (by decide +kernel))
theorem fl_X13_25 : Cond.fieldLink RX13 25 "CrateTourModel" "code" "I" ∈ WT := (wtm_6 150 (by decide +kernel) (by decide +kernel))
theorem fl_X13_19 : Cond.fieldLink RX13 19 "CrateTourModel" "row" "[I" ∈ WT := (wtm_6 151 (by decide +kernel) (by decide +kernel))
theorem fl_X13_255 : Cond.fieldLink RX13 255 "CrateTourModel" "place" "I" ∈ WT := (wtm_6 152 (by decide +kernel) (by decide +kernel))
theorem fl_X13_289 : Cond.fieldLink RX13 289 "CrateTourModel" "command" "I" ∈ WT := (wtm_6 153 (by decide +kernel) (by decide +kernel))
theorem fl_X13_22 : Cond.fieldLink RX13 22 "CrateTourModel" "numbers" "[I" ∈ WT := (wtm_6 154 (by decide +kernel) (by decide +kernel))
theorem fl_X13_319 : Cond.fieldLink RX13 319 "CrateTourModel" "hash" "J" ∈ WT := (wtm_6 155 (by decide +kernel) (by decide +kernel))
theorem fl_X2_61 : Cond.fieldLink RX2 61 "CrateTour$Word" "letters" "Ljava/lang/String;" ∈ WT := (wtm_8 159 (by decide +kernel) (by decide +kernel))
theorem fl_J0_9 : Cond.fieldLink RJ0 9 "java/lang/String" "value" "[B" ∈ WT := (wtm_8 160 (by decide +kernel) (by decide +kernel))
theorem fl_J0_15 : Cond.fieldLink RJ0 15 "java/lang/String" "coder" "B" ∈ WT := (wtm_8 161 (by decide +kernel) (by decide +kernel))
theorem fl_X2_82 : Cond.fieldLink RX2 82 "CrateTour$Word" "numberCount" "I" ∈ WT := (wtm_8 162 (by decide +kernel) (by decide +kernel))
theorem cl_L_8 : Cond.classLink RL 8 "CrateTour" ∈ WT := (wtm_1 28 (by decide +kernel) (by decide +kernel))
theorem cl_X12_7 : Cond.classLink RX12 7 "CrateTour$State" ∈ WT := (wtm_1 36 (by decide +kernel) (by decide +kernel))
theorem cl_X6_15 : Cond.classLink RX6 15 "CrateTour$Venue" ∈ WT := (wtm_1 42 (by decide +kernel) (by decide +kernel))
theorem cl_X6_21 : Cond.classLink RX6 21 "CrateTour$Crate" ∈ WT := (wtm_1 44 (by decide +kernel) (by decide +kernel))
theorem cl_X6_27 : Cond.classLink RX6 27 "CrateTour$Work" ∈ WT := (wtm_1 46 (by decide +kernel) (by decide +kernel))
theorem cl_X6_37 : Cond.classLink RX6 37 "[[I" ∈ WT := (wtm_1 48 (by decide +kernel) (by decide +kernel))
theorem cl_X12_16 : Cond.classLink RX12 16 "CrateTour$Checks" ∈ WT := (wtm_2 68 (by decide +kernel) (by decide +kernel))
theorem cl_X12_25 : Cond.classLink RX12 25 "CrateTour$Deeds" ∈ WT := (wtm_2 78 (by decide +kernel) (by decide +kernel))
theorem cl_X12_32 : Cond.classLink RX12 32 "CrateTour$Values" ∈ WT := (wtm_2 88 (by decide +kernel) (by decide +kernel))
theorem cl_X12_39 : Cond.classLink RX12 39 "CrateTour$Forecast" ∈ WT := (wtm_2 98 (by decide +kernel) (by decide +kernel))
theorem cl_X12_48 : Cond.classLink RX12 48 "CrateTour$UndoStack" ∈ WT := (wtm_2 114 (by decide +kernel) (by decide +kernel))
theorem cl_X7_9 : Cond.classLink RX7 9 "CrateTour$State" ∈ WT := (wtm_2 120 (by decide +kernel) (by decide +kernel))
theorem cl_X12_55 : Cond.classLink RX12 55 "CrateTour$CommandText" ∈ WT := (wtm_2 131 (by decide +kernel) (by decide +kernel))
theorem cl_L_13 : Cond.classLink RL 13 "java/lang/IllegalArgumentException" ∈ WT := (wtm_4 211 (by decide +kernel) (by decide +kernel))
theorem cl_L_15 : Cond.classLink RL 15 "java/lang/IllegalStateException" ∈ WT := (wtm_4 212 (by decide +kernel) (by decide +kernel))
theorem cl_X12_312 : Cond.classLink RX12 312 "java/lang/IndexOutOfBoundsException" ∈ WT := (wtm_4 228 (by decide +kernel) (by decide +kernel))
theorem cl_X12_319 : Cond.classLink RX12 319 "java/lang/IllegalArgumentException" ∈ WT := (wtm_5 55 (by decide +kernel) (by decide +kernel))
theorem cl_X12_324 : Cond.classLink RX12 324 "java/lang/IllegalStateException" ∈ WT := (wtm_5 71 (by decide +kernel) (by decide +kernel))
theorem cl_L_21 : Cond.classLink RL 21 "java/lang/IndexOutOfBoundsException" ∈ WT := (wtm_5 94 (by decide +kernel) (by decide +kernel))
theorem cl_L_106 : Cond.classLink RL 106 "CrateTourModel" ∈ WT := (wtm_6 139 (by decide +kernel) (by decide +kernel))
theorem cn_X1_23 : Cond.constant RX1 23 (10000000 : Int32) ∈ WT := (wtm_4 224 (by decide +kernel) (by decide +kernel))
theorem cn_X1_47 : Cond.constant RX1 47 (1000000 : Int32) ∈ WT := (wtm_5 196 (by decide +kernel) (by decide +kernel))
theorem cn_X13_61 : Cond.constant RX13 61 (10000000 : Int32) ∈ WT := (wtm_6 193 (by decide +kernel) (by decide +kernel))
theorem cn_X13_78 : Cond.constant RX13 78 (1000000 : Int32) ∈ WT := (wtm_7 1 (by decide +kernel) (by decide +kernel))
theorem cn_X4_181 : Cond.constantLong RX4 181 (10000 : Int64) ∈ WT := (wtm_4 85 (by decide +kernel) (by decide +kernel))
theorem cn_X12_282 : Cond.constantLong RX12 282 (43003 : Int64) ∈ WT := (wtm_4 97 (by decide +kernel) (by decide +kernel))
theorem cn_X12_310 : Cond.constantLong RX12 310 (31 : Int64) ∈ WT := (wtm_4 101 (by decide +kernel) (by decide +kernel))
theorem cn_X13_180 : Cond.constantLong RX13 180 (10000 : Int64) ∈ WT := (wtm_7 208 (by decide +kernel) (by decide +kernel))
theorem cn_X13_279 : Cond.constantLong RX13 279 (27 : Int64) ∈ WT := (wtm_8 108 (by decide +kernel) (by decide +kernel))
theorem cn_X13_281 : Cond.constantLong RX13 281 (96 : Int64) ∈ WT := (wtm_8 109 (by decide +kernel) (by decide +kernel))
theorem cn_X13_283 : Cond.constantLong RX13 283 (-1 : Int64) ∈ WT := (wtm_8 110 (by decide +kernel) (by decide +kernel))
theorem cn_X13_261 : Cond.constantLong RX13 261 (307058 : Int64) ∈ WT := (wtm_8 114 (by decide +kernel) (by decide +kernel))
theorem cn_X13_263 : Cond.constantLong RX13 263 (1841972 : Int64) ∈ WT := (wtm_8 115 (by decide +kernel) (by decide +kernel))
theorem cn_X13_265 : Cond.constantLong RX13 265 (279740 : Int64) ∈ WT := (wtm_8 116 (by decide +kernel) (by decide +kernel))
theorem cn_X13_267 : Cond.constantLong RX13 267 (11522 : Int64) ∈ WT := (wtm_8 117 (by decide +kernel) (by decide +kernel))
theorem cn_X13_269 : Cond.constantLong RX13 269 (315749 : Int64) ∈ WT := (wtm_8 118 (by decide +kernel) (by decide +kernel))
theorem cn_X13_271 : Cond.constantLong RX13 271 (309082970 : Int64) ∈ WT := (wtm_8 119 (by decide +kernel) (by decide +kernel))
theorem cn_X13_273 : Cond.constantLong RX13 273 (378004 : Int64) ∈ WT := (wtm_8 120 (by decide +kernel) (by decide +kernel))
theorem cn_X13_275 : Cond.constantLong RX13 275 (81912404 : Int64) ∈ WT := (wtm_8 121 (by decide +kernel) (by decide +kernel))
theorem cn_X13_277 : Cond.constantLong RX13 277 (453701 : Int64) ∈ WT := (wtm_8 122 (by decide +kernel) (by decide +kernel))
theorem cn_X13_327 : Cond.constantLong RX13 327 (43003 : Int64) ∈ WT := (wtm_8 147 (by decide +kernel) (by decide +kernel))
theorem cn_X13_317 : Cond.constantLong RX13 317 (31 : Int64) ∈ WT := (wtm_8 152 (by decide +kernel) (by decide +kernel))
theorem ini_L : Cond.initialized RL ∈ WT := (wtm_1 0 (by decide +kernel) (by decide +kernel))
theorem ini_X12 : Cond.initialized RX12 ∈ WT := (wtm_1 1 (by decide +kernel) (by decide +kernel))
theorem ini_X6 : Cond.initialized RX6 ∈ WT := (wtm_1 2 (by decide +kernel) (by decide +kernel))
theorem ini_X9 : Cond.initialized RX9 ∈ WT := (wtm_1 3 (by decide +kernel) (by decide +kernel))
theorem ini_X3 : Cond.initialized RX3 ∈ WT := (wtm_1 4 (by decide +kernel) (by decide +kernel))
theorem ini_X11 : Cond.initialized RX11 ∈ WT := (wtm_1 5 (by decide +kernel) (by decide +kernel))
theorem ini_X1 : Cond.initialized RX1 ∈ WT := (wtm_1 6 (by decide +kernel) (by decide +kernel))
theorem ini_X4 : Cond.initialized RX4 ∈ WT := (wtm_1 7 (by decide +kernel) (by decide +kernel))
theorem ini_X8 : Cond.initialized RX8 ∈ WT := (wtm_1 8 (by decide +kernel) (by decide +kernel))
theorem ini_X5 : Cond.initialized RX5 ∈ WT := (wtm_1 9 (by decide +kernel) (by decide +kernel))
theorem ini_X7 : Cond.initialized RX7 ∈ WT := (wtm_1 10 (by decide +kernel) (by decide +kernel))
theorem ini_X2 : Cond.initialized RX2 ∈ WT := (wtm_1 11 (by decide +kernel) (by decide +kernel))
theorem ini_X10 : Cond.initialized RX10 ∈ WT := (wtm_1 13 (by decide +kernel) (by decide +kernel))
theorem ini_X13 : Cond.initialized RX13 ∈ WT := (wtm_1 14 (by decide +kernel) (by decide +kernel))
theorem ini_J10 : Cond.initialized RJ10 ∈ WT := (wtm_1 21 (by decide +kernel) (by decide +kernel))
theorem ini_J9 : Cond.initialized RJ9 ∈ WT := (wtm_1 22 (by decide +kernel) (by decide +kernel))
theorem ini_J0 : Cond.initialized RJ0 ∈ WT := (wtm_1 23 (by decide +kernel) (by decide +kernel))
theorem ini_J1 : Cond.initialized RJ1 ∈ WT := (wtm_1 24 (by decide +kernel) (by decide +kernel))
theorem ini_J3 : Cond.initialized RJ3 ∈ WT := (wtm_1 25 (by decide +kernel) (by decide +kernel))
theorem ini_J2 : Cond.initialized RJ2 ∈ WT := (wtm_1 26 (by decide +kernel) (by decide +kernel))
theorem ini_X0 : Cond.initialized RX0 ∈ WT := (wtm_1 27 (by decide +kernel) (by decide +kernel))
theorem ins_X12 : Cond.instantiable RX12 7 ∈ WT := (wtm_1 29 (by decide +kernel) (by decide +kernel))
theorem ins_X6 : Cond.instantiable RX6 14 ∈ WT := (wtm_1 37 (by decide +kernel) (by decide +kernel))
theorem ins_X9 : Cond.instantiable RX9 6 ∈ WT := (wtm_1 50 (by decide +kernel) (by decide +kernel))
theorem ins_X3 : Cond.instantiable RX3 10 ∈ WT := (wtm_1 92 (by decide +kernel) (by decide +kernel))
theorem ins_X11 : Cond.instantiable RX11 9 ∈ WT := (wtm_1 162 (by decide +kernel) (by decide +kernel))
theorem ins_X1 : Cond.instantiable RX1 1 ∈ WT := (wtm_2 69 (by decide +kernel) (by decide +kernel))
theorem ins_X4 : Cond.instantiable RX4 1 ∈ WT := (wtm_2 79 (by decide +kernel) (by decide +kernel))
theorem ins_X8 : Cond.instantiable RX8 1 ∈ WT := (wtm_2 89 (by decide +kernel) (by decide +kernel))
theorem ins_X5 : Cond.instantiable RX5 3 ∈ WT := (wtm_2 99 (by decide +kernel) (by decide +kernel))
theorem ins_X7 : Cond.instantiable RX7 2 ∈ WT := (wtm_2 115 (by decide +kernel) (by decide +kernel))
theorem ins_X2 : Cond.instantiable RX2 6 ∈ WT := (wtm_2 132 (by decide +kernel) (by decide +kernel))
theorem ins_X13 : Cond.instantiable RX13 11 ∈ WT := (wtm_6 140 (by decide +kernel) (by decide +kernel))
theorem arrc_int : Cond.arrayClass FieldType.int ∈ WT := (wtm_1 91 (by decide +kernel) (by decide +kernel))
theorem arrc_byte : Cond.arrayClass FieldType.byte ∈ WT := (wtm_2 161 (by decide +kernel) (by decide +kernel))
theorem arrc_long : Cond.arrayClass FieldType.long ∈ WT := (wtm_8 157 (by decide +kernel) (by decide +kernel))
theorem lk_X1_init : LkI yX1_init cX1_init 2 1 := ⟨⟨(wtm_2 72 (by decide +kernel) (by decide +kernel)), ini_X1, by decide +kernel, by decide +kernel, by decide +kernel⟩, (wtm_2 71 (by decide +kernel) (by decide +kernel)), rfl⟩
theorem lk_X1_isIn : LkS yX1_isIn cX1_isIn 3 (some .boolean) 3 := ⟨⟨(wtm_4 11 (by decide +kernel) (by decide +kernel)), ini_X1, by decide +kernel, by decide +kernel, by decide +kernel⟩, (wtm_4 10 (by decide +kernel) (by decide +kernel))⟩
theorem lk_X1_isClimate : LkS yX1_isClimate cX1_isClimate 2 (some .boolean) 2 := ⟨⟨(wtm_4 223 (by decide +kernel) (by decide +kernel)), ini_X1, by decide +kernel, by decide +kernel, by decide +kernel⟩, (wtm_4 222 (by decide +kernel) (by decide +kernel))⟩
theorem lk_X1_firstWrong : LkS yX1_firstWrong cX1_firstWrong 3 (some .int) 3 := ⟨⟨(wtm_3 132 (by decide +kernel) (by decide +kernel)), ini_X1, by decide +kernel, by decide +kernel, by decide +kernel⟩, (wtm_3 131 (by decide +kernel) (by decide +kernel))⟩
theorem lk_X1_ofNewVenue : LkV yX1_ofNewVenue cX1_ofNewVenue 6 (some .int) 4 := ⟨⟨(wtm_4 220 (by decide +kernel) (by decide +kernel)), ini_X1, by decide +kernel, by decide +kernel, by decide +kernel⟩, (wtm_4 218 (by decide +kernel) (by decide +kernel)), (wtm_4 219 (by decide +kernel) (by decide +kernel))⟩
theorem lk_X6_hasVenue : LkV yX6_hasVenue cX6_hasVenue 2 (some .boolean) 1 := ⟨⟨(wtm_3 113 (by decide +kernel) (by decide +kernel)), ini_X6, by decide +kernel, by decide +kernel, by decide +kernel⟩, (wtm_3 111 (by decide +kernel) (by decide +kernel)), (wtm_3 112 (by decide +kernel) (by decide +kernel))⟩
theorem lk_X1_ofClimate : LkV yX1_ofClimate cX1_ofClimate 4 (some .int) 3 := ⟨⟨(wtm_5 102 (by decide +kernel) (by decide +kernel)), ini_X1, by decide +kernel, by decide +kernel, by decide +kernel⟩, (wtm_5 100 (by decide +kernel) (by decide +kernel)), (wtm_5 101 (by decide +kernel) (by decide +kernel))⟩
theorem lk_X1_ofWay : LkV yX1_ofWay cX1_ofWay 5 (some .int) 3 := ⟨⟨(wtm_5 117 (by decide +kernel) (by decide +kernel)), ini_X1, by decide +kernel, by decide +kernel, by decide +kernel⟩, (wtm_5 115 (by decide +kernel) (by decide +kernel)), (wtm_5 116 (by decide +kernel) (by decide +kernel))⟩
theorem lk_X1_isLenderValue : LkS yX1_isLenderValue cX1_isLenderValue 2 (some .boolean) 2 := ⟨⟨(wtm_5 135 (by decide +kernel) (by decide +kernel)), ini_X1, by decide +kernel, by decide +kernel, by decide +kernel⟩, (wtm_5 134 (by decide +kernel) (by decide +kernel))⟩
theorem lk_X1_ofLenderValue : LkV yX1_ofLenderValue cX1_ofLenderValue 5 (some .int) 3 := ⟨⟨(wtm_5 132 (by decide +kernel) (by decide +kernel)), ini_X1, by decide +kernel, by decide +kernel, by decide +kernel⟩, (wtm_5 130 (by decide +kernel) (by decide +kernel)), (wtm_5 131 (by decide +kernel) (by decide +kernel))⟩
theorem lk_X1_ofWayRate : LkV yX1_ofWayRate cX1_ofWayRate 2 (some .int) 1 := ⟨⟨(wtm_5 150 (by decide +kernel) (by decide +kernel)), ini_X1, by decide +kernel, by decide +kernel, by decide +kernel⟩, (wtm_5 148 (by decide +kernel) (by decide +kernel)), (wtm_5 149 (by decide +kernel) (by decide +kernel))⟩
theorem lk_X1_ofNewCourier : LkV yX1_ofNewCourier cX1_ofNewCourier 2 (some .int) 1 := ⟨⟨(wtm_5 165 (by decide +kernel) (by decide +kernel)), ini_X1, by decide +kernel, by decide +kernel, by decide +kernel⟩, (wtm_5 163 (by decide +kernel) (by decide +kernel)), (wtm_5 164 (by decide +kernel) (by decide +kernel))⟩
theorem lk_X1_ofNewCrate : LkV yX1_ofNewCrate cX1_ofNewCrate 3 (some .int) 2 := ⟨⟨(wtm_5 180 (by decide +kernel) (by decide +kernel)), ini_X1, by decide +kernel, by decide +kernel, by decide +kernel⟩, (wtm_5 178 (by decide +kernel) (by decide +kernel)), (wtm_5 179 (by decide +kernel) (by decide +kernel))⟩
theorem lk_X1_ofNewWork : LkV yX1_ofNewWork cX1_ofNewWork 6 (some .int) 4 := ⟨⟨(wtm_5 195 (by decide +kernel) (by decide +kernel)), ini_X1, by decide +kernel, by decide +kernel, by decide +kernel⟩, (wtm_5 193 (by decide +kernel) (by decide +kernel)), (wtm_5 194 (by decide +kernel) (by decide +kernel))⟩
theorem lk_X6_hasCrate : LkV yX6_hasCrate cX6_hasCrate 2 (some .boolean) 1 := ⟨⟨(wtm_3 100 (by decide +kernel) (by decide +kernel)), ini_X6, by decide +kernel, by decide +kernel, by decide +kernel⟩, (wtm_3 98 (by decide +kernel) (by decide +kernel)), (wtm_3 99 (by decide +kernel) (by decide +kernel))⟩
theorem lk_X6_isWithinReach : LkV yX6_isWithinReach cX6_isWithinReach 5 (some .boolean) 1 := ⟨⟨(wtm_3 108 (by decide +kernel) (by decide +kernel)), ini_X6, by decide +kernel, by decide +kernel, by decide +kernel⟩, (wtm_3 106 (by decide +kernel) (by decide +kernel)), (wtm_3 107 (by decide +kernel) (by decide +kernel))⟩
theorem lk_X6_outermost : LkV yX6_outermost cX6_outermost 5 (some .int) 1 := ⟨⟨(wtm_3 121 (by decide +kernel) (by decide +kernel)), ini_X6, by decide +kernel, by decide +kernel, by decide +kernel⟩, (wtm_3 119 (by decide +kernel) (by decide +kernel)), (wtm_3 120 (by decide +kernel) (by decide +kernel))⟩
theorem lk_X6_venueOfCrate : LkV yX6_venueOfCrate cX6_venueOfCrate 2 (some .int) 1 := ⟨⟨(wtm_3 117 (by decide +kernel) (by decide +kernel)), ini_X6, by decide +kernel, by decide +kernel, by decide +kernel⟩, (wtm_3 115 (by decide +kernel) (by decide +kernel)), (wtm_3 116 (by decide +kernel) (by decide +kernel))⟩
theorem lk_X3_hoursNeededAt : LkV yX3_hoursNeededAt cX3_hoursNeededAt 4 (some .int) 1 := ⟨⟨(wtm_3 126 (by decide +kernel) (by decide +kernel)), ini_X3, by decide +kernel, by decide +kernel, by decide +kernel⟩, (wtm_3 124 (by decide +kernel) (by decide +kernel)), (wtm_3 125 (by decide +kernel) (by decide +kernel))⟩
theorem lk_X1_mayBeOpened : LkV yX1_mayBeOpened cX1_mayBeOpened 4 (some .boolean) 1 := ⟨⟨(wtm_3 104 (by decide +kernel) (by decide +kernel)), ini_X1, by decide +kernel, by decide +kernel, by decide +kernel⟩, (wtm_3 103 (by decide +kernel) (by decide +kernel)), (wtp 10 (q := 1) (by decide +kernel))⟩
theorem lk_X1_ofOpening : LkV yX1_ofOpening cX1_ofOpening 3 (some .int) 1 := ⟨⟨(wtm_3 96 (by decide +kernel) (by decide +kernel)), ini_X1, by decide +kernel, by decide +kernel, by decide +kernel⟩, (wtm_3 94 (by decide +kernel) (by decide +kernel)), (wtm_3 95 (by decide +kernel) (by decide +kernel))⟩
theorem lk_X1_holdsOpenCrate : LkV yX1_holdsOpenCrate cX1_holdsOpenCrate 3 (some .boolean) 1 := ⟨⟨(wtm_3 140 (by decide +kernel) (by decide +kernel)), ini_X1, by decide +kernel, by decide +kernel, by decide +kernel⟩, (wtm_3 139 (by decide +kernel) (by decide +kernel)), (wtp 11 (q := 1) (by decide +kernel))⟩
theorem lk_X1_ofClosing : LkV yX1_ofClosing cX1_ofClosing 4 (some .int) 1 := ⟨⟨(wtm_3 136 (by decide +kernel) (by decide +kernel)), ini_X1, by decide +kernel, by decide +kernel, by decide +kernel⟩, (wtm_3 134 (by decide +kernel) (by decide +kernel)), (wtm_3 135 (by decide +kernel) (by decide +kernel))⟩
theorem lk_X1_mayBeNested : LkV yX1_mayBeNested cX1_mayBeNested 4 (some .boolean) 2 := ⟨⟨(wtm_3 148 (by decide +kernel) (by decide +kernel)), ini_X1, by decide +kernel, by decide +kernel, by decide +kernel⟩, (wtm_3 147 (by decide +kernel) (by decide +kernel)), (wtp 12 (q := 1) (by decide +kernel))⟩
theorem lk_X1_ofNesting : LkV yX1_ofNesting cX1_ofNesting 4 (some .int) 2 := ⟨⟨(wtm_3 144 (by decide +kernel) (by decide +kernel)), ini_X1, by decide +kernel, by decide +kernel, by decide +kernel⟩, (wtm_3 142 (by decide +kernel) (by decide +kernel)), (wtm_3 143 (by decide +kernel) (by decide +kernel))⟩
theorem lk_X1_ofTakingOut : LkV yX1_ofTakingOut cX1_ofTakingOut 4 (some .int) 1 := ⟨⟨(wtm_3 152 (by decide +kernel) (by decide +kernel)), ini_X1, by decide +kernel, by decide +kernel, by decide +kernel⟩, (wtm_3 150 (by decide +kernel) (by decide +kernel)), (wtm_3 151 (by decide +kernel) (by decide +kernel))⟩
theorem lk_X6_hasWork : LkV yX6_hasWork cX6_hasWork 2 (some .boolean) 1 := ⟨⟨(wtm_3 160 (by decide +kernel) (by decide +kernel)), ini_X6, by decide +kernel, by decide +kernel, by decide +kernel⟩, (wtm_3 158 (by decide +kernel) (by decide +kernel)), (wtm_3 159 (by decide +kernel) (by decide +kernel))⟩
theorem lk_X1_ofPacking : LkV yX1_ofPacking cX1_ofPacking 5 (some .int) 2 := ⟨⟨(wtm_3 156 (by decide +kernel) (by decide +kernel)), ini_X1, by decide +kernel, by decide +kernel, by decide +kernel⟩, (wtm_3 154 (by decide +kernel) (by decide +kernel)), (wtm_3 155 (by decide +kernel) (by decide +kernel))⟩
theorem lk_X1_ofUnpacking : LkV yX1_ofUnpacking cX1_ofUnpacking 5 (some .int) 1 := ⟨⟨(wtm_3 164 (by decide +kernel) (by decide +kernel)), ini_X1, by decide +kernel, by decide +kernel, by decide +kernel⟩, (wtm_3 162 (by decide +kernel) (by decide +kernel)), (wtm_3 163 (by decide +kernel) (by decide +kernel))⟩
theorem lk_X6_hasCourier : LkV yX6_hasCourier cX6_hasCourier 2 (some .boolean) 1 := ⟨⟨(wtm_3 180 (by decide +kernel) (by decide +kernel)), ini_X6, by decide +kernel, by decide +kernel, by decide +kernel⟩, (wtm_3 178 (by decide +kernel) (by decide +kernel)), (wtm_3 179 (by decide +kernel) (by decide +kernel))⟩
theorem lk_X6_isCourierOrNone : LkV yX6_isCourierOrNone cX6_isCourierOrNone 2 (some .boolean) 1 := ⟨⟨(wtm_3 176 (by decide +kernel) (by decide +kernel)), ini_X6, by decide +kernel, by decide +kernel, by decide +kernel⟩, (wtm_3 174 (by decide +kernel) (by decide +kernel)), (wtm_3 175 (by decide +kernel) (by decide +kernel))⟩
theorem lk_X1_ofNumber : LkV yX1_ofNumber cX1_ofNumber 2 (some .int) 1 := ⟨⟨(wtm_3 184 (by decide +kernel) (by decide +kernel)), ini_X1, by decide +kernel, by decide +kernel, by decide +kernel⟩, (wtm_3 182 (by decide +kernel) (by decide +kernel)), (wtm_3 183 (by decide +kernel) (by decide +kernel))⟩
theorem lk_X1_ofLeg : LkV yX1_ofLeg cX1_ofLeg 4 (some .int) 3 := ⟨⟨(wtm_3 172 (by decide +kernel) (by decide +kernel)), ini_X1, by decide +kernel, by decide +kernel, by decide +kernel⟩, (wtm_3 170 (by decide +kernel) (by decide +kernel)), (wtm_3 171 (by decide +kernel) (by decide +kernel))⟩
theorem lk_X6_hoursBetween : LkV yX6_hoursBetween cX6_hoursBetween 3 (some .int) 2 := ⟨⟨(wtm_3 196 (by decide +kernel) (by decide +kernel)), ini_X6, by decide +kernel, by decide +kernel, by decide +kernel⟩, (wtm_3 194 (by decide +kernel) (by decide +kernel)), (wtm_3 195 (by decide +kernel) (by decide +kernel))⟩
theorem lk_X1_reasonOfCrate : LkV yX1_reasonOfCrate cX1_reasonOfCrate 4 (some .int) 2 := ⟨⟨(wtm_3 192 (by decide +kernel) (by decide +kernel)), ini_X1, by decide +kernel, by decide +kernel, by decide +kernel⟩, (wtm_3 191 (by decide +kernel) (by decide +kernel)), (wtp 13 (q := 1) (by decide +kernel))⟩
theorem lk_X6_isInOrBelow : LkV yX6_isInOrBelow cX6_isInOrBelow 5 (some .boolean) 2 := ⟨⟨(wtm_3 204 (by decide +kernel) (by decide +kernel)), ini_X6, by decide +kernel, by decide +kernel, by decide +kernel⟩, (wtm_3 202 (by decide +kernel) (by decide +kernel)), (wtm_3 203 (by decide +kernel) (by decide +kernel))⟩
theorem lk_X1_bars : LkS yX1_bars cX1_bars 2 (some .boolean) 2 := ⟨⟨(wtm_3 207 (by decide +kernel) (by decide +kernel)), ini_X1, by decide +kernel, by decide +kernel, by decide +kernel⟩, (wtm_3 206 (by decide +kernel) (by decide +kernel))⟩
theorem lk_X1_suits : LkS yX1_suits cX1_suits 2 (some .boolean) 2 := ⟨⟨(wtm_3 210 (by decide +kernel) (by decide +kernel)), ini_X1, by decide +kernel, by decide +kernel, by decide +kernel⟩, (wtm_3 209 (by decide +kernel) (by decide +kernel))⟩
theorem lk_X1_reasonOfWorks : LkV yX1_reasonOfWorks cX1_reasonOfWorks 8 (some .int) 2 := ⟨⟨(wtm_3 200 (by decide +kernel) (by decide +kernel)), ini_X1, by decide +kernel, by decide +kernel, by decide +kernel⟩, (wtm_3 199 (by decide +kernel) (by decide +kernel)), (wtp 14 (q := 1) (by decide +kernel))⟩
theorem lk_X6_valueInOrBelow : LkV yX6_valueInOrBelow cX6_valueInOrBelow 4 (some .int) 1 := ⟨⟨(wtm_3 218 (by decide +kernel) (by decide +kernel)), ini_X6, by decide +kernel, by decide +kernel, by decide +kernel⟩, (wtm_3 216 (by decide +kernel) (by decide +kernel)), (wtm_3 217 (by decide +kernel) (by decide +kernel))⟩
theorem lk_X6_venueOfWork : LkV yX6_venueOfWork cX6_venueOfWork 3 (some .int) 1 := ⟨⟨(wtm_3 227 (by decide +kernel) (by decide +kernel)), ini_X6, by decide +kernel, by decide +kernel, by decide +kernel⟩, (wtm_3 225 (by decide +kernel) (by decide +kernel)), (wtm_3 226 (by decide +kernel) (by decide +kernel))⟩
theorem lk_X6_valueAt : LkV yX6_valueAt cX6_valueAt 4 (some .int) 1 := ⟨⟨(wtm_3 223 (by decide +kernel) (by decide +kernel)), ini_X6, by decide +kernel, by decide +kernel, by decide +kernel⟩, (wtm_3 221 (by decide +kernel) (by decide +kernel)), (wtm_3 222 (by decide +kernel) (by decide +kernel))⟩
theorem lk_X6_goalOfWork : LkV yX6_goalOfWork cX6_goalOfWork 3 (some .int) 1 := ⟨⟨(wtm_3 235 (by decide +kernel) (by decide +kernel)), ini_X6, by decide +kernel, by decide +kernel, by decide +kernel⟩, (wtm_3 233 (by decide +kernel) (by decide +kernel)), (wtm_3 234 (by decide +kernel) (by decide +kernel))⟩
theorem lk_X6_valueOnTheWayTo : LkV yX6_valueOnTheWayTo cX6_valueOnTheWayTo 4 (some .int) 1 := ⟨⟨(wtm_3 231 (by decide +kernel) (by decide +kernel)), ini_X6, by decide +kernel, by decide +kernel, by decide +kernel⟩, (wtm_3 229 (by decide +kernel) (by decide +kernel)), (wtm_3 230 (by decide +kernel) (by decide +kernel))⟩
theorem lk_X1_isAboveCap : LkV yX1_isAboveCap cX1_isAboveCap 4 (some .boolean) 2 := ⟨⟨(wtm_3 214 (by decide +kernel) (by decide +kernel)), ini_X1, by decide +kernel, by decide +kernel, by decide +kernel⟩, (wtm_3 213 (by decide +kernel) (by decide +kernel)), (wtp 15 (q := 1) (by decide +kernel))⟩
theorem lk_X1_needsCourier : LkV yX1_needsCourier cX1_needsCourier 3 (some .boolean) 1 := ⟨⟨(wtm_4 4 (by decide +kernel) (by decide +kernel)), ini_X1, by decide +kernel, by decide +kernel, by decide +kernel⟩, (wtm_4 3 (by decide +kernel) (by decide +kernel)), (wtp 17 (q := 1) (by decide +kernel))⟩
theorem lk_X1_reasonOfCourier : LkV yX1_reasonOfCourier cX1_reasonOfCourier 4 (some .int) 2 := ⟨⟨(wtm_3 239 (by decide +kernel) (by decide +kernel)), ini_X1, by decide +kernel, by decide +kernel, by decide +kernel⟩, (wtm_3 238 (by decide +kernel) (by decide +kernel)), (wtp 16 (q := 1) (by decide +kernel))⟩
theorem lk_X1_reasonAgainst : LkV yX1_reasonAgainst cX1_reasonAgainst 5 (some .int) 3 := ⟨⟨(wtm_3 188 (by decide +kernel) (by decide +kernel)), ini_X1, by decide +kernel, by decide +kernel, by decide +kernel⟩, (wtm_3 186 (by decide +kernel) (by decide +kernel)), (wtm_3 187 (by decide +kernel) (by decide +kernel))⟩
theorem lk_X1_ofSending : LkV yX1_ofSending cX1_ofSending 4 (some .int) 3 := ⟨⟨(wtm_3 168 (by decide +kernel) (by decide +kernel)), ini_X1, by decide +kernel, by decide +kernel, by decide +kernel⟩, (wtm_3 166 (by decide +kernel) (by decide +kernel)), (wtm_3 167 (by decide +kernel) (by decide +kernel))⟩
theorem lk_X1_ofWaiting : LkV yX1_ofWaiting cX1_ofWaiting 2 (some .int) 1 := ⟨⟨(wtm_4 8 (by decide +kernel) (by decide +kernel)), ini_X1, by decide +kernel, by decide +kernel, by decide +kernel⟩, (wtm_4 6 (by decide +kernel) (by decide +kernel)), (wtm_4 7 (by decide +kernel) (by decide +kernel))⟩
theorem lk_X1_ofValue : LkV yX1_ofValue cX1_ofValue 4 (some .int) 3 := ⟨⟨(wtm_6 37 (by decide +kernel) (by decide +kernel)), ini_X1, by decide +kernel, by decide +kernel, by decide +kernel⟩, (wtm_6 35 (by decide +kernel) (by decide +kernel)), (wtm_6 36 (by decide +kernel) (by decide +kernel))⟩
theorem lk_X1_ofNoted : LkV yX1_ofNoted cX1_ofNoted 3 (some .int) 2 := ⟨⟨(wtm_6 56 (by decide +kernel) (by decide +kernel)), ini_X1, by decide +kernel, by decide +kernel, by decide +kernel⟩, (wtm_6 54 (by decide +kernel) (by decide +kernel)), (wtm_6 55 (by decide +kernel) (by decide +kernel))⟩
theorem lk_X1_ofByte : LkV yX1_ofByte cX1_ofByte 3 (some .int) 2 := ⟨⟨(wtm_6 123 (by decide +kernel) (by decide +kernel)), ini_X1, by decide +kernel, by decide +kernel, by decide +kernel⟩, (wtm_6 121 (by decide +kernel) (by decide +kernel)), (wtm_6 122 (by decide +kernel) (by decide +kernel))⟩
theorem lk_X2_init : LkI yX2_init cX2_init 1 0 := ⟨⟨(wtm_2 135 (by decide +kernel) (by decide +kernel)), ini_X2, by decide +kernel, by decide +kernel, by decide +kernel⟩, (wtm_2 134 (by decide +kernel) (by decide +kernel)), rfl⟩
theorem lk_X2_append : LkV yX2_append cX2_append 2 (some .int) 1 := ⟨⟨(wtm_6 127 (by decide +kernel) (by decide +kernel)), ini_X2, by decide +kernel, by decide +kernel, by decide +kernel⟩, (wtm_6 125 (by decide +kernel) (by decide +kernel)), (wtm_6 126 (by decide +kernel) (by decide +kernel))⟩
theorem lk_X2_empty : LkV yX2_empty cX2_empty 2 (some .int) 0 := ⟨⟨(wtm_2 191 (by decide +kernel) (by decide +kernel)), ini_X2, by decide +kernel, by decide +kernel, by decide +kernel⟩, (wtm_2 189 (by decide +kernel) (by decide +kernel)), (wtm_2 190 (by decide +kernel) (by decide +kernel))⟩
theorem lk_X2_rewind : LkV yX2_rewind cX2_rewind 1 none 0 := ⟨⟨(wtm_2 203 (by decide +kernel) (by decide +kernel)), ini_X2, by decide +kernel, by decide +kernel, by decide +kernel⟩, (wtm_2 201 (by decide +kernel) (by decide +kernel)), (wtm_2 202 (by decide +kernel) (by decide +kernel))⟩
theorem lk_X2_skipSpaces : LkV yX2_skipSpaces cX2_skipSpaces 1 none 0 := ⟨⟨(wtm_2 211 (by decide +kernel) (by decide +kernel)), ini_X2, by decide +kernel, by decide +kernel, by decide +kernel⟩, (wtm_2 210 (by decide +kernel) (by decide +kernel)), (wtp 0 (q := 6) (by decide +kernel))⟩
theorem lk_X2_isWordAt : LkV yX2_isWordAt cX2_isWordAt 4 (some .boolean) 2 := ⟨⟨(wtm_2 221 (by decide +kernel) (by decide +kernel)), ini_X2, by decide +kernel, by decide +kernel, by decide +kernel⟩, (wtm_2 220 (by decide +kernel) (by decide +kernel)), (wtp 2 (q := 6) (by decide +kernel))⟩
theorem lk_X2_failAt : LkV yX2_failAt cX2_failAt 2 (some .boolean) 1 := ⟨⟨(wtm_3 33 (by decide +kernel) (by decide +kernel)), ini_X2, by decide +kernel, by decide +kernel, by decide +kernel⟩, (wtm_3 32 (by decide +kernel) (by decide +kernel)), (wtp 3 (q := 6) (by decide +kernel))⟩
theorem lk_X2_readWord : LkV yX2_readWord cX2_readWord 3 (some .boolean) 0 := ⟨⟨(wtm_2 215 (by decide +kernel) (by decide +kernel)), ini_X2, by decide +kernel, by decide +kernel, by decide +kernel⟩, (wtm_2 214 (by decide +kernel) (by decide +kernel)), (wtp 1 (q := 6) (by decide +kernel))⟩
theorem lk_X2_isAtDigit : LkV yX2_isAtDigit cX2_isAtDigit 1 (some .boolean) 0 := ⟨⟨(wtm_3 45 (by decide +kernel) (by decide +kernel)), ini_X2, by decide +kernel, by decide +kernel, by decide +kernel⟩, (wtm_3 44 (by decide +kernel) (by decide +kernel)), (wtp 6 (q := 6) (by decide +kernel))⟩
theorem lk_X2_readNumber : LkV yX2_readNumber cX2_readNumber 3 (some .boolean) 1 := ⟨⟨(wtm_3 41 (by decide +kernel) (by decide +kernel)), ini_X2, by decide +kernel, by decide +kernel, by decide +kernel⟩, (wtm_3 40 (by decide +kernel) (by decide +kernel)), (wtp 5 (q := 6) (by decide +kernel))⟩
theorem lk_X2_readNumbers : LkV yX2_readNumbers cX2_readNumbers 2 (some .boolean) 0 := ⟨⟨(wtm_3 37 (by decide +kernel) (by decide +kernel)), ini_X2, by decide +kernel, by decide +kernel, by decide +kernel⟩, (wtm_3 36 (by decide +kernel) (by decide +kernel)), (wtp 4 (q := 6) (by decide +kernel))⟩
theorem lk_X2_readSemicolon : LkV yX2_readSemicolon cX2_readSemicolon 1 (some .boolean) 0 := ⟨⟨(wtm_3 49 (by decide +kernel) (by decide +kernel)), ini_X2, by decide +kernel, by decide +kernel, by decide +kernel⟩, (wtm_3 48 (by decide +kernel) (by decide +kernel)), (wtp 7 (q := 6) (by decide +kernel))⟩
theorem lk_X2_readNext : LkV yX2_readNext cX2_readNext 1 (some .boolean) 0 := ⟨⟨(wtm_2 207 (by decide +kernel) (by decide +kernel)), ini_X2, by decide +kernel, by decide +kernel, by decide +kernel⟩, (wtm_2 205 (by decide +kernel) (by decide +kernel)), (wtm_2 206 (by decide +kernel) (by decide +kernel))⟩
theorem lk_X2_findFault : LkV yX2_findFault cX2_findFault 2 (some .int) 0 := ⟨⟨(wtm_2 199 (by decide +kernel) (by decide +kernel)), ini_X2, by decide +kernel, by decide +kernel, by decide +kernel⟩, (wtm_2 197 (by decide +kernel) (by decide +kernel)), (wtm_2 198 (by decide +kernel) (by decide +kernel))⟩
theorem lk_X3_init : LkI yX3_init cX3_init 1 0 := ⟨⟨(wtm_1 95 (by decide +kernel) (by decide +kernel)), ini_X3, by decide +kernel, by decide +kernel, by decide +kernel⟩, (wtm_1 94 (by decide +kernel) (by decide +kernel)), rfl⟩
theorem lk_X3_copyFrom : LkV yX3_copyFrom cX3_copyFrom 2 none 1 := ⟨⟨(wtm_3 72 (by decide +kernel) (by decide +kernel)), ini_X3, by decide +kernel, by decide +kernel, by decide +kernel⟩, (wtm_3 70 (by decide +kernel) (by decide +kernel)), (wtm_3 71 (by decide +kernel) (by decide +kernel))⟩
theorem lk_X3_standAt : LkV yX3_standAt cX3_standAt 2 none 1 := ⟨⟨(wtm_4 41 (by decide +kernel) (by decide +kernel)), ini_X3, by decide +kernel, by decide +kernel, by decide +kernel⟩, (wtm_4 39 (by decide +kernel) (by decide +kernel)), (wtm_4 40 (by decide +kernel) (by decide +kernel))⟩
theorem lk_X4_init : LkI yX4_init cX4_init 2 1 := ⟨⟨(wtm_2 82 (by decide +kernel) (by decide +kernel)), ini_X4, by decide +kernel, by decide +kernel, by decide +kernel⟩, (wtm_2 81 (by decide +kernel) (by decide +kernel)), rfl⟩
theorem lk_X4_makeVenue : LkV yX4_makeVenue cX4_makeVenue 7 (some .int) 4 := ⟨⟨(wtm_5 90 (by decide +kernel) (by decide +kernel)), ini_X4, by decide +kernel, by decide +kernel, by decide +kernel⟩, (wtm_5 88 (by decide +kernel) (by decide +kernel)), (wtm_5 89 (by decide +kernel) (by decide +kernel))⟩
theorem lk_X4_changeClimate : LkV yX4_changeClimate cX4_changeClimate 6 (some .int) 3 := ⟨⟨(wtm_5 106 (by decide +kernel) (by decide +kernel)), ini_X4, by decide +kernel, by decide +kernel, by decide +kernel⟩, (wtm_5 104 (by decide +kernel) (by decide +kernel)), (wtm_5 105 (by decide +kernel) (by decide +kernel))⟩
theorem lk_X4_changeWay : LkV yX4_changeWay cX4_changeWay 5 (some .int) 3 := ⟨⟨(wtm_5 121 (by decide +kernel) (by decide +kernel)), ini_X4, by decide +kernel, by decide +kernel, by decide +kernel⟩, (wtm_5 119 (by decide +kernel) (by decide +kernel)), (wtm_5 120 (by decide +kernel) (by decide +kernel))⟩
theorem lk_X4_changeLender : LkV yX4_changeLender cX4_changeLender 5 (some .int) 3 := ⟨⟨(wtm_5 139 (by decide +kernel) (by decide +kernel)), ini_X4, by decide +kernel, by decide +kernel, by decide +kernel⟩, (wtm_5 137 (by decide +kernel) (by decide +kernel)), (wtm_5 138 (by decide +kernel) (by decide +kernel))⟩
theorem lk_X4_changeWayRate : LkV yX4_changeWayRate cX4_changeWayRate 3 (some .int) 1 := ⟨⟨(wtm_5 154 (by decide +kernel) (by decide +kernel)), ini_X4, by decide +kernel, by decide +kernel, by decide +kernel⟩, (wtm_5 152 (by decide +kernel) (by decide +kernel)), (wtm_5 153 (by decide +kernel) (by decide +kernel))⟩
theorem lk_X4_makeCourier : LkV yX4_makeCourier cX4_makeCourier 3 (some .int) 1 := ⟨⟨(wtm_5 169 (by decide +kernel) (by decide +kernel)), ini_X4, by decide +kernel, by decide +kernel, by decide +kernel⟩, (wtm_5 167 (by decide +kernel) (by decide +kernel)), (wtm_5 168 (by decide +kernel) (by decide +kernel))⟩
theorem lk_X4_makeCrate : LkV yX4_makeCrate cX4_makeCrate 5 (some .int) 2 := ⟨⟨(wtm_5 184 (by decide +kernel) (by decide +kernel)), ini_X4, by decide +kernel, by decide +kernel, by decide +kernel⟩, (wtm_5 182 (by decide +kernel) (by decide +kernel)), (wtm_5 183 (by decide +kernel) (by decide +kernel))⟩
theorem lk_X4_makeWork : LkV yX4_makeWork cX4_makeWork 8 (some .int) 5 := ⟨⟨(wtm_5 200 (by decide +kernel) (by decide +kernel)), ini_X4, by decide +kernel, by decide +kernel, by decide +kernel⟩, (wtm_5 198 (by decide +kernel) (by decide +kernel)), (wtm_5 199 (by decide +kernel) (by decide +kernel))⟩
theorem lk_X6_worksDirectlyIn : LkV yX6_worksDirectlyIn cX6_worksDirectlyIn 4 (some .int) 1 := ⟨⟨(wtm_4 23 (by decide +kernel) (by decide +kernel)), ini_X6, by decide +kernel, by decide +kernel, by decide +kernel⟩, (wtm_4 21 (by decide +kernel) (by decide +kernel)), (wtm_4 22 (by decide +kernel) (by decide +kernel))⟩
theorem lk_X4_openCrate : LkV yX4_openCrate cX4_openCrate 4 (some .int) 1 := ⟨⟨(wtm_4 19 (by decide +kernel) (by decide +kernel)), ini_X4, by decide +kernel, by decide +kernel, by decide +kernel⟩, (wtm_4 17 (by decide +kernel) (by decide +kernel)), (wtm_4 18 (by decide +kernel) (by decide +kernel))⟩
theorem lk_X6_worksInOrBelow : LkV yX6_worksInOrBelow cX6_worksInOrBelow 4 (some .int) 1 := ⟨⟨(wtm_4 33 (by decide +kernel) (by decide +kernel)), ini_X6, by decide +kernel, by decide +kernel, by decide +kernel⟩, (wtm_4 31 (by decide +kernel) (by decide +kernel)), (wtm_4 32 (by decide +kernel) (by decide +kernel))⟩
theorem lk_X4_closeCrate : LkV yX4_closeCrate cX4_closeCrate 4 (some .int) 1 := ⟨⟨(wtm_4 27 (by decide +kernel) (by decide +kernel)), ini_X4, by decide +kernel, by decide +kernel, by decide +kernel⟩, (wtm_4 25 (by decide +kernel) (by decide +kernel)), (wtm_4 26 (by decide +kernel) (by decide +kernel))⟩
theorem lk_X6_cratesDirectlyIn : LkV yX6_cratesDirectlyIn cX6_cratesDirectlyIn 4 (some .int) 1 := ⟨⟨(wtm_4 45 (by decide +kernel) (by decide +kernel)), ini_X6, by decide +kernel, by decide +kernel, by decide +kernel⟩, (wtm_4 43 (by decide +kernel) (by decide +kernel)), (wtm_4 44 (by decide +kernel) (by decide +kernel))⟩
theorem lk_X4_putCrateInto : LkV yX4_putCrateInto cX4_putCrateInto 3 (some .int) 2 := ⟨⟨(wtm_4 37 (by decide +kernel) (by decide +kernel)), ini_X4, by decide +kernel, by decide +kernel, by decide +kernel⟩, (wtm_4 35 (by decide +kernel) (by decide +kernel)), (wtm_4 36 (by decide +kernel) (by decide +kernel))⟩
theorem lk_X4_takeCrateOut : LkV yX4_takeCrateOut cX4_takeCrateOut 3 (some .int) 1 := ⟨⟨(wtm_4 49 (by decide +kernel) (by decide +kernel)), ini_X4, by decide +kernel, by decide +kernel, by decide +kernel⟩, (wtm_4 47 (by decide +kernel) (by decide +kernel)), (wtm_4 48 (by decide +kernel) (by decide +kernel))⟩
theorem lk_X4_packWork : LkV yX4_packWork cX4_packWork 3 (some .int) 2 := ⟨⟨(wtm_4 53 (by decide +kernel) (by decide +kernel)), ini_X4, by decide +kernel, by decide +kernel, by decide +kernel⟩, (wtm_4 51 (by decide +kernel) (by decide +kernel)), (wtm_4 52 (by decide +kernel) (by decide +kernel))⟩
theorem lk_X4_unpackWork : LkV yX4_unpackWork cX4_unpackWork 3 (some .int) 1 := ⟨⟨(wtm_4 57 (by decide +kernel) (by decide +kernel)), ini_X4, by decide +kernel, by decide +kernel, by decide +kernel⟩, (wtm_4 55 (by decide +kernel) (by decide +kernel)), (wtm_4 56 (by decide +kernel) (by decide +kernel))⟩
theorem lk_X4_sendCrate : LkV yX4_sendCrate cX4_sendCrate 5 (some .int) 3 := ⟨⟨(wtm_4 62 (by decide +kernel) (by decide +kernel)), ini_X4, by decide +kernel, by decide +kernel, by decide +kernel⟩, (wtm_4 60 (by decide +kernel) (by decide +kernel)), (wtm_4 61 (by decide +kernel) (by decide +kernel))⟩
theorem lk_X4_arrive : LkV yX4_arrive cX4_arrive 4 none 1 := ⟨⟨(wtm_4 76 (by decide +kernel) (by decide +kernel)), ini_X4, by decide +kernel, by decide +kernel, by decide +kernel⟩, (wtm_4 75 (by decide +kernel) (by decide +kernel)), (wtp 20 (q := 1) (by decide +kernel))⟩
theorem lk_X4_premiumOf : LkS yX4_premiumOf cX4_premiumOf 2 (some .int) 2 := ⟨⟨(wtm_4 84 (by decide +kernel) (by decide +kernel)), ini_X4, by decide +kernel, by decide +kernel, by decide +kernel⟩, (wtm_4 83 (by decide +kernel) (by decide +kernel))⟩
theorem lk_X11_notePlace : LkV yX11_notePlace cX11_notePlace 2 none 1 := ⟨⟨(wtm_4 89 (by decide +kernel) (by decide +kernel)), ini_X11, by decide +kernel, by decide +kernel, by decide +kernel⟩, (wtm_4 87 (by decide +kernel) (by decide +kernel)), (wtm_4 88 (by decide +kernel) (by decide +kernel))⟩
theorem lk_X4_endDay : LkV yX4_endDay cX4_endDay 5 none 0 := ⟨⟨(wtm_4 81 (by decide +kernel) (by decide +kernel)), ini_X4, by decide +kernel, by decide +kernel, by decide +kernel⟩, (wtm_4 80 (by decide +kernel) (by decide +kernel)), (wtp 21 (q := 1) (by decide +kernel))⟩
theorem lk_X4_passHour : LkV yX4_passHour cX4_passHour 2 none 0 := ⟨⟨(wtm_4 72 (by decide +kernel) (by decide +kernel)), ini_X4, by decide +kernel, by decide +kernel, by decide +kernel⟩, (wtm_4 71 (by decide +kernel) (by decide +kernel)), (wtp 19 (q := 1) (by decide +kernel))⟩
theorem lk_X4_letHoursPass : LkV yX4_letHoursPass cX4_letHoursPass 4 (some .int) 1 := ⟨⟨(wtm_4 68 (by decide +kernel) (by decide +kernel)), ini_X4, by decide +kernel, by decide +kernel, by decide +kernel⟩, (wtm_4 66 (by decide +kernel) (by decide +kernel)), (wtm_4 67 (by decide +kernel) (by decide +kernel))⟩
theorem lk_X5_init : LkI yX5_init cX5_init 3 2 := ⟨⟨(wtm_2 102 (by decide +kernel) (by decide +kernel)), ini_X5, by decide +kernel, by decide +kernel, by decide +kernel⟩, (wtm_2 101 (by decide +kernel) (by decide +kernel)), rfl⟩
theorem lk_X5_listAround : LkV yX5_listAround cX5_listAround 4 (some .int) 1 := ⟨⟨(wtm_4 185 (by decide +kernel) (by decide +kernel)), ini_X5, by decide +kernel, by decide +kernel, by decide +kernel⟩, (wtm_4 184 (by decide +kernel) (by decide +kernel)), (wtp 32 (q := 3) (by decide +kernel))⟩
theorem lk_X5_timeThrough : LkV yX5_timeThrough cX5_timeThrough 10 (some .int) 3 := ⟨⟨(wtm_4 180 (by decide +kernel) (by decide +kernel)), ini_X5, by decide +kernel, by decide +kernel, by decide +kernel⟩, (wtm_4 179 (by decide +kernel) (by decide +kernel)), (wtp 31 (q := 3) (by decide +kernel))⟩
theorem lk_X5_timeOfWork : LkV yX5_timeOfWork cX5_timeOfWork 4 (some .int) 1 := ⟨⟨(wtm_4 174 (by decide +kernel) (by decide +kernel)), ini_X5, by decide +kernel, by decide +kernel, by decide +kernel⟩, (wtm_4 172 (by decide +kernel) (by decide +kernel)), (wtm_4 173 (by decide +kernel) (by decide +kernel))⟩
theorem lk_X5_timeOfCrate : LkV yX5_timeOfCrate cX5_timeOfCrate 4 (some .int) 1 := ⟨⟨(wtm_4 169 (by decide +kernel) (by decide +kernel)), ini_X5, by decide +kernel, by decide +kernel, by decide +kernel⟩, (wtm_4 167 (by decide +kernel) (by decide +kernel)), (wtm_4 168 (by decide +kernel) (by decide +kernel))⟩
theorem lk_X5_timeIfSent : LkV yX5_timeIfSent cX5_timeIfSent 7 (some .int) 2 := ⟨⟨(wtm_6 111 (by decide +kernel) (by decide +kernel)), ini_X5, by decide +kernel, by decide +kernel, by decide +kernel⟩, (wtm_6 110 (by decide +kernel) (by decide +kernel)), (wtp 35 (q := 3) (by decide +kernel))⟩
theorem lk_X5_soonestVenue : LkV yX5_soonestVenue cX5_soonestVenue 7 (some .int) 2 := ⟨⟨(wtm_6 106 (by decide +kernel) (by decide +kernel)), ini_X5, by decide +kernel, by decide +kernel, by decide +kernel⟩, (wtm_6 104 (by decide +kernel) (by decide +kernel)), (wtm_6 105 (by decide +kernel) (by decide +kernel))⟩
theorem lk_X9_init : LkI yX9_init cX9_init 1 0 := ⟨⟨(wtm_1 53 (by decide +kernel) (by decide +kernel)), ini_X9, by decide +kernel, by decide +kernel, by decide +kernel⟩, (wtm_1 52 (by decide +kernel) (by decide +kernel)), rfl⟩
theorem lk_X11_init : LkI yX11_init cX11_init 1 0 := ⟨⟨(wtm_1 165 (by decide +kernel) (by decide +kernel)), ini_X11, by decide +kernel, by decide +kernel, by decide +kernel⟩, (wtm_1 164 (by decide +kernel) (by decide +kernel)), rfl⟩
theorem lk_X6_init : LkI yX6_init cX6_init 2 0 := ⟨⟨(wtm_1 40 (by decide +kernel) (by decide +kernel)), ini_X6, by decide +kernel, by decide +kernel, by decide +kernel⟩, (wtm_1 39 (by decide +kernel) (by decide +kernel)), rfl⟩
theorem lk_X9_copyFrom : LkV yX9_copyFrom cX9_copyFrom 2 none 1 := ⟨⟨(wtm_3 65 (by decide +kernel) (by decide +kernel)), ini_X9, by decide +kernel, by decide +kernel, by decide +kernel⟩, (wtm_3 63 (by decide +kernel) (by decide +kernel)), (wtm_3 64 (by decide +kernel) (by decide +kernel))⟩
theorem lk_X11_copyFrom : LkV yX11_copyFrom cX11_copyFrom 2 none 1 := ⟨⟨(wtm_3 76 (by decide +kernel) (by decide +kernel)), ini_X11, by decide +kernel, by decide +kernel, by decide +kernel⟩, (wtm_3 74 (by decide +kernel) (by decide +kernel)), (wtm_3 75 (by decide +kernel) (by decide +kernel))⟩
theorem lk_X6_copyFrom : LkV yX6_copyFrom cX6_copyFrom 3 none 1 := ⟨⟨(wtm_3 61 (by decide +kernel) (by decide +kernel)), ini_X6, by decide +kernel, by decide +kernel, by decide +kernel⟩, (wtm_3 59 (by decide +kernel) (by decide +kernel)), (wtm_3 60 (by decide +kernel) (by decide +kernel))⟩
theorem lk_X6_cratesOutwards : LkV yX6_cratesOutwards cX6_cratesOutwards 4 (some .int) 1 := ⟨⟨(wtm_4 202 (by decide +kernel) (by decide +kernel)), ini_X6, by decide +kernel, by decide +kernel, by decide +kernel⟩, (wtm_4 200 (by decide +kernel) (by decide +kernel)), (wtm_4 201 (by decide +kernel) (by decide +kernel))⟩
theorem lk_X6_cratesBelow : LkV yX6_cratesBelow cX6_cratesBelow 4 (some .int) 1 := ⟨⟨(wtm_4 163 (by decide +kernel) (by decide +kernel)), ini_X6, by decide +kernel, by decide +kernel, by decide +kernel⟩, (wtm_4 161 (by decide +kernel) (by decide +kernel)), (wtm_4 162 (by decide +kernel) (by decide +kernel))⟩
theorem lk_X7_init : LkI yX7_init cX7_init 2 0 := ⟨⟨(wtm_2 118 (by decide +kernel) (by decide +kernel)), ini_X7, by decide +kernel, by decide +kernel, by decide +kernel⟩, (wtm_2 117 (by decide +kernel) (by decide +kernel)), rfl⟩
theorem lk_X7_dropOldest : LkV yX7_dropOldest cX7_dropOldest 3 none 0 := ⟨⟨(wtm_3 57 (by decide +kernel) (by decide +kernel)), ini_X7, by decide +kernel, by decide +kernel, by decide +kernel⟩, (wtm_3 56 (by decide +kernel) (by decide +kernel)), (wtp 8 (q := 2) (by decide +kernel))⟩
theorem lk_X7_keep : LkV yX7_keep cX7_keep 2 none 1 := ⟨⟨(wtm_3 53 (by decide +kernel) (by decide +kernel)), ini_X7, by decide +kernel, by decide +kernel, by decide +kernel⟩, (wtm_3 51 (by decide +kernel) (by decide +kernel)), (wtm_3 52 (by decide +kernel) (by decide +kernel))⟩
theorem lk_X7_restore : LkV yX7_restore cX7_restore 2 (some .int) 1 := ⟨⟨(wtm_6 138 (by decide +kernel) (by decide +kernel)), ini_X7, by decide +kernel, by decide +kernel, by decide +kernel⟩, (wtm_6 136 (by decide +kernel) (by decide +kernel)), (wtm_6 137 (by decide +kernel) (by decide +kernel))⟩
theorem lk_X8_init : LkI yX8_init cX8_init 2 1 := ⟨⟨(wtm_2 92 (by decide +kernel) (by decide +kernel)), ini_X8, by decide +kernel, by decide +kernel, by decide +kernel⟩, (wtm_2 91 (by decide +kernel) (by decide +kernel)), rfl⟩
theorem lk_X8_asNumber : LkS yX8_asNumber cX8_asNumber 1 (some .int) 1 := ⟨⟨(wtm_4 144 (by decide +kernel) (by decide +kernel)), ini_X8, by decide +kernel, by decide +kernel, by decide +kernel⟩, (wtm_4 143 (by decide +kernel) (by decide +kernel))⟩
theorem lk_X8_temperatureIn : LkV yX8_temperatureIn cX8_temperatureIn 4 (some .int) 2 := ⟨⟨(wtm_4 148 (by decide +kernel) (by decide +kernel)), ini_X8, by decide +kernel, by decide +kernel, by decide +kernel⟩, (wtm_4 147 (by decide +kernel) (by decide +kernel)), (wtp 28 (q := 1) (by decide +kernel))⟩
theorem lk_X8_humidityIn : LkV yX8_humidityIn cX8_humidityIn 4 (some .int) 2 := ⟨⟨(wtm_4 153 (by decide +kernel) (by decide +kernel)), ini_X8, by decide +kernel, by decide +kernel, by decide +kernel⟩, (wtm_4 152 (by decide +kernel) (by decide +kernel)), (wtp 29 (q := 1) (by decide +kernel))⟩
theorem lk_X8_hoursNeeded : LkV yX8_hoursNeeded cX8_hoursNeeded 4 (some .int) 2 := ⟨⟨(wtm_4 157 (by decide +kernel) (by decide +kernel)), ini_X8, by decide +kernel, by decide +kernel, by decide +kernel⟩, (wtm_4 156 (by decide +kernel) (by decide +kernel)), (wtp 30 (q := 1) (by decide +kernel))⟩
theorem lk_X8_ofCrate : LkV yX8_ofCrate cX8_ofCrate 5 (some .int) 2 := ⟨⟨(wtm_4 140 (by decide +kernel) (by decide +kernel)), ini_X8, by decide +kernel, by decide +kernel, by decide +kernel⟩, (wtm_4 138 (by decide +kernel) (by decide +kernel)), (wtm_4 139 (by decide +kernel) (by decide +kernel))⟩
theorem lk_X8_ofWork : LkV yX8_ofWork cX8_ofWork 4 (some .int) 2 := ⟨⟨(wtm_4 197 (by decide +kernel) (by decide +kernel)), ini_X8, by decide +kernel, by decide +kernel, by decide +kernel⟩, (wtm_4 195 (by decide +kernel) (by decide +kernel)), (wtm_4 196 (by decide +kernel) (by decide +kernel))⟩
theorem lk_X8_cratesAt : LkV yX8_cratesAt cX8_cratesAt 4 (some .int) 1 := ⟨⟨(wtm_4 128 (by decide +kernel) (by decide +kernel)), ini_X8, by decide +kernel, by decide +kernel, by decide +kernel⟩, (wtm_4 127 (by decide +kernel) (by decide +kernel)), (wtp 25 (q := 1) (by decide +kernel))⟩
theorem lk_X8_couriersAt : LkV yX8_couriersAt cX8_couriersAt 4 (some .int) 1 := ⟨⟨(wtm_4 132 (by decide +kernel) (by decide +kernel)), ini_X8, by decide +kernel, by decide +kernel, by decide +kernel⟩, (wtm_4 131 (by decide +kernel) (by decide +kernel)), (wtp 26 (q := 1) (by decide +kernel))⟩
theorem lk_X8_ofVenue : LkV yX8_ofVenue cX8_ofVenue 4 (some .int) 2 := ⟨⟨(wtm_4 122 (by decide +kernel) (by decide +kernel)), ini_X8, by decide +kernel, by decide +kernel, by decide +kernel⟩, (wtm_4 120 (by decide +kernel) (by decide +kernel)), (wtm_4 121 (by decide +kernel) (by decide +kernel))⟩
theorem lk_X8_worksOnTheirWay : LkV yX8_worksOnTheirWay cX8_worksOnTheirWay 3 (some .int) 0 := ⟨⟨(wtm_4 109 (by decide +kernel) (by decide +kernel)), ini_X8, by decide +kernel, by decide +kernel, by decide +kernel⟩, (wtm_4 108 (by decide +kernel) (by decide +kernel)), (wtp 22 (q := 1) (by decide +kernel))⟩
theorem lk_X8_openCrates : LkV yX8_openCrates cX8_openCrates 3 (some .int) 0 := ⟨⟨(wtm_4 114 (by decide +kernel) (by decide +kernel)), ini_X8, by decide +kernel, by decide +kernel, by decide +kernel⟩, (wtm_4 113 (by decide +kernel) (by decide +kernel)), (wtp 23 (q := 1) (by decide +kernel))⟩
theorem lk_X8_ofWhole : LkV yX8_ofWhole cX8_ofWhole 2 (some .int) 1 := ⟨⟨(wtm_4 105 (by decide +kernel) (by decide +kernel)), ini_X8, by decide +kernel, by decide +kernel, by decide +kernel⟩, (wtm_4 103 (by decide +kernel) (by decide +kernel)), (wtm_4 104 (by decide +kernel) (by decide +kernel))⟩
theorem lk_X11_placeNoted : LkV yX11_placeNoted cX11_placeNoted 2 (some .int) 1 := ⟨⟨(wtm_4 206 (by decide +kernel) (by decide +kernel)), ini_X11, by decide +kernel, by decide +kernel, by decide +kernel⟩, (wtm_4 204 (by decide +kernel) (by decide +kernel)), (wtm_4 205 (by decide +kernel) (by decide +kernel))⟩
theorem lk_X12_init : LkI yX12_init cX12_init 1 0 := ⟨⟨(wtm_1 32 (by decide +kernel) (by decide +kernel)), ini_X12, by decide +kernel, by decide +kernel, by decide +kernel⟩, (wtm_1 31 (by decide +kernel) (by decide +kernel)), rfl⟩
theorem lk_X12_throwIfWrong : LkS yX12_throwIfWrong cX12_throwIfWrong 1 none 1 := ⟨⟨(wtm_4 227 (by decide +kernel) (by decide +kernel)), ini_X12, by decide +kernel, by decide +kernel, by decide +kernel⟩, (wtm_4 226 (by decide +kernel) (by decide +kernel))⟩
theorem lk_X12_addVenue : LkV yX12_addVenue cX12_addVenue 5 (some .int) 4 := ⟨⟨(wtm_4 216 (by decide +kernel) (by decide +kernel)), ini_X12, by decide +kernel, by decide +kernel, by decide +kernel⟩, (wtm_4 214 (by decide +kernel) (by decide +kernel)), (wtm_4 215 (by decide +kernel) (by decide +kernel))⟩
theorem lk_X12_setClimate : LkV yX12_setClimate cX12_setClimate 4 (some .int) 3 := ⟨⟨(wtm_5 98 (by decide +kernel) (by decide +kernel)), ini_X12, by decide +kernel, by decide +kernel, by decide +kernel⟩, (wtm_5 96 (by decide +kernel) (by decide +kernel)), (wtm_5 97 (by decide +kernel) (by decide +kernel))⟩
theorem lk_X12_setWay : LkV yX12_setWay cX12_setWay 4 (some .int) 3 := ⟨⟨(wtm_5 113 (by decide +kernel) (by decide +kernel)), ini_X12, by decide +kernel, by decide +kernel, by decide +kernel⟩, (wtm_5 111 (by decide +kernel) (by decide +kernel)), (wtm_5 112 (by decide +kernel) (by decide +kernel))⟩
theorem lk_X12_setLender : LkV yX12_setLender cX12_setLender 4 (some .int) 3 := ⟨⟨(wtm_5 128 (by decide +kernel) (by decide +kernel)), ini_X12, by decide +kernel, by decide +kernel, by decide +kernel⟩, (wtm_5 126 (by decide +kernel) (by decide +kernel)), (wtm_5 127 (by decide +kernel) (by decide +kernel))⟩
theorem lk_X12_setWayRate : LkV yX12_setWayRate cX12_setWayRate 2 (some .int) 1 := ⟨⟨(wtm_5 146 (by decide +kernel) (by decide +kernel)), ini_X12, by decide +kernel, by decide +kernel, by decide +kernel⟩, (wtm_5 144 (by decide +kernel) (by decide +kernel)), (wtm_5 145 (by decide +kernel) (by decide +kernel))⟩
theorem lk_X12_addCourier : LkV yX12_addCourier cX12_addCourier 2 (some .int) 1 := ⟨⟨(wtm_5 161 (by decide +kernel) (by decide +kernel)), ini_X12, by decide +kernel, by decide +kernel, by decide +kernel⟩, (wtm_5 159 (by decide +kernel) (by decide +kernel)), (wtm_5 160 (by decide +kernel) (by decide +kernel))⟩
theorem lk_X12_addCrate : LkV yX12_addCrate cX12_addCrate 3 (some .int) 2 := ⟨⟨(wtm_5 176 (by decide +kernel) (by decide +kernel)), ini_X12, by decide +kernel, by decide +kernel, by decide +kernel⟩, (wtm_5 174 (by decide +kernel) (by decide +kernel)), (wtm_5 175 (by decide +kernel) (by decide +kernel))⟩
theorem lk_X12_addWork : LkV yX12_addWork cX12_addWork 6 (some .int) 5 := ⟨⟨(wtm_5 191 (by decide +kernel) (by decide +kernel)), ini_X12, by decide +kernel, by decide +kernel, by decide +kernel⟩, (wtm_5 189 (by decide +kernel) (by decide +kernel)), (wtm_5 190 (by decide +kernel) (by decide +kernel))⟩
theorem lk_X12_open : LkV yX12_open cX12_open 2 (some .int) 1 := ⟨⟨(wtm_5 207 (by decide +kernel) (by decide +kernel)), ini_X12, by decide +kernel, by decide +kernel, by decide +kernel⟩, (wtm_5 205 (by decide +kernel) (by decide +kernel)), (wtm_5 206 (by decide +kernel) (by decide +kernel))⟩
theorem lk_X12_close : LkV yX12_close cX12_close 2 (some .int) 1 := ⟨⟨(wtm_5 214 (by decide +kernel) (by decide +kernel)), ini_X12, by decide +kernel, by decide +kernel, by decide +kernel⟩, (wtm_5 212 (by decide +kernel) (by decide +kernel)), (wtm_5 213 (by decide +kernel) (by decide +kernel))⟩
theorem lk_X12_nest : LkV yX12_nest cX12_nest 3 (some .int) 2 := ⟨⟨(wtm_5 221 (by decide +kernel) (by decide +kernel)), ini_X12, by decide +kernel, by decide +kernel, by decide +kernel⟩, (wtm_5 219 (by decide +kernel) (by decide +kernel)), (wtm_5 220 (by decide +kernel) (by decide +kernel))⟩
theorem lk_X12_takeOut : LkV yX12_takeOut cX12_takeOut 2 (some .int) 1 := ⟨⟨(wtm_5 228 (by decide +kernel) (by decide +kernel)), ini_X12, by decide +kernel, by decide +kernel, by decide +kernel⟩, (wtm_5 226 (by decide +kernel) (by decide +kernel)), (wtm_5 227 (by decide +kernel) (by decide +kernel))⟩
theorem lk_X12_pack : LkV yX12_pack cX12_pack 3 (some .int) 2 := ⟨⟨(wtm_5 235 (by decide +kernel) (by decide +kernel)), ini_X12, by decide +kernel, by decide +kernel, by decide +kernel⟩, (wtm_5 233 (by decide +kernel) (by decide +kernel)), (wtm_5 234 (by decide +kernel) (by decide +kernel))⟩
theorem lk_X12_unpack : LkV yX12_unpack cX12_unpack 2 (some .int) 1 := ⟨⟨(wtm_6 2 (by decide +kernel) (by decide +kernel)), ini_X12, by decide +kernel, by decide +kernel, by decide +kernel⟩, (wtm_6 0 (by decide +kernel) (by decide +kernel)), (wtm_6 1 (by decide +kernel) (by decide +kernel))⟩
theorem lk_X12_send : LkV yX12_send cX12_send 4 (some .int) 3 := ⟨⟨(wtm_6 9 (by decide +kernel) (by decide +kernel)), ini_X12, by decide +kernel, by decide +kernel, by decide +kernel⟩, (wtm_6 7 (by decide +kernel) (by decide +kernel)), (wtm_6 8 (by decide +kernel) (by decide +kernel))⟩
theorem lk_X12_advance : LkV yX12_advance cX12_advance 2 (some .int) 1 := ⟨⟨(wtm_6 16 (by decide +kernel) (by decide +kernel)), ini_X12, by decide +kernel, by decide +kernel, by decide +kernel⟩, (wtm_6 14 (by decide +kernel) (by decide +kernel)), (wtm_6 15 (by decide +kernel) (by decide +kernel))⟩
theorem lk_X12_refusal : LkV yX12_refusal cX12_refusal 4 (some .int) 3 := ⟨⟨(wtm_6 23 (by decide +kernel) (by decide +kernel)), ini_X12, by decide +kernel, by decide +kernel, by decide +kernel⟩, (wtm_6 21 (by decide +kernel) (by decide +kernel)), (wtm_6 22 (by decide +kernel) (by decide +kernel))⟩
theorem lk_X12_crate : LkV yX12_crate cX12_crate 3 (some .int) 2 := ⟨⟨(wtm_6 32 (by decide +kernel) (by decide +kernel)), ini_X12, by decide +kernel, by decide +kernel, by decide +kernel⟩, (wtm_6 30 (by decide +kernel) (by decide +kernel)), (wtm_6 31 (by decide +kernel) (by decide +kernel))⟩
theorem lk_X12_work : LkV yX12_work cX12_work 3 (some .int) 2 := ⟨⟨(wtm_6 44 (by decide +kernel) (by decide +kernel)), ini_X12, by decide +kernel, by decide +kernel, by decide +kernel⟩, (wtm_6 42 (by decide +kernel) (by decide +kernel)), (wtm_6 43 (by decide +kernel) (by decide +kernel))⟩
theorem lk_X12_noted : LkV yX12_noted cX12_noted 3 (some .int) 2 := ⟨⟨(wtm_6 52 (by decide +kernel) (by decide +kernel)), ini_X12, by decide +kernel, by decide +kernel, by decide +kernel⟩, (wtm_6 50 (by decide +kernel) (by decide +kernel)), (wtm_6 51 (by decide +kernel) (by decide +kernel))⟩
theorem lk_X12_venue : LkV yX12_venue cX12_venue 3 (some .int) 2 := ⟨⟨(wtm_6 63 (by decide +kernel) (by decide +kernel)), ini_X12, by decide +kernel, by decide +kernel, by decide +kernel⟩, (wtm_6 61 (by decide +kernel) (by decide +kernel)), (wtm_6 62 (by decide +kernel) (by decide +kernel))⟩
theorem lk_X12_courier : LkV yX12_courier cX12_courier 2 (some .int) 1 := ⟨⟨(wtm_6 71 (by decide +kernel) (by decide +kernel)), ini_X12, by decide +kernel, by decide +kernel, by decide +kernel⟩, (wtm_6 69 (by decide +kernel) (by decide +kernel)), (wtm_6 70 (by decide +kernel) (by decide +kernel))⟩
theorem lk_X12_whole : LkV yX12_whole cX12_whole 2 (some .int) 1 := ⟨⟨(wtm_6 80 (by decide +kernel) (by decide +kernel)), ini_X12, by decide +kernel, by decide +kernel, by decide +kernel⟩, (wtm_6 78 (by decide +kernel) (by decide +kernel)), (wtm_6 79 (by decide +kernel) (by decide +kernel))⟩
theorem lk_X12_readyAt : LkV yX12_readyAt cX12_readyAt 2 (some .int) 1 := ⟨⟨(wtm_6 87 (by decide +kernel) (by decide +kernel)), ini_X12, by decide +kernel, by decide +kernel, by decide +kernel⟩, (wtm_6 85 (by decide +kernel) (by decide +kernel)), (wtm_6 86 (by decide +kernel) (by decide +kernel))⟩
theorem lk_X12_allReadyAt : LkV yX12_allReadyAt cX12_allReadyAt 2 (some .int) 1 := ⟨⟨(wtm_6 94 (by decide +kernel) (by decide +kernel)), ini_X12, by decide +kernel, by decide +kernel, by decide +kernel⟩, (wtm_6 92 (by decide +kernel) (by decide +kernel)), (wtm_6 93 (by decide +kernel) (by decide +kernel))⟩
theorem lk_X12_bestVenue : LkV yX12_bestVenue cX12_bestVenue 3 (some .int) 2 := ⟨⟨(wtm_6 101 (by decide +kernel) (by decide +kernel)), ini_X12, by decide +kernel, by decide +kernel, by decide +kernel⟩, (wtm_6 99 (by decide +kernel) (by decide +kernel)), (wtm_6 100 (by decide +kernel) (by decide +kernel))⟩
theorem lk_X12_type : LkV yX12_type cX12_type 2 (some .int) 1 := ⟨⟨(wtm_6 119 (by decide +kernel) (by decide +kernel)), ini_X12, by decide +kernel, by decide +kernel, by decide +kernel⟩, (wtm_6 117 (by decide +kernel) (by decide +kernel)), (wtm_6 118 (by decide +kernel) (by decide +kernel))⟩
theorem lk_X12_clearCommands : LkV yX12_clearCommands cX12_clearCommands 1 (some .int) 0 := ⟨⟨(wtm_2 187 (by decide +kernel) (by decide +kernel)), ini_X12, by decide +kernel, by decide +kernel, by decide +kernel⟩, (wtm_2 185 (by decide +kernel) (by decide +kernel)), (wtm_2 186 (by decide +kernel) (by decide +kernel))⟩
theorem lk_X12_wrongWith : LkV yX12_wrongWith cX12_wrongWith 3 (some .int) 2 := ⟨⟨(wtm_3 84 (by decide +kernel) (by decide +kernel)), ini_X12, by decide +kernel, by decide +kernel, by decide +kernel⟩, (wtm_3 83 (by decide +kernel) (by decide +kernel)), (wtp 9 (q := 7) (by decide +kernel))⟩
theorem lk_X12_perform : LkV yX12_perform cX12_perform 3 (some .int) 2 := ⟨⟨(wtm_4 15 (by decide +kernel) (by decide +kernel)), ini_X12, by decide +kernel, by decide +kernel, by decide +kernel⟩, (wtm_4 14 (by decide +kernel) (by decide +kernel)), (wtp 18 (q := 7) (by decide +kernel))⟩
theorem lk_X12_runCommands : LkV yX12_runCommands cX12_runCommands 3 (some .int) 0 := ⟨⟨(wtm_2 195 (by decide +kernel) (by decide +kernel)), ini_X12, by decide +kernel, by decide +kernel, by decide +kernel⟩, (wtm_2 193 (by decide +kernel) (by decide +kernel)), (wtm_2 194 (by decide +kernel) (by decide +kernel))⟩
theorem lk_X12_undo : LkV yX12_undo cX12_undo 1 (some .int) 0 := ⟨⟨(wtm_6 134 (by decide +kernel) (by decide +kernel)), ini_X12, by decide +kernel, by decide +kernel, by decide +kernel⟩, (wtm_6 132 (by decide +kernel) (by decide +kernel)), (wtm_6 133 (by decide +kernel) (by decide +kernel))⟩
theorem lk_X12_mixed : LkS yX12_mixed cX12_mixed 4 (some .long) 2 := ⟨⟨(wtm_4 100 (by decide +kernel) (by decide +kernel)), ini_X12, by decide +kernel, by decide +kernel, by decide +kernel⟩, (wtm_4 99 (by decide +kernel) (by decide +kernel))⟩
theorem lk_X12_withVenues : LkV yX12_withVenues cX12_withVenues 7 (some .long) 1 := ⟨⟨(wtm_4 118 (by decide +kernel) (by decide +kernel)), ini_X12, by decide +kernel, by decide +kernel, by decide +kernel⟩, (wtm_4 117 (by decide +kernel) (by decide +kernel)), (wtp 24 (q := 7) (by decide +kernel))⟩
theorem lk_X12_withCrates : LkV yX12_withCrates cX12_withCrates 7 (some .long) 1 := ⟨⟨(wtm_4 136 (by decide +kernel) (by decide +kernel)), ini_X12, by decide +kernel, by decide +kernel, by decide +kernel⟩, (wtm_4 135 (by decide +kernel) (by decide +kernel)), (wtp 27 (q := 7) (by decide +kernel))⟩
theorem lk_X12_withWorks : LkV yX12_withWorks cX12_withWorks 7 (some .long) 1 := ⟨⟨(wtm_4 193 (by decide +kernel) (by decide +kernel)), ini_X12, by decide +kernel, by decide +kernel, by decide +kernel⟩, (wtm_4 192 (by decide +kernel) (by decide +kernel)), (wtp 33 (q := 7) (by decide +kernel))⟩
theorem lk_X12_digest : LkV yX12_digest cX12_digest 4 (some .long) 0 := ⟨⟨(wtm_4 96 (by decide +kernel) (by decide +kernel)), ini_X12, by decide +kernel, by decide +kernel, by decide +kernel⟩, (wtm_4 94 (by decide +kernel) (by decide +kernel)), (wtm_4 95 (by decide +kernel) (by decide +kernel))⟩
theorem lk_X13_init : LkI yX13_init cX13_init 2 0 := ⟨⟨(wtm_6 143 (by decide +kernel) (by decide +kernel)), ini_X13, by decide +kernel, by decide +kernel, by decide +kernel⟩, (wtm_6 142 (by decide +kernel) (by decide +kernel)), rfl⟩
theorem lk_X13_thrown : LkV yX13_thrown cX13_thrown 1 (some .int) 0 := ⟨⟨(wtm_6 182 (by decide +kernel) (by decide +kernel)), ini_X13, by decide +kernel, by decide +kernel, by decide +kernel⟩, (wtm_6 180 (by decide +kernel) (by decide +kernel)), (wtm_6 181 (by decide +kernel) (by decide +kernel))⟩
theorem lk_X13_in : LkS yX13_in cX13_in 3 (some .boolean) 3 := ⟨⟨(wtm_6 192 (by decide +kernel) (by decide +kernel)), ini_X13, by decide +kernel, by decide +kernel, by decide +kernel⟩, (wtm_6 191 (by decide +kernel) (by decide +kernel))⟩
theorem lk_X13_size : LkS yX13_size cX13_size 1 (some .int) 1 := ⟨⟨(wtm_7 44 (by decide +kernel) (by decide +kernel)), ini_X13, by decide +kernel, by decide +kernel, by decide +kernel⟩, (wtm_7 43 (by decide +kernel) (by decide +kernel))⟩
theorem lk_X13_greater : LkS yX13_greater cX13_greater 2 (some .int) 2 := ⟨⟨(wtm_8 59 (by decide +kernel) (by decide +kernel)), ini_X13, by decide +kernel, by decide +kernel, by decide +kernel⟩, (wtm_8 58 (by decide +kernel) (by decide +kernel))⟩
theorem lk_X13_keep : LkV yX13_keep cX13_keep 2 none 0 := ⟨⟨(wtm_6 197 (by decide +kernel) (by decide +kernel)), ini_X13, by decide +kernel, by decide +kernel, by decide +kernel⟩, (wtm_6 196 (by decide +kernel) (by decide +kernel)), (wtp 36 (q := 11) (by decide +kernel))⟩
theorem lk_X13_isVenue : LkV yX13_isVenue cX13_isVenue 2 (some .boolean) 1 := ⟨⟨(wtm_6 205 (by decide +kernel) (by decide +kernel)), ini_X13, by decide +kernel, by decide +kernel, by decide +kernel⟩, (wtm_6 204 (by decide +kernel) (by decide +kernel)), (wtp 37 (q := 11) (by decide +kernel))⟩
theorem lk_X13_isCrate : LkV yX13_isCrate cX13_isCrate 2 (some .boolean) 1 := ⟨⟨(wtm_7 17 (by decide +kernel) (by decide +kernel)), ini_X13, by decide +kernel, by decide +kernel, by decide +kernel⟩, (wtm_7 16 (by decide +kernel) (by decide +kernel)), (wtp 42 (q := 11) (by decide +kernel))⟩
theorem lk_X13_isWork : LkV yX13_isWork cX13_isWork 2 (some .boolean) 1 := ⟨⟨(wtm_7 120 (by decide +kernel) (by decide +kernel)), ini_X13, by decide +kernel, by decide +kernel, by decide +kernel⟩, (wtm_7 119 (by decide +kernel) (by decide +kernel)), (wtp 63 (q := 11) (by decide +kernel))⟩
theorem lk_X13_isCourier : LkV yX13_isCourier cX13_isCourier 2 (some .boolean) 1 := ⟨⟨(wtm_7 152 (by decide +kernel) (by decide +kernel)), ini_X13, by decide +kernel, by decide +kernel, by decide +kernel⟩, (wtm_7 151 (by decide +kernel) (by decide +kernel)), (wtp 69 (q := 11) (by decide +kernel))⟩
theorem lk_X13_ofVenue : LkV yX13_ofVenue cX13_ofVenue 3 (some .int) 2 := ⟨⟨(wtm_6 213 (by decide +kernel) (by decide +kernel)), ini_X13, by decide +kernel, by decide +kernel, by decide +kernel⟩, (wtm_6 212 (by decide +kernel) (by decide +kernel)), (wtp 38 (q := 11) (by decide +kernel))⟩
theorem lk_X13_of : LkV yX13_of cX13_of 3 (some .int) 2 := ⟨⟨(wtm_7 25 (by decide +kernel) (by decide +kernel)), ini_X13, by decide +kernel, by decide +kernel, by decide +kernel⟩, (wtm_7 24 (by decide +kernel) (by decide +kernel)), (wtp 44 (q := 11) (by decide +kernel))⟩
theorem lk_X13_put : LkV yX13_put cX13_put 4 none 3 := ⟨⟨(wtm_6 236 (by decide +kernel) (by decide +kernel)), ini_X13, by decide +kernel, by decide +kernel, by decide +kernel⟩, (wtm_6 235 (by decide +kernel) (by decide +kernel)), (wtp 39 (q := 11) (by decide +kernel))⟩
theorem lk_X13_ofWork : LkV yX13_ofWork cX13_ofWork 3 (some .int) 2 := ⟨⟨(wtm_7 56 (by decide +kernel) (by decide +kernel)), ini_X13, by decide +kernel, by decide +kernel, by decide +kernel⟩, (wtm_7 55 (by decide +kernel) (by decide +kernel)), (wtp 51 (q := 11) (by decide +kernel))⟩
theorem lk_X13_putWork : LkV yX13_putWork cX13_putWork 4 none 3 := ⟨⟨(wtm_7 5 (by decide +kernel) (by decide +kernel)), ini_X13, by decide +kernel, by decide +kernel, by decide +kernel⟩, (wtm_7 4 (by decide +kernel) (by decide +kernel)), (wtp 40 (q := 11) (by decide +kernel))⟩
theorem lk_X13_isOpen : LkV yX13_isOpen cX13_isOpen 2 (some .boolean) 1 := ⟨⟨(wtm_7 21 (by decide +kernel) (by decide +kernel)), ini_X13, by decide +kernel, by decide +kernel, by decide +kernel⟩, (wtm_7 20 (by decide +kernel) (by decide +kernel)), (wtp 43 (q := 11) (by decide +kernel))⟩
theorem lk_X13_outermost : LkV yX13_outermost cX13_outermost 3 (some .int) 1 := ⟨⟨(wtm_7 37 (by decide +kernel) (by decide +kernel)), ini_X13, by decide +kernel, by decide +kernel, by decide +kernel⟩, (wtm_7 36 (by decide +kernel) (by decide +kernel)), (wtp 47 (q := 11) (by decide +kernel))⟩
theorem lk_X13_venueOf : LkV yX13_venueOf cX13_venueOf 2 (some .int) 1 := ⟨⟨(wtm_7 33 (by decide +kernel) (by decide +kernel)), ini_X13, by decide +kernel, by decide +kernel, by decide +kernel⟩, (wtm_7 32 (by decide +kernel) (by decide +kernel)), (wtp 46 (q := 11) (by decide +kernel))⟩
theorem lk_X13_isReached : LkV yX13_isReached cX13_isReached 4 (some .boolean) 1 := ⟨⟨(wtm_7 29 (by decide +kernel) (by decide +kernel)), ini_X13, by decide +kernel, by decide +kernel, by decide +kernel⟩, (wtm_7 28 (by decide +kernel) (by decide +kernel)), (wtp 45 (q := 11) (by decide +kernel))⟩
theorem lk_X13_isWithin : LkV yX13_isWithin cX13_isWithin 4 (some .boolean) 2 := ⟨⟨(wtm_7 76 (by decide +kernel) (by decide +kernel)), ini_X13, by decide +kernel, by decide +kernel, by decide +kernel⟩, (wtm_7 75 (by decide +kernel) (by decide +kernel)), (wtp 55 (q := 11) (by decide +kernel))⟩
theorem lk_X13_standsIn : LkV yX13_standsIn cX13_standsIn 2 (some .int) 1 := ⟨⟨(wtm_7 172 (by decide +kernel) (by decide +kernel)), ini_X13, by decide +kernel, by decide +kernel, by decide +kernel⟩, (wtm_7 171 (by decide +kernel) (by decide +kernel)), (wtp 74 (q := 11) (by decide +kernel))⟩
theorem lk_X13_goesTo : LkV yX13_goesTo cX13_goesTo 3 (some .int) 1 := ⟨⟨(wtm_7 176 (by decide +kernel) (by decide +kernel)), ini_X13, by decide +kernel, by decide +kernel, by decide +kernel⟩, (wtm_7 175 (by decide +kernel) (by decide +kernel)), (wtp 75 (q := 11) (by decide +kernel))⟩
theorem lk_X13_worksIn : LkV yX13_worksIn cX13_worksIn 5 (some .int) 2 := ⟨⟨(wtm_7 72 (by decide +kernel) (by decide +kernel)), ini_X13, by decide +kernel, by decide +kernel, by decide +kernel⟩, (wtm_7 71 (by decide +kernel) (by decide +kernel)), (wtp 54 (q := 11) (by decide +kernel))⟩
theorem lk_X13_directWorks : LkV yX13_directWorks cX13_directWorks 4 (some .int) 1 := ⟨⟨(wtm_7 52 (by decide +kernel) (by decide +kernel)), ini_X13, by decide +kernel, by decide +kernel, by decide +kernel⟩, (wtm_7 51 (by decide +kernel) (by decide +kernel)), (wtp 50 (q := 11) (by decide +kernel))⟩
theorem lk_X13_directCrates : LkV yX13_directCrates cX13_directCrates 4 (some .int) 1 := ⟨⟨(wtm_7 96 (by decide +kernel) (by decide +kernel)), ini_X13, by decide +kernel, by decide +kernel, by decide +kernel⟩, (wtm_7 95 (by decide +kernel) (by decide +kernel)), (wtp 59 (q := 11) (by decide +kernel))⟩
theorem lk_X13_isClimate : LkS yX13_isClimate cX13_isClimate 2 (some .boolean) 2 := ⟨⟨(wtm_6 189 (by decide +kernel) (by decide +kernel)), ini_X13, by decide +kernel, by decide +kernel, by decide +kernel⟩, (wtm_6 188 (by decide +kernel) (by decide +kernel))⟩
theorem lk_X13_addVenue : LkV yX13_addVenue cX13_addVenue 7 (some .int) 4 := ⟨⟨(wtm_6 186 (by decide +kernel) (by decide +kernel)), ini_X13, by decide +kernel, by decide +kernel, by decide +kernel⟩, (wtm_6 184 (by decide +kernel) (by decide +kernel)), (wtm_6 185 (by decide +kernel) (by decide +kernel))⟩
theorem lk_X13_setClimate : LkV yX13_setClimate cX13_setClimate 6 (some .int) 3 := ⟨⟨(wtm_6 201 (by decide +kernel) (by decide +kernel)), ini_X13, by decide +kernel, by decide +kernel, by decide +kernel⟩, (wtm_6 199 (by decide +kernel) (by decide +kernel)), (wtm_6 200 (by decide +kernel) (by decide +kernel))⟩
theorem lk_X13_setWay : LkV yX13_setWay cX13_setWay 5 (some .int) 3 := ⟨⟨(wtm_6 209 (by decide +kernel) (by decide +kernel)), ini_X13, by decide +kernel, by decide +kernel, by decide +kernel⟩, (wtm_6 207 (by decide +kernel) (by decide +kernel)), (wtm_6 208 (by decide +kernel) (by decide +kernel))⟩
theorem lk_X13_isLent : LkS yX13_isLent cX13_isLent 2 (some .boolean) 2 := ⟨⟨(wtm_6 220 (by decide +kernel) (by decide +kernel)), ini_X13, by decide +kernel, by decide +kernel, by decide +kernel⟩, (wtm_6 219 (by decide +kernel) (by decide +kernel))⟩
theorem lk_X13_setLender : LkV yX13_setLender cX13_setLender 5 (some .int) 3 := ⟨⟨(wtm_6 217 (by decide +kernel) (by decide +kernel)), ini_X13, by decide +kernel, by decide +kernel, by decide +kernel⟩, (wtm_6 215 (by decide +kernel) (by decide +kernel)), (wtm_6 216 (by decide +kernel) (by decide +kernel))⟩
theorem lk_X13_setWayRate : LkV yX13_setWayRate cX13_setWayRate 3 (some .int) 1 := ⟨⟨(wtm_6 224 (by decide +kernel) (by decide +kernel)), ini_X13, by decide +kernel, by decide +kernel, by decide +kernel⟩, (wtm_6 222 (by decide +kernel) (by decide +kernel)), (wtm_6 223 (by decide +kernel) (by decide +kernel))⟩
theorem lk_X13_addCourier : LkV yX13_addCourier cX13_addCourier 2 (some .int) 1 := ⟨⟨(wtm_6 228 (by decide +kernel) (by decide +kernel)), ini_X13, by decide +kernel, by decide +kernel, by decide +kernel⟩, (wtm_6 226 (by decide +kernel) (by decide +kernel)), (wtm_6 227 (by decide +kernel) (by decide +kernel))⟩
theorem lk_X13_addCrate : LkV yX13_addCrate cX13_addCrate 4 (some .int) 2 := ⟨⟨(wtm_6 232 (by decide +kernel) (by decide +kernel)), ini_X13, by decide +kernel, by decide +kernel, by decide +kernel⟩, (wtm_6 230 (by decide +kernel) (by decide +kernel)), (wtm_6 231 (by decide +kernel) (by decide +kernel))⟩
theorem lk_X13_addWork : LkV yX13_addWork cX13_addWork 8 (some .int) 5 := ⟨⟨(wtm_7 0 (by decide +kernel) (by decide +kernel)), ini_X13, by decide +kernel, by decide +kernel, by decide +kernel⟩, (wtm_6 238 (by decide +kernel) (by decide +kernel)), (wtm_6 239 (by decide +kernel) (by decide +kernel))⟩
theorem lk_X13_needs : LkV yX13_needs cX13_needs 4 (some .int) 2 := ⟨⟨(wtm_7 41 (by decide +kernel) (by decide +kernel)), ini_X13, by decide +kernel, by decide +kernel, by decide +kernel⟩, (wtm_7 40 (by decide +kernel) (by decide +kernel)), (wtp 48 (q := 11) (by decide +kernel))⟩
theorem lk_X13_notOpen : LkV yX13_notOpen cX13_notOpen 3 (some .int) 1 := ⟨⟨(wtm_7 13 (by decide +kernel) (by decide +kernel)), ini_X13, by decide +kernel, by decide +kernel, by decide +kernel⟩, (wtm_7 12 (by decide +kernel) (by decide +kernel)), (wtp 41 (q := 11) (by decide +kernel))⟩
theorem lk_X13_opens : LkV yX13_opens cX13_opens 3 (some .int) 1 := ⟨⟨(wtm_7 48 (by decide +kernel) (by decide +kernel)), ini_X13, by decide +kernel, by decide +kernel, by decide +kernel⟩, (wtm_7 47 (by decide +kernel) (by decide +kernel)), (wtp 49 (q := 11) (by decide +kernel))⟩
theorem lk_X13_open : LkV yX13_open cX13_open 2 (some .int) 1 := ⟨⟨(wtm_7 9 (by decide +kernel) (by decide +kernel)), ini_X13, by decide +kernel, by decide +kernel, by decide +kernel⟩, (wtm_7 7 (by decide +kernel) (by decide +kernel)), (wtm_7 8 (by decide +kernel) (by decide +kernel))⟩
theorem lk_X13_notClose : LkV yX13_notClose cX13_notClose 4 (some .int) 1 := ⟨⟨(wtm_7 64 (by decide +kernel) (by decide +kernel)), ini_X13, by decide +kernel, by decide +kernel, by decide +kernel⟩, (wtm_7 63 (by decide +kernel) (by decide +kernel)), (wtp 52 (q := 11) (by decide +kernel))⟩
theorem lk_X13_closes : LkV yX13_closes cX13_closes 2 (some .int) 1 := ⟨⟨(wtm_7 68 (by decide +kernel) (by decide +kernel)), ini_X13, by decide +kernel, by decide +kernel, by decide +kernel⟩, (wtm_7 67 (by decide +kernel) (by decide +kernel)), (wtp 53 (q := 11) (by decide +kernel))⟩
theorem lk_X13_close : LkV yX13_close cX13_close 2 (some .int) 1 := ⟨⟨(wtm_7 60 (by decide +kernel) (by decide +kernel)), ini_X13, by decide +kernel, by decide +kernel, by decide +kernel⟩, (wtm_7 58 (by decide +kernel) (by decide +kernel)), (wtm_7 59 (by decide +kernel) (by decide +kernel))⟩
theorem lk_X13_isForUse : LkV yX13_isForUse cX13_isForUse 3 (some .boolean) 2 := ⟨⟨(wtm_7 88 (by decide +kernel) (by decide +kernel)), ini_X13, by decide +kernel, by decide +kernel, by decide +kernel⟩, (wtm_7 87 (by decide +kernel) (by decide +kernel)), (wtp 57 (q := 11) (by decide +kernel))⟩
theorem lk_X13_notNest : LkV yX13_notNest cX13_notNest 4 (some .int) 2 := ⟨⟨(wtm_7 84 (by decide +kernel) (by decide +kernel)), ini_X13, by decide +kernel, by decide +kernel, by decide +kernel⟩, (wtm_7 83 (by decide +kernel) (by decide +kernel)), (wtp 56 (q := 11) (by decide +kernel))⟩
theorem lk_X13_nests : LkV yX13_nests cX13_nests 3 (some .int) 2 := ⟨⟨(wtm_7 92 (by decide +kernel) (by decide +kernel)), ini_X13, by decide +kernel, by decide +kernel, by decide +kernel⟩, (wtm_7 91 (by decide +kernel) (by decide +kernel)), (wtp 58 (q := 11) (by decide +kernel))⟩
theorem lk_X13_nest : LkV yX13_nest cX13_nest 3 (some .int) 2 := ⟨⟨(wtm_7 80 (by decide +kernel) (by decide +kernel)), ini_X13, by decide +kernel, by decide +kernel, by decide +kernel⟩, (wtm_7 78 (by decide +kernel) (by decide +kernel)), (wtm_7 79 (by decide +kernel) (by decide +kernel))⟩
theorem lk_X13_notTakeOut : LkV yX13_notTakeOut cX13_notTakeOut 2 (some .int) 1 := ⟨⟨(wtm_7 104 (by decide +kernel) (by decide +kernel)), ini_X13, by decide +kernel, by decide +kernel, by decide +kernel⟩, (wtm_7 103 (by decide +kernel) (by decide +kernel)), (wtp 60 (q := 11) (by decide +kernel))⟩
theorem lk_X13_takesOut : LkV yX13_takesOut cX13_takesOut 3 (some .int) 1 := ⟨⟨(wtm_7 108 (by decide +kernel) (by decide +kernel)), ini_X13, by decide +kernel, by decide +kernel, by decide +kernel⟩, (wtm_7 107 (by decide +kernel) (by decide +kernel)), (wtp 61 (q := 11) (by decide +kernel))⟩
theorem lk_X13_takeOut : LkV yX13_takeOut cX13_takeOut 2 (some .int) 1 := ⟨⟨(wtm_7 100 (by decide +kernel) (by decide +kernel)), ini_X13, by decide +kernel, by decide +kernel, by decide +kernel⟩, (wtm_7 98 (by decide +kernel) (by decide +kernel)), (wtm_7 99 (by decide +kernel) (by decide +kernel))⟩
theorem lk_X13_notPack : LkV yX13_notPack cX13_notPack 3 (some .int) 2 := ⟨⟨(wtm_7 116 (by decide +kernel) (by decide +kernel)), ini_X13, by decide +kernel, by decide +kernel, by decide +kernel⟩, (wtm_7 115 (by decide +kernel) (by decide +kernel)), (wtp 62 (q := 11) (by decide +kernel))⟩
theorem lk_X13_packs : LkV yX13_packs cX13_packs 3 (some .int) 2 := ⟨⟨(wtm_7 124 (by decide +kernel) (by decide +kernel)), ini_X13, by decide +kernel, by decide +kernel, by decide +kernel⟩, (wtm_7 123 (by decide +kernel) (by decide +kernel)), (wtp 64 (q := 11) (by decide +kernel))⟩
theorem lk_X13_pack : LkV yX13_pack cX13_pack 3 (some .int) 2 := ⟨⟨(wtm_7 112 (by decide +kernel) (by decide +kernel)), ini_X13, by decide +kernel, by decide +kernel, by decide +kernel⟩, (wtm_7 110 (by decide +kernel) (by decide +kernel)), (wtm_7 111 (by decide +kernel) (by decide +kernel))⟩
theorem lk_X13_notUnpack : LkV yX13_notUnpack cX13_notUnpack 3 (some .int) 1 := ⟨⟨(wtm_7 132 (by decide +kernel) (by decide +kernel)), ini_X13, by decide +kernel, by decide +kernel, by decide +kernel⟩, (wtm_7 131 (by decide +kernel) (by decide +kernel)), (wtp 65 (q := 11) (by decide +kernel))⟩
theorem lk_X13_unpacks : LkV yX13_unpacks cX13_unpacks 2 (some .int) 1 := ⟨⟨(wtm_7 136 (by decide +kernel) (by decide +kernel)), ini_X13, by decide +kernel, by decide +kernel, by decide +kernel⟩, (wtm_7 135 (by decide +kernel) (by decide +kernel)), (wtp 66 (q := 11) (by decide +kernel))⟩
theorem lk_X13_unpack : LkV yX13_unpack cX13_unpack 2 (some .int) 1 := ⟨⟨(wtm_7 128 (by decide +kernel) (by decide +kernel)), ini_X13, by decide +kernel, by decide +kernel, by decide +kernel⟩, (wtm_7 126 (by decide +kernel) (by decide +kernel)), (wtm_7 127 (by decide +kernel) (by decide +kernel))⟩
theorem lk_X13_lenderRefuses : LkV yX13_lenderRefuses cX13_lenderRefuses 5 (some .int) 2 := ⟨⟨(wtm_7 164 (by decide +kernel) (by decide +kernel)), ini_X13, by decide +kernel, by decide +kernel, by decide +kernel⟩, (wtm_7 163 (by decide +kernel) (by decide +kernel)), (wtp 72 (q := 11) (by decide +kernel))⟩
theorem lk_X13_valuesFor : LkV yX13_valuesFor cX13_valuesFor 7 (some .long) 2 := ⟨⟨(wtm_7 168 (by decide +kernel) (by decide +kernel)), ini_X13, by decide +kernel, by decide +kernel, by decide +kernel⟩, (wtm_7 167 (by decide +kernel) (by decide +kernel)), (wtp 73 (q := 11) (by decide +kernel))⟩
theorem lk_X13_worksRefuse : LkV yX13_worksRefuse cX13_worksRefuse 6 (some .int) 2 := ⟨⟨(wtm_7 160 (by decide +kernel) (by decide +kernel)), ini_X13, by decide +kernel, by decide +kernel, by decide +kernel⟩, (wtm_7 159 (by decide +kernel) (by decide +kernel)), (wtp 71 (q := 11) (by decide +kernel))⟩
theorem lk_X13_isEscorted : LkV yX13_isEscorted cX13_isEscorted 4 (some .boolean) 1 := ⟨⟨(wtm_7 180 (by decide +kernel) (by decide +kernel)), ini_X13, by decide +kernel, by decide +kernel, by decide +kernel⟩, (wtm_7 179 (by decide +kernel) (by decide +kernel)), (wtp 76 (q := 11) (by decide +kernel))⟩
theorem lk_X13_reason : LkV yX13_reason cX13_reason 5 (some .int) 3 := ⟨⟨(wtm_7 156 (by decide +kernel) (by decide +kernel)), ini_X13, by decide +kernel, by decide +kernel, by decide +kernel⟩, (wtm_7 155 (by decide +kernel) (by decide +kernel)), (wtp 70 (q := 11) (by decide +kernel))⟩
theorem lk_X13_isSending : LkV yX13_isSending cX13_isSending 4 (some .boolean) 3 := ⟨⟨(wtm_7 148 (by decide +kernel) (by decide +kernel)), ini_X13, by decide +kernel, by decide +kernel, by decide +kernel⟩, (wtm_7 147 (by decide +kernel) (by decide +kernel)), (wtp 68 (q := 11) (by decide +kernel))⟩
theorem lk_X13_notSend : LkV yX13_notSend cX13_notSend 4 (some .int) 3 := ⟨⟨(wtm_7 144 (by decide +kernel) (by decide +kernel)), ini_X13, by decide +kernel, by decide +kernel, by decide +kernel⟩, (wtm_7 143 (by decide +kernel) (by decide +kernel)), (wtp 67 (q := 11) (by decide +kernel))⟩
theorem lk_X13_sends : LkV yX13_sends cX13_sends 4 (some .int) 3 := ⟨⟨(wtm_7 184 (by decide +kernel) (by decide +kernel)), ini_X13, by decide +kernel, by decide +kernel, by decide +kernel⟩, (wtm_7 183 (by decide +kernel) (by decide +kernel)), (wtp 77 (q := 11) (by decide +kernel))⟩
theorem lk_X13_send : LkV yX13_send cX13_send 4 (some .int) 3 := ⟨⟨(wtm_7 140 (by decide +kernel) (by decide +kernel)), ini_X13, by decide +kernel, by decide +kernel, by decide +kernel⟩, (wtm_7 138 (by decide +kernel) (by decide +kernel)), (wtm_7 139 (by decide +kernel) (by decide +kernel))⟩
theorem lk_X13_arrives : LkV yX13_arrives cX13_arrives 3 none 1 := ⟨⟨(wtm_7 203 (by decide +kernel) (by decide +kernel)), ini_X13, by decide +kernel, by decide +kernel, by decide +kernel⟩, (wtm_7 202 (by decide +kernel) (by decide +kernel)), (wtp 80 (q := 11) (by decide +kernel))⟩
theorem lk_X13_note : LkV yX13_note cX13_note 5 none 2 := ⟨⟨(wtm_7 212 (by decide +kernel) (by decide +kernel)), ini_X13, by decide +kernel, by decide +kernel, by decide +kernel⟩, (wtm_7 211 (by decide +kernel) (by decide +kernel)), (wtp 82 (q := 11) (by decide +kernel))⟩
theorem lk_X13_pays : LkV yX13_pays cX13_pays 6 none 1 := ⟨⟨(wtm_7 207 (by decide +kernel) (by decide +kernel)), ini_X13, by decide +kernel, by decide +kernel, by decide +kernel⟩, (wtm_7 206 (by decide +kernel) (by decide +kernel)), (wtp 81 (q := 11) (by decide +kernel))⟩
theorem lk_X13_hour : LkV yX13_hour cX13_hour 3 (some .int) 0 := ⟨⟨(wtm_7 199 (by decide +kernel) (by decide +kernel)), ini_X13, by decide +kernel, by decide +kernel, by decide +kernel⟩, (wtm_7 198 (by decide +kernel) (by decide +kernel)), (wtp 79 (q := 11) (by decide +kernel))⟩
theorem lk_X13_notAdvance : LkS yX13_notAdvance cX13_notAdvance 1 (some .int) 1 := ⟨⟨(wtm_7 191 (by decide +kernel) (by decide +kernel)), ini_X13, by decide +kernel, by decide +kernel, by decide +kernel⟩, (wtm_7 190 (by decide +kernel) (by decide +kernel))⟩
theorem lk_X13_advances : LkV yX13_advances cX13_advances 4 (some .int) 1 := ⟨⟨(wtm_7 195 (by decide +kernel) (by decide +kernel)), ini_X13, by decide +kernel, by decide +kernel, by decide +kernel⟩, (wtm_7 194 (by decide +kernel) (by decide +kernel)), (wtp 78 (q := 11) (by decide +kernel))⟩
theorem lk_X13_advance : LkV yX13_advance cX13_advance 2 (some .int) 1 := ⟨⟨(wtm_7 188 (by decide +kernel) (by decide +kernel)), ini_X13, by decide +kernel, by decide +kernel, by decide +kernel⟩, (wtm_7 186 (by decide +kernel) (by decide +kernel)), (wtm_7 187 (by decide +kernel) (by decide +kernel))⟩
theorem lk_X13_refusal : LkV yX13_refusal cX13_refusal 4 (some .int) 3 := ⟨⟨(wtm_7 216 (by decide +kernel) (by decide +kernel)), ini_X13, by decide +kernel, by decide +kernel, by decide +kernel⟩, (wtm_7 214 (by decide +kernel) (by decide +kernel)), (wtm_7 215 (by decide +kernel) (by decide +kernel))⟩
theorem lk_X13_cratesBelow : LkV yX13_cratesBelow cX13_cratesBelow 4 (some .int) 1 := ⟨⟨(wtm_7 228 (by decide +kernel) (by decide +kernel)), ini_X13, by decide +kernel, by decide +kernel, by decide +kernel⟩, (wtm_7 227 (by decide +kernel) (by decide +kernel)), (wtp 84 (q := 11) (by decide +kernel))⟩
theorem lk_X13_crateOf : LkV yX13_crateOf cX13_crateOf 4 (some .int) 2 := ⟨⟨(wtm_7 224 (by decide +kernel) (by decide +kernel)), ini_X13, by decide +kernel, by decide +kernel, by decide +kernel⟩, (wtm_7 223 (by decide +kernel) (by decide +kernel)), (wtp 83 (q := 11) (by decide +kernel))⟩
theorem lk_X13_crate : LkV yX13_crate cX13_crate 3 (some .int) 2 := ⟨⟨(wtm_7 220 (by decide +kernel) (by decide +kernel)), ini_X13, by decide +kernel, by decide +kernel, by decide +kernel⟩, (wtm_7 218 (by decide +kernel) (by decide +kernel)), (wtm_7 219 (by decide +kernel) (by decide +kernel))⟩
theorem lk_X13_around : LkV yX13_around cX13_around 4 (some .int) 1 := ⟨⟨(wtm_8 0 (by decide +kernel) (by decide +kernel)), ini_X13, by decide +kernel, by decide +kernel, by decide +kernel⟩, (wtm_7 239 (by decide +kernel) (by decide +kernel)), (wtp 86 (q := 11) (by decide +kernel))⟩
theorem lk_X13_workOf : LkV yX13_workOf cX13_workOf 3 (some .int) 2 := ⟨⟨(wtm_7 236 (by decide +kernel) (by decide +kernel)), ini_X13, by decide +kernel, by decide +kernel, by decide +kernel⟩, (wtm_7 235 (by decide +kernel) (by decide +kernel)), (wtp 85 (q := 11) (by decide +kernel))⟩
theorem lk_X13_work : LkV yX13_work cX13_work 3 (some .int) 2 := ⟨⟨(wtm_7 232 (by decide +kernel) (by decide +kernel)), ini_X13, by decide +kernel, by decide +kernel, by decide +kernel⟩, (wtm_7 230 (by decide +kernel) (by decide +kernel)), (wtm_7 231 (by decide +kernel) (by decide +kernel))⟩
theorem lk_X13_notedOf : LkV yX13_notedOf cX13_notedOf 3 (some .int) 2 := ⟨⟨(wtm_8 8 (by decide +kernel) (by decide +kernel)), ini_X13, by decide +kernel, by decide +kernel, by decide +kernel⟩, (wtm_8 7 (by decide +kernel) (by decide +kernel)), (wtp 87 (q := 11) (by decide +kernel))⟩
theorem lk_X13_noted : LkV yX13_noted cX13_noted 3 (some .int) 2 := ⟨⟨(wtm_8 4 (by decide +kernel) (by decide +kernel)), ini_X13, by decide +kernel, by decide +kernel, by decide +kernel⟩, (wtm_8 2 (by decide +kernel) (by decide +kernel)), (wtm_8 3 (by decide +kernel) (by decide +kernel))⟩
theorem lk_X13_valuesAt : LkV yX13_valuesAt cX13_valuesAt 5 (some .int) 2 := ⟨⟨(wtm_8 20 (by decide +kernel) (by decide +kernel)), ini_X13, by decide +kernel, by decide +kernel, by decide +kernel⟩, (wtm_8 19 (by decide +kernel) (by decide +kernel)), (wtp 89 (q := 11) (by decide +kernel))⟩
theorem lk_X13_cratesAt : LkV yX13_cratesAt cX13_cratesAt 4 (some .int) 1 := ⟨⟨(wtm_8 24 (by decide +kernel) (by decide +kernel)), ini_X13, by decide +kernel, by decide +kernel, by decide +kernel⟩, (wtm_8 23 (by decide +kernel) (by decide +kernel)), (wtp 90 (q := 11) (by decide +kernel))⟩
theorem lk_X13_couriersAt : LkV yX13_couriersAt cX13_couriersAt 4 (some .int) 1 := ⟨⟨(wtm_8 28 (by decide +kernel) (by decide +kernel)), ini_X13, by decide +kernel, by decide +kernel, by decide +kernel⟩, (wtm_8 27 (by decide +kernel) (by decide +kernel)), (wtp 91 (q := 11) (by decide +kernel))⟩
theorem lk_X13_venueOfWhat : LkV yX13_venueOfWhat cX13_venueOfWhat 3 (some .int) 2 := ⟨⟨(wtm_8 16 (by decide +kernel) (by decide +kernel)), ini_X13, by decide +kernel, by decide +kernel, by decide +kernel⟩, (wtm_8 15 (by decide +kernel) (by decide +kernel)), (wtp 88 (q := 11) (by decide +kernel))⟩
theorem lk_X13_venue : LkV yX13_venue cX13_venue 3 (some .int) 2 := ⟨⟨(wtm_8 12 (by decide +kernel) (by decide +kernel)), ini_X13, by decide +kernel, by decide +kernel, by decide +kernel⟩, (wtm_8 10 (by decide +kernel) (by decide +kernel)), (wtm_8 11 (by decide +kernel) (by decide +kernel))⟩
theorem lk_X13_courier : LkV yX13_courier cX13_courier 2 (some .int) 1 := ⟨⟨(wtm_8 32 (by decide +kernel) (by decide +kernel)), ini_X13, by decide +kernel, by decide +kernel, by decide +kernel⟩, (wtm_8 30 (by decide +kernel) (by decide +kernel)), (wtm_8 31 (by decide +kernel) (by decide +kernel))⟩
theorem lk_X13_onTheirWay : LkV yX13_onTheirWay cX13_onTheirWay 3 (some .int) 0 := ⟨⟨(wtm_8 44 (by decide +kernel) (by decide +kernel)), ini_X13, by decide +kernel, by decide +kernel, by decide +kernel⟩, (wtm_8 43 (by decide +kernel) (by decide +kernel)), (wtp 93 (q := 11) (by decide +kernel))⟩
theorem lk_X13_openCrates : LkV yX13_openCrates cX13_openCrates 3 (some .int) 0 := ⟨⟨(wtm_8 48 (by decide +kernel) (by decide +kernel)), ini_X13, by decide +kernel, by decide +kernel, by decide +kernel⟩, (wtm_8 47 (by decide +kernel) (by decide +kernel)), (wtp 94 (q := 11) (by decide +kernel))⟩
theorem lk_X13_wholeOf : LkV yX13_wholeOf cX13_wholeOf 2 (some .int) 1 := ⟨⟨(wtm_8 40 (by decide +kernel) (by decide +kernel)), ini_X13, by decide +kernel, by decide +kernel, by decide +kernel⟩, (wtm_8 39 (by decide +kernel) (by decide +kernel)), (wtp 92 (q := 11) (by decide +kernel))⟩
theorem lk_X13_whole : LkV yX13_whole cX13_whole 2 (some .int) 1 := ⟨⟨(wtm_8 36 (by decide +kernel) (by decide +kernel)), ini_X13, by decide +kernel, by decide +kernel, by decide +kernel⟩, (wtm_8 34 (by decide +kernel) (by decide +kernel)), (wtm_8 35 (by decide +kernel) (by decide +kernel))⟩
theorem lk_X13_ready : LkV yX13_ready cX13_ready 12 (some .int) 1 := ⟨⟨(wtm_8 56 (by decide +kernel) (by decide +kernel)), ini_X13, by decide +kernel, by decide +kernel, by decide +kernel⟩, (wtm_8 55 (by decide +kernel) (by decide +kernel)), (wtp 95 (q := 11) (by decide +kernel))⟩
theorem lk_X13_readyAt : LkV yX13_readyAt cX13_readyAt 2 (some .int) 1 := ⟨⟨(wtm_8 52 (by decide +kernel) (by decide +kernel)), ini_X13, by decide +kernel, by decide +kernel, by decide +kernel⟩, (wtm_8 50 (by decide +kernel) (by decide +kernel)), (wtm_8 51 (by decide +kernel) (by decide +kernel))⟩
theorem lk_X13_allReady : LkV yX13_allReady cX13_allReady 4 (some .int) 1 := ⟨⟨(wtm_8 67 (by decide +kernel) (by decide +kernel)), ini_X13, by decide +kernel, by decide +kernel, by decide +kernel⟩, (wtm_8 66 (by decide +kernel) (by decide +kernel)), (wtp 96 (q := 11) (by decide +kernel))⟩
theorem lk_X13_allReadyAt : LkV yX13_allReadyAt cX13_allReadyAt 2 (some .int) 1 := ⟨⟨(wtm_8 63 (by decide +kernel) (by decide +kernel)), ini_X13, by decide +kernel, by decide +kernel, by decide +kernel⟩, (wtm_8 61 (by decide +kernel) (by decide +kernel)), (wtm_8 62 (by decide +kernel) (by decide +kernel))⟩
theorem lk_X13_readyBy : LkV yX13_readyBy cX13_readyBy 5 (some .int) 2 := ⟨⟨(wtm_8 75 (by decide +kernel) (by decide +kernel)), ini_X13, by decide +kernel, by decide +kernel, by decide +kernel⟩, (wtm_8 74 (by decide +kernel) (by decide +kernel)), (wtp 97 (q := 11) (by decide +kernel))⟩
theorem lk_X13_bestVenue : LkV yX13_bestVenue cX13_bestVenue 8 (some .int) 2 := ⟨⟨(wtm_8 71 (by decide +kernel) (by decide +kernel)), ini_X13, by decide +kernel, by decide +kernel, by decide +kernel⟩, (wtm_8 69 (by decide +kernel) (by decide +kernel)), (wtm_8 70 (by decide +kernel) (by decide +kernel))⟩
theorem lk_X13_type : LkV yX13_type cX13_type 2 (some .int) 1 := ⟨⟨(wtm_8 79 (by decide +kernel) (by decide +kernel)), ini_X13, by decide +kernel, by decide +kernel, by decide +kernel⟩, (wtm_8 77 (by decide +kernel) (by decide +kernel)), (wtm_8 78 (by decide +kernel) (by decide +kernel))⟩
theorem lk_X13_clearCommands : LkV yX13_clearCommands cX13_clearCommands 2 (some .int) 0 := ⟨⟨(wtm_8 83 (by decide +kernel) (by decide +kernel)), ini_X13, by decide +kernel, by decide +kernel, by decide +kernel⟩, (wtm_8 81 (by decide +kernel) (by decide +kernel)), (wtm_8 82 (by decide +kernel) (by decide +kernel))⟩
theorem lk_X13_here : LkV yX13_here cX13_here 1 (some .int) 0 := ⟨⟨(wtm_8 99 (by decide +kernel) (by decide +kernel)), ini_X13, by decide +kernel, by decide +kernel, by decide +kernel⟩, (wtm_8 98 (by decide +kernel) (by decide +kernel)), (wtp 100 (q := 11) (by decide +kernel))⟩
theorem lk_X13_skips : LkV yX13_skips cX13_skips 2 (some .boolean) 0 := ⟨⟨(wtm_8 95 (by decide +kernel) (by decide +kernel)), ini_X13, by decide +kernel, by decide +kernel, by decide +kernel⟩, (wtm_8 94 (by decide +kernel) (by decide +kernel)), (wtp 99 (q := 11) (by decide +kernel))⟩
theorem lk_X13_commandOf : LkS yX13_commandOf cX13_commandOf 2 (some .int) 1 := ⟨⟨(wtm_8 113 (by decide +kernel) (by decide +kernel)), ini_X13, by decide +kernel, by decide +kernel, by decide +kernel⟩, (wtm_8 112 (by decide +kernel) (by decide +kernel))⟩
theorem lk_X13_readWord : LkV yX13_readWord cX13_readWord 4 (some .boolean) 0 := ⟨⟨(wtm_8 107 (by decide +kernel) (by decide +kernel)), ini_X13, by decide +kernel, by decide +kernel, by decide +kernel⟩, (wtm_8 106 (by decide +kernel) (by decide +kernel)), (wtp 102 (q := 11) (by decide +kernel))⟩
theorem lk_X13_readNumber : LkV yX13_readNumber cX13_readNumber 4 (some .boolean) 1 := ⟨⟨(wtm_8 130 (by decide +kernel) (by decide +kernel)), ini_X13, by decide +kernel, by decide +kernel, by decide +kernel⟩, (wtm_8 129 (by decide +kernel) (by decide +kernel)), (wtp 104 (q := 11) (by decide +kernel))⟩
theorem lk_X13_manyFor : LkV yX13_manyFor cX13_manyFor 1 (some .int) 0 := ⟨⟨(wtm_8 126 (by decide +kernel) (by decide +kernel)), ini_X13, by decide +kernel, by decide +kernel, by decide +kernel⟩, (wtm_8 125 (by decide +kernel) (by decide +kernel)), (wtp 103 (q := 11) (by decide +kernel))⟩
theorem lk_X13_readCommand : LkV yX13_readCommand cX13_readCommand 2 (some .boolean) 0 := ⟨⟨(wtm_8 103 (by decide +kernel) (by decide +kernel)), ini_X13, by decide +kernel, by decide +kernel, by decide +kernel⟩, (wtm_8 102 (by decide +kernel) (by decide +kernel)), (wtp 101 (q := 11) (by decide +kernel))⟩
theorem lk_X13_isGood : LkV yX13_isGood cX13_isGood 3 (some .boolean) 0 := ⟨⟨(wtm_8 91 (by decide +kernel) (by decide +kernel)), ini_X13, by decide +kernel, by decide +kernel, by decide +kernel⟩, (wtm_8 90 (by decide +kernel) (by decide +kernel)), (wtp 98 (q := 11) (by decide +kernel))⟩
theorem lk_X13_whyNot : LkV yX13_whyNot cX13_whyNot 1 (some .int) 0 := ⟨⟨(wtm_8 134 (by decide +kernel) (by decide +kernel)), ini_X13, by decide +kernel, by decide +kernel, by decide +kernel⟩, (wtm_8 133 (by decide +kernel) (by decide +kernel)), (wtp 105 (q := 11) (by decide +kernel))⟩
theorem lk_X13_carryOut : LkV yX13_carryOut cX13_carryOut 1 (some .int) 0 := ⟨⟨(wtm_8 138 (by decide +kernel) (by decide +kernel)), ini_X13, by decide +kernel, by decide +kernel, by decide +kernel⟩, (wtm_8 137 (by decide +kernel) (by decide +kernel)), (wtp 106 (q := 11) (by decide +kernel))⟩
theorem lk_X13_runCommands : LkV yX13_runCommands cX13_runCommands 5 (some .int) 0 := ⟨⟨(wtm_8 87 (by decide +kernel) (by decide +kernel)), ini_X13, by decide +kernel, by decide +kernel, by decide +kernel⟩, (wtm_8 85 (by decide +kernel) (by decide +kernel)), (wtm_8 86 (by decide +kernel) (by decide +kernel))⟩
theorem lk_X13_undo : LkV yX13_undo cX13_undo 2 (some .int) 0 := ⟨⟨(wtm_8 142 (by decide +kernel) (by decide +kernel)), ini_X13, by decide +kernel, by decide +kernel, by decide +kernel⟩, (wtm_8 140 (by decide +kernel) (by decide +kernel)), (wtm_8 141 (by decide +kernel) (by decide +kernel))⟩
theorem lk_X13_mix : LkV yX13_mix cX13_mix 3 none 1 := ⟨⟨(wtm_8 151 (by decide +kernel) (by decide +kernel)), ini_X13, by decide +kernel, by decide +kernel, by decide +kernel⟩, (wtm_8 150 (by decide +kernel) (by decide +kernel)), (wtp 107 (q := 11) (by decide +kernel))⟩
theorem lk_X13_mixWork : LkV yX13_mixWork cX13_mixWork 3 none 1 := ⟨⟨(wtm_8 156 (by decide +kernel) (by decide +kernel)), ini_X13, by decide +kernel, by decide +kernel, by decide +kernel⟩, (wtm_8 155 (by decide +kernel) (by decide +kernel)), (wtp 108 (q := 11) (by decide +kernel))⟩
theorem lk_X13_digest : LkV yX13_digest cX13_digest 3 (some .long) 0 := ⟨⟨(wtm_8 146 (by decide +kernel) (by decide +kernel)), ini_X13, by decide +kernel, by decide +kernel, by decide +kernel⟩, (wtm_8 144 (by decide +kernel) (by decide +kernel)), (wtm_8 145 (by decide +kernel) (by decide +kernel))⟩
theorem uws_of {C : String} {T : u_T} {N : Nat} (h : ∀ k, k < N → u_lay C T k ∈ WT) : ∀ w ∈ u_ws C T N, w ∈ WT := fun w hw => by obtain ⟨k, hk, e⟩ := List.mem_map.mp hw; rw [← e]; exact h k (List.mem_range.mp hk)
theorem uws_X1 : ∀ w ∈ u_ws RX1 TX1 1, w ∈ WT := uws_of fun k hk => match k, hk with | 0, _ => (wtm_2 75 (by decide +kernel) (by decide +kernel))
theorem uws_X2 : ∀ w ∈ u_ws RX2 TX2 6, w ∈ WT := uws_of fun k hk => match k, hk with | 0, _ => (wtm_2 148 (by decide +kernel) (by decide +kernel)) | 1, _ => (wtm_2 150 (by decide +kernel) (by decide +kernel)) | 2, _ => (wtm_2 152 (by decide +kernel) (by decide +kernel)) | 3, _ => (wtm_2 154 (by decide +kernel) (by decide +kernel)) | 4, _ => (wtm_2 156 (by decide +kernel) (by decide +kernel)) | 5, _ => (wtm_2 158 (by decide +kernel) (by decide +kernel))
theorem uws_X3 : ∀ w ∈ u_ws RX3 TX3 10, w ∈ WT := uws_of fun k hk => match k, hk with | 0, _ => (wtm_1 141 (by decide +kernel) (by decide +kernel)) | 1, _ => (wtm_1 143 (by decide +kernel) (by decide +kernel)) | 2, _ => (wtm_1 145 (by decide +kernel) (by decide +kernel)) | 3, _ => (wtm_1 147 (by decide +kernel) (by decide +kernel)) | 4, _ => (wtm_1 149 (by decide +kernel) (by decide +kernel)) | 5, _ => (wtm_1 151 (by decide +kernel) (by decide +kernel)) | 6, _ => (wtm_1 153 (by decide +kernel) (by decide +kernel)) | 7, _ => (wtm_1 155 (by decide +kernel) (by decide +kernel)) | 8, _ => (wtm_1 157 (by decide +kernel) (by decide +kernel)) | 9, _ => (wtm_1 159 (by decide +kernel) (by decide +kernel))
theorem uws_X4 : ∀ w ∈ u_ws RX4 TX4 1, w ∈ WT := uws_of fun k hk => match k, hk with | 0, _ => (wtm_2 85 (by decide +kernel) (by decide +kernel))
theorem uws_X5 : ∀ w ∈ u_ws RX5 TX5 3, w ∈ WT := uws_of fun k hk => match k, hk with | 0, _ => (wtm_2 107 (by decide +kernel) (by decide +kernel)) | 1, _ => (wtm_2 109 (by decide +kernel) (by decide +kernel)) | 2, _ => (wtm_2 111 (by decide +kernel) (by decide +kernel))
theorem uws_X6 : ∀ w ∈ u_ws RX6 TX6 14, w ∈ WT := uws_of fun k hk => match k, hk with | 0, _ => (wtm_2 39 (by decide +kernel) (by decide +kernel)) | 1, _ => (wtm_2 41 (by decide +kernel) (by decide +kernel)) | 2, _ => (wtm_2 43 (by decide +kernel) (by decide +kernel)) | 3, _ => (wtm_2 45 (by decide +kernel) (by decide +kernel)) | 4, _ => (wtm_2 47 (by decide +kernel) (by decide +kernel)) | 5, _ => (wtm_2 49 (by decide +kernel) (by decide +kernel)) | 6, _ => (wtm_2 51 (by decide +kernel) (by decide +kernel)) | 7, _ => (wtm_2 53 (by decide +kernel) (by decide +kernel)) | 8, _ => (wtm_2 55 (by decide +kernel) (by decide +kernel)) | 9, _ => (wtm_2 57 (by decide +kernel) (by decide +kernel)) | 10, _ => (wtm_2 59 (by decide +kernel) (by decide +kernel)) | 11, _ => (wtm_2 61 (by decide +kernel) (by decide +kernel)) | 12, _ => (wtm_2 63 (by decide +kernel) (by decide +kernel)) | 13, _ => (wtm_2 65 (by decide +kernel) (by decide +kernel))
theorem uws_X7 : ∀ w ∈ u_ws RX7 TX7 2, w ∈ WT := uws_of fun k hk => match k, hk with | 0, _ => (wtm_2 126 (by decide +kernel) (by decide +kernel)) | 1, _ => (wtm_2 128 (by decide +kernel) (by decide +kernel))
theorem uws_X8 : ∀ w ∈ u_ws RX8 TX8 1, w ∈ WT := uws_of fun k hk => match k, hk with | 0, _ => (wtm_2 95 (by decide +kernel) (by decide +kernel))
theorem uws_X9 : ∀ w ∈ u_ws RX9 TX9 6, w ∈ WT := uws_of fun k hk => match k, hk with | 0, _ => (wtm_1 78 (by decide +kernel) (by decide +kernel)) | 1, _ => (wtm_1 80 (by decide +kernel) (by decide +kernel)) | 2, _ => (wtm_1 82 (by decide +kernel) (by decide +kernel)) | 3, _ => (wtm_1 84 (by decide +kernel) (by decide +kernel)) | 4, _ => (wtm_1 86 (by decide +kernel) (by decide +kernel)) | 5, _ => (wtm_1 88 (by decide +kernel) (by decide +kernel))
theorem uws_X11 : ∀ w ∈ u_ws RX11 TX11 9, w ∈ WT := uws_of fun k hk => match k, hk with | 0, _ => (wtm_1 198 (by decide +kernel) (by decide +kernel)) | 1, _ => (wtm_1 200 (by decide +kernel) (by decide +kernel)) | 2, _ => (wtm_1 202 (by decide +kernel) (by decide +kernel)) | 3, _ => (wtm_1 204 (by decide +kernel) (by decide +kernel)) | 4, _ => (wtm_1 206 (by decide +kernel) (by decide +kernel)) | 5, _ => (wtm_1 208 (by decide +kernel) (by decide +kernel)) | 6, _ => (wtm_1 210 (by decide +kernel) (by decide +kernel)) | 7, _ => (wtm_1 212 (by decide +kernel) (by decide +kernel)) | 8, _ => (wtm_1 214 (by decide +kernel) (by decide +kernel))
theorem uws_X12 : ∀ w ∈ u_ws RX12 TX12 7, w ∈ WT := uws_of fun k hk => match k, hk with | 0, _ => (wtm_2 169 (by decide +kernel) (by decide +kernel)) | 1, _ => (wtm_2 171 (by decide +kernel) (by decide +kernel)) | 2, _ => (wtm_2 173 (by decide +kernel) (by decide +kernel)) | 3, _ => (wtm_2 175 (by decide +kernel) (by decide +kernel)) | 4, _ => (wtm_2 177 (by decide +kernel) (by decide +kernel)) | 5, _ => (wtm_2 179 (by decide +kernel) (by decide +kernel)) | 6, _ => (wtm_2 181 (by decide +kernel) (by decide +kernel))
theorem uws_X13 : ∀ w ∈ u_ws RX13 TX13 11, w ∈ WT := uws_of fun k hk => match k, hk with | 0, _ => (wtm_6 156 (by decide +kernel) (by decide +kernel)) | 1, _ => (wtm_6 158 (by decide +kernel) (by decide +kernel)) | 2, _ => (wtm_6 160 (by decide +kernel) (by decide +kernel)) | 3, _ => (wtm_6 162 (by decide +kernel) (by decide +kernel)) | 4, _ => (wtm_6 164 (by decide +kernel) (by decide +kernel)) | 5, _ => (wtm_6 166 (by decide +kernel) (by decide +kernel)) | 6, _ => (wtm_6 168 (by decide +kernel) (by decide +kernel)) | 7, _ => (wtm_6 170 (by decide +kernel) (by decide +kernel)) | 8, _ => (wtm_6 172 (by decide +kernel) (by decide +kernel)) | 9, _ => (wtm_6 174 (by decide +kernel) (by decide +kernel)) | 10, _ => (wtm_6 176 (by decide +kernel) (by decide +kernel))
theorem clk_X1 : ClOk 0 RX1 TX1 1 tyX1 := ⟨rfl, uws_X1, tyX1_ok, nmX1⟩
theorem clk_X2 : ClOk 1 RX2 TX2 6 tyX2 := ⟨rfl, uws_X2, tyX2_ok, nmX2⟩
theorem clk_X3 : ClOk 2 RX3 TX3 10 tyX3 := ⟨rfl, uws_X3, tyX3_ok, nmX3⟩
theorem clk_X4 : ClOk 3 RX4 TX4 1 tyX4 := ⟨rfl, uws_X4, tyX4_ok, nmX4⟩
theorem clk_X5 : ClOk 4 RX5 TX5 3 tyX5 := ⟨rfl, uws_X5, tyX5_ok, nmX5⟩
theorem clk_X6 : ClOk 5 RX6 TX6 14 tyX6 := ⟨rfl, uws_X6, tyX6_ok, nmX6⟩
theorem clk_X7 : ClOk 6 RX7 TX7 2 tyX7 := ⟨rfl, uws_X7, tyX7_ok, nmX7⟩
theorem clk_X8 : ClOk 7 RX8 TX8 1 tyX8 := ⟨rfl, uws_X8, tyX8_ok, nmX8⟩
theorem clk_X9 : ClOk 8 RX9 TX9 6 tyX9 := ⟨rfl, uws_X9, tyX9_ok, nmX9⟩
theorem clk_X11 : ClOk 9 RX11 TX11 9 tyX11 := ⟨rfl, uws_X11, tyX11_ok, nmX11⟩
theorem clk_X12 : ClOk 10 RX12 TX12 7 tyX12 := ⟨rfl, uws_X12, tyX12_ok, nmX12⟩
theorem clk_X13 : ClOk 11 RX13 TX13 11 tyX13 := ⟨rfl, uws_X13, tyX13_ok, nmX13⟩