/-! JDK members on the constant strings and words. Written by wip/whole/gen_jdk.py -/
theorem dJ0_coder_7d493_0 : decode cJ0_coder_7d493 0 = .ok (.getstatic 38, 3) := by decide +kernel
theorem dJ0_coder_7d493_3 : decode cJ0_coder_7d493 3 = .ok (.ifCond .eq 10, 3) := by decide +kernel
theorem dJ0_coder_7d493_6 : decode cJ0_coder_7d493 6 = .ok (.aload_n 0, 1) := by decide +kernel
theorem dJ0_coder_7d493_7 : decode cJ0_coder_7d493 7 = .ok (.getfield 15, 3) := by decide +kernel
theorem dJ0_coder_7d493_10 : decode cJ0_coder_7d493 10 = .ok (.goto 4, 3) := by decide +kernel
theorem dJ0_coder_7d493_13 : decode cJ0_coder_7d493 13 = .ok (.iconst 1, 1) := by decide +kernel
theorem dJ0_coder_7d493_14 : decode cJ0_coder_7d493 14 = .ok (.ireturn, 1) := by decide +kernel
theorem dJ0_length_8abf5_0 : decode cJ0_length_8abf5 0 = .ok (.aload_n 0, 1) := by decide +kernel
theorem dJ0_length_8abf5_1 : decode cJ0_length_8abf5 1 = .ok (.getfield 9, 3) := by decide +kernel
theorem dJ0_length_8abf5_4 : decode cJ0_length_8abf5 4 = .ok (.arraylength, 1) := by decide +kernel
theorem dJ0_length_8abf5_5 : decode cJ0_length_8abf5 5 = .ok (.aload_n 0, 1) := by decide +kernel
theorem dJ0_length_8abf5_6 : decode cJ0_length_8abf5 6 = .ok (.invokevirtual 335, 3) := by decide +kernel
theorem dJ0_length_8abf5_9 : decode cJ0_length_8abf5 9 = .ok (.ishr, 1) := by decide +kernel
theorem dJ0_length_8abf5_10 : decode cJ0_length_8abf5 10 = .ok (.ireturn, 1) := by decide +kernel
theorem dJ0_isLatin1_aae02_0 : decode cJ0_isLatin1_aae02 0 = .ok (.getstatic 38, 3) := by decide +kernel
theorem dJ0_isLatin1_aae02_3 : decode cJ0_isLatin1_aae02 3 = .ok (.ifCond .eq 14, 3) := by decide +kernel
theorem dJ0_isLatin1_aae02_6 : decode cJ0_isLatin1_aae02 6 = .ok (.aload_n 0, 1) := by decide +kernel
theorem dJ0_isLatin1_aae02_7 : decode cJ0_isLatin1_aae02 7 = .ok (.getfield 15, 3) := by decide +kernel
theorem dJ0_isLatin1_aae02_10 : decode cJ0_isLatin1_aae02 10 = .ok (.ifCond .ne 7, 3) := by decide +kernel
theorem dJ0_isLatin1_aae02_13 : decode cJ0_isLatin1_aae02 13 = .ok (.iconst 1, 1) := by decide +kernel
theorem dJ0_isLatin1_aae02_14 : decode cJ0_isLatin1_aae02 14 = .ok (.goto 4, 3) := by decide +kernel
theorem dJ0_isLatin1_aae02_17 : decode cJ0_isLatin1_aae02 17 = .ok (.iconst 0, 1) := by decide +kernel
theorem dJ0_isLatin1_aae02_18 : decode cJ0_isLatin1_aae02 18 = .ok (.ireturn, 1) := by decide +kernel
theorem dJ0_checkIndex_df160_0 : decode cJ0_checkIndex_df160 0 = .ok (.iload_n 0, 1) := by decide +kernel
theorem dJ0_checkIndex_df160_1 : decode cJ0_checkIndex_df160 1 = .ok (.iload_n 1, 1) := by decide +kernel
theorem dJ0_checkIndex_df160_2 : decode cJ0_checkIndex_df160 2 = .ok (.getstatic 1053, 3) := by decide +kernel
theorem dJ0_checkIndex_df160_5 : decode cJ0_checkIndex_df160 5 = .ok (.invokestatic 1059, 3) := by decide +kernel
theorem dJ0_checkIndex_df160_8 : decode cJ0_checkIndex_df160 8 = .ok (.pop, 1) := by decide +kernel
theorem dJ0_checkIndex_df160_9 : decode cJ0_checkIndex_df160 9 = .ok (.return_, 1) := by decide +kernel
theorem dJ1_charAt_3b067_0 : decode cJ1_charAt_3b067 0 = .ok (.iload_n 1, 1) := by decide +kernel
theorem dJ1_charAt_3b067_1 : decode cJ1_charAt_3b067 1 = .ok (.aload_n 0, 1) := by decide +kernel
theorem dJ1_charAt_3b067_2 : decode cJ1_charAt_3b067 2 = .ok (.arraylength, 1) := by decide +kernel
theorem dJ1_charAt_3b067_3 : decode cJ1_charAt_3b067 3 = .ok (.invokestatic 9, 3) := by decide +kernel
theorem dJ1_charAt_3b067_6 : decode cJ1_charAt_3b067 6 = .ok (.aload_n 0, 1) := by decide +kernel
theorem dJ1_charAt_3b067_7 : decode cJ1_charAt_3b067 7 = .ok (.iload_n 1, 1) := by decide +kernel
theorem dJ1_charAt_3b067_8 : decode cJ1_charAt_3b067 8 = .ok (.baload, 1) := by decide +kernel
theorem dJ1_charAt_3b067_9 : decode cJ1_charAt_3b067 9 = .ok (.sipush 255, 3) := by decide +kernel
theorem dJ1_charAt_3b067_12 : decode cJ1_charAt_3b067 12 = .ok (.iand, 1) := by decide +kernel
theorem dJ1_charAt_3b067_13 : decode cJ1_charAt_3b067 13 = .ok (.i2c, 1) := by decide +kernel
theorem dJ1_charAt_3b067_14 : decode cJ1_charAt_3b067 14 = .ok (.ireturn, 1) := by decide +kernel
theorem dJ0_charAt_5068e_0 : decode cJ0_charAt_5068e 0 = .ok (.aload_n 0, 1) := by decide +kernel
theorem dJ0_charAt_5068e_1 : decode cJ0_charAt_5068e 1 = .ok (.invokevirtual 492, 3) := by decide +kernel
theorem dJ0_charAt_5068e_4 : decode cJ0_charAt_5068e 4 = .ok (.ifCond .eq 12, 3) := by decide +kernel
theorem dJ0_charAt_5068e_7 : decode cJ0_charAt_5068e 7 = .ok (.aload_n 0, 1) := by decide +kernel
theorem dJ0_charAt_5068e_8 : decode cJ0_charAt_5068e 8 = .ok (.getfield 9, 3) := by decide +kernel
theorem dJ0_charAt_5068e_11 : decode cJ0_charAt_5068e 11 = .ok (.iload_n 1, 1) := by decide +kernel
theorem dJ0_charAt_5068e_12 : decode cJ0_charAt_5068e 12 = .ok (.invokestatic 495, 3) := by decide +kernel
theorem dJ0_charAt_5068e_15 : decode cJ0_charAt_5068e 15 = .ok (.ireturn, 1) := by decide +kernel
theorem dJ0_charAt_5068e_16 : decode cJ0_charAt_5068e 16 = .ok (.aload_n 0, 1) := by decide +kernel
theorem dJ0_charAt_5068e_17 : decode cJ0_charAt_5068e 17 = .ok (.getfield 9, 3) := by decide +kernel
theorem dJ0_charAt_5068e_20 : decode cJ0_charAt_5068e 20 = .ok (.iload_n 1, 1) := by decide +kernel
theorem dJ0_charAt_5068e_21 : decode cJ0_charAt_5068e 21 = .ok (.invokestatic 498, 3) := by decide +kernel
theorem dJ0_charAt_5068e_24 : decode cJ0_charAt_5068e 24 = .ok (.ireturn, 1) := by decide +kernel
theorem dJ3_checkIndex_8e157_0 : decode cJ3_checkIndex_8e157 0 = .ok (.iload_n 0, 1) := by decide +kernel
theorem dJ3_checkIndex_8e157_1 : decode cJ3_checkIndex_8e157 1 = .ok (.ifCond .lt 8, 3) := by decide +kernel
theorem dJ3_checkIndex_8e157_4 : decode cJ3_checkIndex_8e157 4 = .ok (.iload_n 0, 1) := by decide +kernel
theorem dJ3_checkIndex_8e157_5 : decode cJ3_checkIndex_8e157 5 = .ok (.iload_n 1, 1) := by decide +kernel
theorem dJ3_checkIndex_8e157_6 : decode cJ3_checkIndex_8e157 6 = .ok (.if_icmp .lt 10, 3) := by decide +kernel
theorem dJ3_checkIndex_8e157_9 : decode cJ3_checkIndex_8e157 9 = .ok (.aload_n 2, 1) := by decide +kernel
theorem dJ3_checkIndex_8e157_10 : decode cJ3_checkIndex_8e157 10 = .ok (.iload_n 0, 1) := by decide +kernel
theorem dJ3_checkIndex_8e157_11 : decode cJ3_checkIndex_8e157 11 = .ok (.iload_n 1, 1) := by decide +kernel
theorem dJ3_checkIndex_8e157_12 : decode cJ3_checkIndex_8e157 12 = .ok (.invokestatic 95, 3) := by decide +kernel
theorem dJ3_checkIndex_8e157_15 : decode cJ3_checkIndex_8e157 15 = .ok (.athrow, 1) := by decide +kernel
theorem dJ3_checkIndex_8e157_16 : decode cJ3_checkIndex_8e157 16 = .ok (.iload_n 0, 1) := by decide +kernel
theorem dJ3_checkIndex_8e157_17 : decode cJ3_checkIndex_8e157 17 = .ok (.ireturn, 1) := by decide +kernel
theorem dJx29ce0_ordinal_8abf5_0 : decode cJx29ce0_ordinal_8abf5 0 = .ok (.aload_n 0, 1) := by decide +kernel
theorem dJx29ce0_ordinal_8abf5_1 : decode cJx29ce0_ordinal_8abf5 1 = .ok (.getfield 7, 3) := by decide +kernel
theorem dJx29ce0_ordinal_8abf5_4 : decode cJx29ce0_ordinal_8abf5 4 = .ok (.ireturn, 1) := by decide +kernel
theorem kJ0_coder_7d493 {l : Launch} {Γ : Gl} {B : Bs} {G : Gf} {sz : Nat} {d : Nat} (hd : d < 9) (hC : GC Γ B) : CtR l Γ yJ0_coder_7d493 cJ0_coder_7d493 1 (some .byte) 0 [.ref (B.2 (20 + d))] G sz (.int 0) := by
  refine Ct.of rfl (Nat.le_of_ble_eq_true rfl) fun X hx hr hl hΓ hnm => ?_
  subst hl hΓ
  show J X 1 G sz 0 0 0 [some (.ref (B.2 (20 + d)))] []
  have hc := hx.kc hC
  obtain ⟨hW1, hW2, hW3, hW4, hW5, hS, hZ, hQ, -⟩ := hc
  refine J_gets hx hZ fj_38 dJ0_coder_7d493_0 ?_
  refine J_if_eq hx 13 dJ0_coder_7d493_3 rfl (fun h => absurd h (by decide)) (fun _ => ?_)
  refine J_al4 hx rfl rfl dJ0_coder_7d493_6 ?_
  refine J_of hx (hS d hd).2.1 fj_15 dJ0_coder_7d493_7 ?_
  refine J_goto hx 14 dJ0_coder_7d493_10 rfl ?_
  exact J_tret hx hr dJ0_coder_7d493_14 (by decide) (Nat.le_refl 0) (Nat.le_refl 0) ⟨rfl, rfl, rfl⟩
theorem kJ0_isLatin1_aae02 {l : Launch} {Γ : Gl} {B : Bs} {G : Gf} {sz : Nat} {d : Nat} (hd : d < 9) (hC : GC Γ B) : CtR l Γ yJ0_isLatin1_aae02 cJ0_isLatin1_aae02 1 (some .boolean) 0 [.ref (B.2 (20 + d))] G sz (.int 1) := by
  refine Ct.of rfl (Nat.le_of_ble_eq_true rfl) fun X hx hr hl hΓ hnm => ?_
  subst hl hΓ
  show J X 1 G sz 0 0 0 [some (.ref (B.2 (20 + d)))] []
  have hc := hx.kc hC
  obtain ⟨hW1, hW2, hW3, hW4, hW5, hS, hZ, hQ, -⟩ := hc
  refine J_gets hx hZ fj_38 dJ0_isLatin1_aae02_0 ?_
  refine J_if_eq hx 17 dJ0_isLatin1_aae02_3 rfl (fun h => absurd h (by decide)) (fun _ => ?_)
  refine J_al4 hx rfl rfl dJ0_isLatin1_aae02_6 ?_
  refine J_of hx (hS d hd).2.1 fj_15 dJ0_isLatin1_aae02_7 ?_
  refine J_if_ne hx 17 dJ0_isLatin1_aae02_10 rfl (fun h => absurd rfl h) (fun _ => ?_)
  refine J_iconst hx (1 : Int32) dJ0_isLatin1_aae02_13 rfl ?_
  refine J_goto hx 18 dJ0_isLatin1_aae02_14 rfl ?_
  exact J_tret hx hr dJ0_isLatin1_aae02_18 (by decide) (Nat.le_refl 0) (Nat.le_refl 0) ⟨rfl, rfl, rfl⟩
theorem slen_s0 : ∀ d, d < 9 → Int32.ofNat (slen d) >>> ((0 : Int32) &&& 31) = Int32.ofNat (slen d) := by decide +kernel
theorem slen_pos : ∀ d, d < 9 → ∀ j, j < slen d → ¬ Int32.ofNat j < 0 ∧ Int32.ofNat j < Int32.ofNat (slen d) ∧ (sby d j &&& 255).toUInt32 % 65536 = (sby d j).toUInt32 ∧ narrow .char (.int (sby d j)) = .int (sby d j) := by decide +kernel
theorem kJ0_length_8abf5 {l : Launch} {Γ : Gl} {B : Bs} {G : Gf} {sz : Nat} {d : Nat} (hd : d < 9) (hC : GC Γ B) : CtR l Γ yJ0_length_8abf5 cJ0_length_8abf5 1 (some .int) 1 [.ref (B.2 (20 + d))] G sz (.int (Int32.ofNat (slen d))) := by
  refine Ct.of rfl (Nat.le_of_ble_eq_true rfl) fun X hx hr hl hΓ hnm => ?_
  subst hl hΓ
  show J X 1 G sz 0 0 0 [some (.ref (B.2 (20 + d)))] []
  have hc := hx.kc hC
  obtain ⟨hW1, hW2, hW3, hW4, hW5, hS, hZ, hQ, -⟩ := hc
  refine J_al4 hx rfl rfl dJ0_length_8abf5_0 ?_
  refine J_of hx (hS d hd).2.2.1 fj_9 dJ0_length_8abf5_1 ?_
  refine J_tlen hx (hS d hd).2.2.2 rfl dJ0_length_8abf5_4 ?_
  refine J_al4 hx rfl rfl dJ0_length_8abf5_5 ?_
  refine J_callO hx (kJ0_coder_7d493 hd hC) mj_335 lk_J0_coder_7d493 (hS d hd).1 (rest := [.int (Int32.ofNat (slen d))]) rfl rfl (by decide) (by decide) (Nat.le_of_ble_eq_true rfl) (Nat.le_refl 0) (Nat.le_refl 0) dJ0_length_8abf5_6 ?_
  refine J_ishr hx dJ0_length_8abf5_9 ?_
  exact J_tret hx hr dJ0_length_8abf5_10 rfl (Nat.le_refl 0) (Nat.le_refl 0) ⟨by rw [slen_s0 d hd], rfl, rfl⟩
theorem kJ3_checkIndex_8e157n {l : Launch} {Γ : Gl} {B : Bs} {G : Gf} {sz : Nat} {i n : Int32} (h0 : ¬ i < 0) (h1 : i < n) (hC : GC Γ B) : CtR l Γ yJ3_checkIndex_8e157 cJ3_checkIndex_8e157 3 (some .int) 0 [.int i, .int n, .null] G sz (.int i) := by
  refine Ct.of rfl (Nat.le_of_ble_eq_true rfl) fun X hx hr hl hΓ hnm => ?_
  subst hl hΓ
  show J X 3 G sz 0 0 0 [some (.int i), some (.int n), some (.null)] []
  have hc := hx.kc hC
  obtain ⟨hW1, hW2, hW3, hW4, hW5, hS, hZ, hQ, -⟩ := hc
  refine J_il4 hx rfl rfl dJ3_checkIndex_8e157_0 ?_
  refine J_if_lt hx 9 dJ3_checkIndex_8e157_1 rfl (fun h => absurd h h0) (fun _ => ?_)
  refine J_il4 hx rfl rfl dJ3_checkIndex_8e157_4 ?_
  refine J_il4 hx rfl rfl dJ3_checkIndex_8e157_5 ?_
  refine J_icmp_lt hx 16 dJ3_checkIndex_8e157_6 rfl (fun _ => ?_) (fun h => absurd h1 h)
  refine J_il4 hx rfl rfl dJ3_checkIndex_8e157_16 ?_
  exact J_tret hx hr dJ3_checkIndex_8e157_17 rfl (Nat.le_refl 0) (Nat.le_refl 0) ⟨rfl, rfl, rfl⟩
theorem kJ3_checkIndex_8e157r {l : Launch} {Γ : Gl} {B : Bs} {G : Gf} {sz : Nat} {i n : Int32} {a : Nat} (h0 : ¬ i < 0) (h1 : i < n) (hC : GC Γ B) : CtR l Γ yJ3_checkIndex_8e157 cJ3_checkIndex_8e157 3 (some .int) 0 [.int i, .int n, .ref a] G sz (.int i) := by
  refine Ct.of rfl (Nat.le_of_ble_eq_true rfl) fun X hx hr hl hΓ hnm => ?_
  subst hl hΓ
  show J X 3 G sz 0 0 0 [some (.int i), some (.int n), some (.ref a)] []
  have hc := hx.kc hC
  obtain ⟨hW1, hW2, hW3, hW4, hW5, hS, hZ, hQ, -⟩ := hc
  refine J_il4 hx rfl rfl dJ3_checkIndex_8e157_0 ?_
  refine J_if_lt hx 9 dJ3_checkIndex_8e157_1 rfl (fun h => absurd h h0) (fun _ => ?_)
  refine J_il4 hx rfl rfl dJ3_checkIndex_8e157_4 ?_
  refine J_il4 hx rfl rfl dJ3_checkIndex_8e157_5 ?_
  refine J_icmp_lt hx 16 dJ3_checkIndex_8e157_6 rfl (fun _ => ?_) (fun h => absurd h1 h)
  refine J_il4 hx rfl rfl dJ3_checkIndex_8e157_16 ?_
  exact J_tret hx hr dJ3_checkIndex_8e157_17 rfl (Nat.le_refl 0) (Nat.le_refl 0) ⟨rfl, rfl, rfl⟩
theorem kJ0_checkIndex_df160 {l : Launch} {Γ : Gl} {B : Bs} {G : Gf} {sz : Nat} {i n : Int32} (h0 : ¬ i < 0) (h1 : i < n) (hC : GC Γ B) : Ct l Γ yJ0_checkIndex_df160 cJ0_checkIndex_df160 2 none 1 [.int i, .int n] G sz (fun r G' sz' => r = none ∧ G' = G ∧ sz' = sz) 0 0 := by
  refine Ct.of rfl (Nat.le_of_ble_eq_true rfl) fun X hx hr hl hΓ hnm => ?_
  subst hl hΓ
  show J X 2 G sz 0 0 0 [some (.int i), some (.int n)] []
  obtain ⟨hW1, hW2, hW3, hW4, hW5, hS, hZ, hQ, -⟩ := hx.kc hC
  refine J_il4 hx rfl rfl dJ0_checkIndex_df160_0 ?_
  refine J_il4 hx rfl rfl dJ0_checkIndex_df160_1 ?_
  refine J_getsq hx hQ fj_1053 dJ0_checkIndex_df160_2 fun v hv => ?_
  have ct : CtR (xl X) (xΓ X) yJ3_checkIndex_8e157 cJ3_checkIndex_8e157 3 (some .int) 0 [.int i, .int n, v] G sz (.int i) := by
    rcases hv with rfl | ⟨a, rfl⟩
    · exact kJ3_checkIndex_8e157n h0 h1 hC
    · exact kJ3_checkIndex_8e157r h0 h1 hC
  refine J_rdS hx ct mj_1059 lk_J3_checkIndex_8e157 (rest := []) rfl rfl (by decide) (by decide) (Nat.le_of_ble_eq_true rfl) (Nat.le_refl 0) (Nat.le_refl 0) dJ0_checkIndex_df160_5 ?_
  refine J_pop hx dJ0_checkIndex_df160_8 ?_
  exact J_vret hx hr dJ0_checkIndex_df160_9 (Nat.le_refl 0) (Nat.le_refl 0) ⟨rfl, rfl, rfl⟩
theorem kJ1_charAt_3b067 {l : Launch} {Γ : Gl} {B : Bs} {G : Gf} {sz : Nat} {d j : Nat} {i : Int32} (hd : d < 9) (hj : idx i (slen d) = some j) (hC : GC Γ B) : CtR l Γ yJ1_charAt_3b067 cJ1_charAt_3b067 2 (some .char) 2 [.ref (B.2 (30 + d)), .int i] G sz (.int (sby d j)) := by
  refine Ct.of rfl (Nat.le_of_ble_eq_true rfl) fun X hx hr hl hΓ hnm => ?_
  subst hl hΓ
  show J X 2 G sz 0 0 0 [some (.ref (B.2 (30 + d))), some (.int i)] []
  have hc := hx.kc hC
  obtain ⟨hW1, hW2, hW3, hW4, hW5, hS, hZ, hQ, -⟩ := hc
  have hi : i = Int32.ofNat j := by rw [← idx_c hj]; exact idx_of hj
  obtain ⟨s1, s2, s3, s4⟩ := slen_pos d hd j (idx_lt hj)
  refine J_il4 hx rfl rfl dJ1_charAt_3b067_0 ?_
  refine J_al4 hx rfl rfl dJ1_charAt_3b067_1 ?_
  refine J_tlen hx (hS d hd).2.2.2 rfl dJ1_charAt_3b067_2 ?_
  refine J_callS hx (kJ0_checkIndex_df160 (by rw [hi]; exact s1) (by rw [hi]; exact s2) hC) mj_9 lk_J0_checkIndex_df160 (rest := []) rfl rfl (by decide) (by decide) (Nat.le_of_ble_eq_true rfl) (Nat.le_refl 0) (Nat.le_refl 0) dJ1_charAt_3b067_3 fun r G2 sz2 hh => ?_
  obtain ⟨rfl, rfl, rfl⟩ := hh
  show J X 2 _ _ 0 0 6 [some (.ref (B.2 (30 + d))), some (.int i)] []
  refine J_al4 hx rfl rfl dJ1_charAt_3b067_6 ?_
  refine J_il4 hx rfl rfl dJ1_charAt_3b067_7 ?_
  refine J_tbald hx (hS d hd).2.2.2 hj dJ1_charAt_3b067_8 ?_
  refine J_sipush hx (255 : Int32) dJ1_charAt_3b067_9 rfl ?_
  refine J_iand hx dJ1_charAt_3b067_12 ?_
  refine J_i2c hx (v := sby d j) (by rw [s3]; rfl) dJ1_charAt_3b067_13 ?_
  exact J_tret hx hr dJ1_charAt_3b067_14 s4 (Nat.le_refl 0) (Nat.le_refl 0) ⟨rfl, rfl, rfl⟩
theorem kJ0_charAt_5068e {l : Launch} {Γ : Gl} {B : Bs} {G : Gf} {sz : Nat} {d j : Nat} {i : Int32} (hd : d < 9) (hj : idx i (slen d) = some j) (hC : GC Γ B) : CtR l Γ yJ0_charAt_5068e cJ0_charAt_5068e 2 (some .char) 3 [.ref (B.2 (20 + d)), .int i] G sz (.int (sby d j)) := by
  refine Ct.of rfl (Nat.le_of_ble_eq_true rfl) fun X hx hr hl hΓ hnm => ?_
  subst hl hΓ
  show J X 2 G sz 0 0 0 [some (.ref (B.2 (20 + d))), some (.int i)] []
  have hc := hx.kc hC
  obtain ⟨hW1, hW2, hW3, hW4, hW5, hS, hZ, hQ, -⟩ := hc
  obtain ⟨s1, s2, s3, s4⟩ := slen_pos d hd j (idx_lt hj)
  refine J_al4 hx rfl rfl dJ0_charAt_5068e_0 ?_
  refine J_callO hx (kJ0_isLatin1_aae02 hd hC) mj_492 lk_J0_isLatin1_aae02 (hS d hd).1 (rest := []) rfl rfl (by decide) (by decide) (Nat.le_of_ble_eq_true rfl) (Nat.le_refl 0) (Nat.le_refl 0) dJ0_charAt_5068e_1 ?_
  refine J_if_eq hx 16 dJ0_charAt_5068e_4 rfl (fun h => absurd h (by decide)) (fun _ => ?_)
  refine J_al4 hx rfl rfl dJ0_charAt_5068e_7 ?_
  refine J_of hx (hS d hd).2.2.1 fj_9 dJ0_charAt_5068e_8 ?_
  refine J_il4 hx rfl rfl dJ0_charAt_5068e_11 ?_
  refine J_rdS hx (kJ1_charAt_3b067 hd hj hC) mj_495 lk_J1_charAt_3b067 (rest := []) rfl rfl (by decide) (by decide) (Nat.le_of_ble_eq_true rfl) (Nat.le_refl 0) (Nat.le_refl 0) dJ0_charAt_5068e_12 ?_
  exact J_tret hx hr dJ0_charAt_5068e_15 s4 (Nat.le_refl 0) (Nat.le_refl 0) ⟨rfl, rfl, rfl⟩
theorem fj_7 : Cond.fieldLink RJx29ce0 7 "java/lang/Enum" "ordinal" "I" ∈ WT := (wtm_6 165 (by decide +kernel) (by decide +kernel))
theorem kJx29ce0_ordinal_8abf5 {l : Launch} {Γ : Gl} {B : Bs} {G : Gf} {sz : Nat} {d : Nat} (hd : d < 9) (hC : GC Γ B) : CtR l Γ yJx29ce0_ordinal_8abf5 cJx29ce0_ordinal_8abf5 1 (some .int) 0 [.ref (B.2 d)] G sz (.int (Int32.ofNat d)) := by
  refine Ct.of rfl (Nat.le_of_ble_eq_true rfl) fun X hx hr hl hΓ hnm => ?_
  subst hl hΓ
  show J X 1 G sz 0 0 0 [some (.ref (B.2 d))] []
  have hc := hx.kc hC
  obtain ⟨hW1, hW2, hW3, hW4, hW5, hS, hZ, hQ, -⟩ := hc
  refine J_al4 hx rfl rfl dJx29ce0_ordinal_8abf5_0 ?_
  refine J_of hx (hW3 d hd).2.1 fj_7 dJx29ce0_ordinal_8abf5_1 ?_
  exact J_tret hx hr dJx29ce0_ordinal_8abf5_4 rfl (Nat.le_refl 0) (Nat.le_refl 0) ⟨rfl, rfl, rfl⟩
theorem oU : ∀ w ∈ va_wsU RX12 334 "CrateTour$Word" yJx29ce0_ordinal_8abf5.cls ⟨"CrateTour$Word", "ordinal", "()I"⟩ yJx29ce0_ordinal_8abf5 [], w ∈ WT := by
  intro w hw
  unfold va_wsU at hw
  rw [List.append_nil] at hw
  rcases List.mem_cons.mp hw with h | hw
  · rw [h]; exact (wtm_3 78 (by decide +kernel) (by decide +kernel))
  rcases List.mem_cons.mp hw with h | hw
  · rw [h]; exact (wtm_3 79 (by decide +kernel) (by decide +kernel))
  rcases List.mem_cons.mp hw with h | hw
  · rw [h]; exact (wtm_3 81 (by decide +kernel) (by decide +kernel))
  rcases List.mem_cons.mp hw with h | hw
  · rw [h]; exact (wtm_3 82 (by decide +kernel) (by decide +kernel))
  rcases List.mem_cons.mp hw with h | hw
  · rw [h]; exact (wtm_1 12 (by decide +kernel) (by decide +kernel))
  cases hw
theorem oC : Cond.code yJx29ce0_ordinal_8abf5 cJx29ce0_ordinal_8abf5 1 (some .int) ∈ WT := (wtm_3 83 (by decide +kernel) (by decide +kernel))
