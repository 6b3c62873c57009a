/-! The wrappers, by program: wip/p34/lawgen.py -/
theorem dL_addVenue_0 : decode cL_addVenue 0 = .ok (.aload_n 0, 1) := by decide +kernel
theorem dL_addVenue_1 : decode cL_addVenue 1 = .ok (.iload_n 1, 1) := by decide +kernel
theorem dL_addVenue_2 : decode cL_addVenue 2 = .ok (.iload_n 2, 1) := by decide +kernel
theorem dL_addVenue_3 : decode cL_addVenue 3 = .ok (.iload_n 3, 1) := by decide +kernel
theorem dL_addVenue_4 : decode cL_addVenue 4 = .ok (.iload 4, 2) := by decide +kernel
theorem dL_addVenue_6 : decode cL_addVenue 6 = .ok (.invokevirtual 9, 3) := by decide +kernel
theorem dL_addVenue_9 : decode cL_addVenue 9 = .ok (.ireturn, 1) := by decide +kernel
theorem dL_addVenue_10 : decode cL_addVenue 10 = .ok (.astore 5, 2) := by decide +kernel
theorem dL_addVenue_12 : decode cL_addVenue 12 = .ok (.ldc 17, 2) := by decide +kernel
theorem dL_addVenue_14 : decode cL_addVenue 14 = .ok (.ireturn, 1) := by decide +kernel
theorem dL_addVenue_15 : decode cL_addVenue 15 = .ok (.astore 5, 2) := by decide +kernel
theorem dL_addVenue_17 : decode cL_addVenue 17 = .ok (.ldc 20, 2) := by decide +kernel
theorem dL_addVenue_19 : decode cL_addVenue 19 = .ok (.ireturn, 1) := by decide +kernel
theorem cw_addVenue : Cond.codeWith yL_addVenue cL_addVenue 6 (some .int) [(0, 9, 10, 15), (0, 9, 15, 18)] ∈ WT := (wtm_4 94 (by decide +kernel) (by decide +kernel))
theorem st_addVenue : Cond.static yL_addVenue ∈ WT := (wtm_4 93 (by decide +kernel) (by decide +kernel))
theorem hy_addVenue : yL_addVenue.cls ≠ "java/lang/invoke/MethodHandle" ∧ yL_addVenue.cls ≠ "java/lang/invoke/VarHandle" ∧ (parseMethodDescriptor yL_addVenue.desc).map (fun d => d.parameters.length) = some 5 := ⟨by decide +kernel, by decide +kernel, by decide +kernel⟩
def sO_addVenue (w : Wl) (l1 : Int32) (l2 : Int32) (l3 : Int32) (l4 : Int32) : Option (Int32 × Wl) := okS (sX12_addVenue w l1 l2 l3 l4)
def sL_addVenue (w : Wl) (l1 : Int32) (l2 : Int32) (l3 : Int32) (l4 : Int32) : Option (Int32 × Wl) := (sX12_addVenue w l1 l2 l3 l4).bind (lwW none (some (-90100)) (some (-90200)) w)
theorem kP_addVenue {l : Launch} {Γ : Gl} {B : Bs} {w : Wl} {G : Gf} {sz : Nat} {l1 : Int32} {l2 : Int32} {l3 : Int32} {l4 : Int32} {r : Int32 × Wl} (hC : GC Γ B) (hW : Wd Γ B w G) (h : sX12_addVenue w l1 l2 l3 l4 = some (Sum.inr r)) : CtL l Γ yL_addVenue cL_addVenue 6 (some .int) [(0, 9, 10, 15), (0, 9, 15, 18)] 8 [.ref (B.1 + 0), .int l1, .int l2, .int l3, .int l4] G sz (WΨ Γ B (some (.int r.1)) r.2 sz) 0 0 := by
  refine CtL.of rfl (Nat.le_of_ble_eq_true rfl) fun X hx hr htb hl hΓ => ?_
  subst hl hΓ
  show J X 6 G sz 0 0 0 [some (.ref (B.1 + 0)), some (.int l1), some (.int l2), some (.int l3), some (.int l4), none] []
  refine J_al4 hx rfl rfl dL_addVenue_0 ?_
  refine J_il4 hx rfl rfl dL_addVenue_1 ?_
  refine J_il4 hx rfl rfl dL_addVenue_2 ?_
  refine J_il4 hx rfl rfl dL_addVenue_3 ?_
  refine J_il hx rfl dL_addVenue_4 ?_
  refine J_wrV hx (kO_addVenue hC hW h) ml_L_9 lk_X12_addVenue (ci := 10) rfl (hW.obj (rfl : kd 0 = 1) (by decide) (by decide)) (rest := []) rfl rfl (by decide) (by decide) (Nat.le_of_ble_eq_true rfl) (Nat.le_refl 0) (Nat.le_refl 0) dL_addVenue_6 fun G1 hW1 => ?_
  show J X 6 G1 sz 0 0 9 [some (.ref (B.1 + 0)), some (.int l1), some (.int l2), some (.int l3), some (.int l4), none] [.int r.1]
  exact J_iretW hx hr hW1 dL_addVenue_9 (Nat.le_refl 0) (Nat.le_refl 0)
theorem kL_addVenue {l : Launch} {Γ : Gl} {B : Bs} {w : Wl} {G : Gf} {sz : Nat} {l1 : Int32} {l2 : Int32} {l3 : Int32} {l4 : Int32} {r : Int32 × Wl} (htr : l.stackTraces = false) (hC : GC Γ B) (hW : Wd Γ B w G) (h : sL_addVenue w l1 l2 l3 l4 = some r) : CtL l Γ yL_addVenue cL_addVenue 6 (some .int) [(0, 9, 10, 15), (0, 9, 15, 18)] 8 [.ref (B.1 + 0), .int l1, .int l2, .int l3, .int l4] G sz (WX Γ B (some (.int r.1)) r.2) 1 6 := by
  refine CtL.of rfl (Nat.le_of_ble_eq_true rfl) fun X hx hr htb hl hΓ => ?_
  subst hl hΓ
  show J X 6 G sz 0 0 0 [some (.ref (B.1 + 0)), some (.int l1), some (.int l2), some (.int l3), some (.int l4), none] []
  unfold sL_addVenue at h
  obtain ⟨res, hres, h⟩ := bnd h
  refine J_al4 hx rfl rfl dL_addVenue_0 ?_
  refine J_il4 hx rfl rfl dL_addVenue_1 ?_
  refine J_il4 hx rfl rfl dL_addVenue_2 ?_
  refine J_il4 hx rfl rfl dL_addVenue_3 ?_
  refine J_il hx rfl dL_addVenue_4 ?_
  refine J_callVX hx htb (kX12_addVenue htr hC hW hres) ml_L_9 lk_X12_addVenue (ci := 10) rfl (hW.obj (rfl : kd 0 = 1) (by decide) (by decide)) (rest := []) rfl rfl (by decide) (by decide) (Nat.le_of_ble_eq_true rfl) (by decide) (by decide) dL_addVenue_6 (fun v G1 sz1 hΨ => ?_) (fun E q sz1 hE => ?_)
  · obtain ⟨p, rfl, hv, hG, hz⟩ := hΨ
    subst hv
    obtain rfl := Option.some.inj h
    show J X 6 _ _ 1 6 9 [some (.ref (B.1 + 0)), some (.int l1), some (.int l2), some (.int l3), some (.int l4), none] [.int p.1]
    exact J_iret hx hr dL_addVenue_9 (by decide) (by decide) ⟨rfl, hG⟩
  · cases res with
    | inr p => exact hE.elim
    | inl x =>
      rcases hE with ⟨rfl, rfl⟩ | ⟨rfl, rfl⟩ | ⟨rfl, rfl⟩
      · cases (show (none : Option (Int32 × Wl)) = some r from h)
      · obtain rfl := Option.some.inj (h : some _ = some r)
        refine ⟨[], ⟨0, 9, 10, 15⟩, [⟨0, 9, 15, 18⟩], rfl, (fun z hz => nomatch hz), rfl, by decide, cl_L_15, (hx.kc hC).thr.2.2.2.2.2 _ (by decide +kernel), ?_⟩
        show J X 6 _ _ 1 6 10 [some (.ref (B.1 + 0)), some (.int l1), some (.int l2), some (.int l3), some (.int l4), none] [.ref q]
        refine J_as hx (by decide) (hc_of rfl) rfl dL_addVenue_10 ?_
        refine J_ldc hx cn_L_17 dL_addVenue_12 ?_
        exact J_iret hx hr dL_addVenue_14 (by decide) (by decide) ⟨rfl, hW⟩
      · obtain rfl := Option.some.inj (h : some _ = some r)
        refine ⟨[⟨0, 9, 10, 15⟩], ⟨0, 9, 15, 18⟩, [], rfl, (fun z hz => by
            rcases List.mem_cons.mp hz with rfl | hz
            · exact ⟨by decide, _, cl_L_15, (hx.kc hC).nc.2.2⟩
            cases hz), rfl, by decide, cl_L_18, (hx.kc hC).thr.2.2.2.2.2 _ (by decide +kernel), ?_⟩
        show J X 6 _ _ 1 6 15 [some (.ref (B.1 + 0)), some (.int l1), some (.int l2), some (.int l3), some (.int l4), none] [.ref q]
        refine J_as hx (by decide) (hc_of rfl) rfl dL_addVenue_15 ?_
        refine J_ldc hx cn_L_20 dL_addVenue_17 ?_
        exact J_iret hx hr dL_addVenue_19 (by decide) (by decide) ⟨rfl, hW⟩
theorem dL_setClimate_0 : decode cL_setClimate 0 = .ok (.aload_n 0, 1) := by decide +kernel
theorem dL_setClimate_1 : decode cL_setClimate 1 = .ok (.iload_n 1, 1) := by decide +kernel
theorem dL_setClimate_2 : decode cL_setClimate 2 = .ok (.iload_n 2, 1) := by decide +kernel
theorem dL_setClimate_3 : decode cL_setClimate 3 = .ok (.iload_n 3, 1) := by decide +kernel
theorem dL_setClimate_4 : decode cL_setClimate 4 = .ok (.invokevirtual 21, 3) := by decide +kernel
theorem dL_setClimate_7 : decode cL_setClimate 7 = .ok (.ireturn, 1) := by decide +kernel
theorem dL_setClimate_8 : decode cL_setClimate 8 = .ok (.astore 4, 2) := by decide +kernel
theorem dL_setClimate_10 : decode cL_setClimate 10 = .ok (.ldc 27, 2) := by decide +kernel
theorem dL_setClimate_12 : decode cL_setClimate 12 = .ok (.ireturn, 1) := by decide +kernel
theorem dL_setClimate_13 : decode cL_setClimate 13 = .ok (.astore 4, 2) := by decide +kernel
theorem dL_setClimate_15 : decode cL_setClimate 15 = .ok (.ldc 17, 2) := by decide +kernel
theorem dL_setClimate_17 : decode cL_setClimate 17 = .ok (.ireturn, 1) := by decide +kernel
theorem cw_setClimate : Cond.codeWith yL_setClimate cL_setClimate 5 (some .int) [(0, 7, 8, 25), (0, 7, 13, 15)] ∈ WT := (wtm_4 219 (by decide +kernel) (by decide +kernel))
theorem st_setClimate : Cond.static yL_setClimate ∈ WT := (wtm_4 218 (by decide +kernel) (by decide +kernel))
theorem hy_setClimate : yL_setClimate.cls ≠ "java/lang/invoke/MethodHandle" ∧ yL_setClimate.cls ≠ "java/lang/invoke/VarHandle" ∧ (parseMethodDescriptor yL_setClimate.desc).map (fun d => d.parameters.length) = some 4 := ⟨by decide +kernel, by decide +kernel, by decide +kernel⟩
def sO_setClimate (w : Wl) (l1 : Int32) (l2 : Int32) (l3 : Int32) : Option (Int32 × Wl) := okS (sX12_setClimate w l1 l2 l3)
def sL_setClimate (w : Wl) (l1 : Int32) (l2 : Int32) (l3 : Int32) : Option (Int32 × Wl) := (sX12_setClimate w l1 l2 l3).bind (lwW (some (-90300)) (some (-90100)) none w)
theorem kP_setClimate {l : Launch} {Γ : Gl} {B : Bs} {w : Wl} {G : Gf} {sz : Nat} {l1 : Int32} {l2 : Int32} {l3 : Int32} {r : Int32 × Wl} (hC : GC Γ B) (hW : Wd Γ B w G) (h : sX12_setClimate w l1 l2 l3 = some (Sum.inr r)) : CtL l Γ yL_setClimate cL_setClimate 5 (some .int) [(0, 7, 8, 25), (0, 7, 13, 15)] 8 [.ref (B.1 + 0), .int l1, .int l2, .int l3] G sz (WΨ Γ B (some (.int r.1)) r.2 sz) 0 0 := by
  refine CtL.of rfl (Nat.le_of_ble_eq_true rfl) fun X hx hr htb hl hΓ => ?_
  subst hl hΓ
  show J X 5 G sz 0 0 0 [some (.ref (B.1 + 0)), some (.int l1), some (.int l2), some (.int l3), none] []
  refine J_al4 hx rfl rfl dL_setClimate_0 ?_
  refine J_il4 hx rfl rfl dL_setClimate_1 ?_
  refine J_il4 hx rfl rfl dL_setClimate_2 ?_
  refine J_il4 hx rfl rfl dL_setClimate_3 ?_
  refine J_wrV hx (kO_setClimate hC hW h) ml_L_21 lk_X12_setClimate (ci := 10) rfl (hW.obj (rfl : kd 0 = 1) (by decide) (by decide)) (rest := []) rfl rfl (by decide) (by decide) (Nat.le_of_ble_eq_true rfl) (Nat.le_refl 0) (Nat.le_refl 0) dL_setClimate_4 fun G1 hW1 => ?_
  show J X 5 G1 sz 0 0 7 [some (.ref (B.1 + 0)), some (.int l1), some (.int l2), some (.int l3), none] [.int r.1]
  exact J_iretW hx hr hW1 dL_setClimate_7 (Nat.le_refl 0) (Nat.le_refl 0)
theorem kL_setClimate {l : Launch} {Γ : Gl} {B : Bs} {w : Wl} {G : Gf} {sz : Nat} {l1 : Int32} {l2 : Int32} {l3 : Int32} {r : Int32 × Wl} (htr : l.stackTraces = false) (hC : GC Γ B) (hW : Wd Γ B w G) (h : sL_setClimate w l1 l2 l3 = some r) : CtL l Γ yL_setClimate cL_setClimate 5 (some .int) [(0, 7, 8, 25), (0, 7, 13, 15)] 8 [.ref (B.1 + 0), .int l1, .int l2, .int l3] G sz (WX Γ B (some (.int r.1)) r.2) 1 6 := by
  refine CtL.of rfl (Nat.le_of_ble_eq_true rfl) fun X hx hr htb hl hΓ => ?_
  subst hl hΓ
  show J X 5 G sz 0 0 0 [some (.ref (B.1 + 0)), some (.int l1), some (.int l2), some (.int l3), none] []
  unfold sL_setClimate at h
  obtain ⟨res, hres, h⟩ := bnd h
  refine J_al4 hx rfl rfl dL_setClimate_0 ?_
  refine J_il4 hx rfl rfl dL_setClimate_1 ?_
  refine J_il4 hx rfl rfl dL_setClimate_2 ?_
  refine J_il4 hx rfl rfl dL_setClimate_3 ?_
  refine J_callVX hx htb (kX12_setClimate htr hC hW hres) ml_L_21 lk_X12_setClimate (ci := 10) rfl (hW.obj (rfl : kd 0 = 1) (by decide) (by decide)) (rest := []) rfl rfl (by decide) (by decide) (Nat.le_of_ble_eq_true rfl) (by decide) (by decide) dL_setClimate_4 (fun v G1 sz1 hΨ => ?_) (fun E q sz1 hE => ?_)
  · obtain ⟨p, rfl, hv, hG, hz⟩ := hΨ
    subst hv
    obtain rfl := Option.some.inj h
    show J X 5 _ _ 1 6 7 [some (.ref (B.1 + 0)), some (.int l1), some (.int l2), some (.int l3), none] [.int p.1]
    exact J_iret hx hr dL_setClimate_7 (by decide) (by decide) ⟨rfl, hG⟩
  · cases res with
    | inr p => exact hE.elim
    | inl x =>
      rcases hE with ⟨rfl, rfl⟩ | ⟨rfl, rfl⟩ | ⟨rfl, rfl⟩
      · obtain rfl := Option.some.inj (h : some _ = some r)
        refine ⟨[], ⟨0, 7, 8, 25⟩, [⟨0, 7, 13, 15⟩], rfl, (fun z hz => nomatch hz), rfl, by decide, cl_L_25, (hx.kc hC).thr.2.2.2.2.2 _ (by decide +kernel), ?_⟩
        show J X 5 _ _ 1 6 8 [some (.ref (B.1 + 0)), some (.int l1), some (.int l2), some (.int l3), none] [.ref q]
        refine J_as hx (by decide) (hc_of rfl) rfl dL_setClimate_8 ?_
        refine J_ldc hx cn_L_27 dL_setClimate_10 ?_
        exact J_iret hx hr dL_setClimate_12 (by decide) (by decide) ⟨rfl, hW⟩
      · obtain rfl := Option.some.inj (h : some _ = some r)
        refine ⟨[⟨0, 7, 8, 25⟩], ⟨0, 7, 13, 15⟩, [], rfl, (fun z hz => by
            rcases List.mem_cons.mp hz with rfl | hz
            · exact ⟨by decide, _, cl_L_25, (hx.kc hC).nc.1⟩
            cases hz), rfl, by decide, cl_L_15, (hx.kc hC).thr.2.2.2.2.2 _ (by decide +kernel), ?_⟩
        show J X 5 _ _ 1 6 13 [some (.ref (B.1 + 0)), some (.int l1), some (.int l2), some (.int l3), none] [.ref q]
        refine J_as hx (by decide) (hc_of rfl) rfl dL_setClimate_13 ?_
        refine J_ldc hx cn_L_17 dL_setClimate_15 ?_
        exact J_iret hx hr dL_setClimate_17 (by decide) (by decide) ⟨rfl, hW⟩
      · cases (show (none : Option (Int32 × Wl)) = some r from h)
theorem dL_setWay_0 : decode cL_setWay 0 = .ok (.aload_n 0, 1) := by decide +kernel
theorem dL_setWay_1 : decode cL_setWay 1 = .ok (.iload_n 1, 1) := by decide +kernel
theorem dL_setWay_2 : decode cL_setWay 2 = .ok (.iload_n 2, 1) := by decide +kernel
theorem dL_setWay_3 : decode cL_setWay 3 = .ok (.iload_n 3, 1) := by decide +kernel
theorem dL_setWay_4 : decode cL_setWay 4 = .ok (.invokevirtual 28, 3) := by decide +kernel
theorem dL_setWay_7 : decode cL_setWay 7 = .ok (.ireturn, 1) := by decide +kernel
theorem dL_setWay_8 : decode cL_setWay 8 = .ok (.astore 4, 2) := by decide +kernel
theorem dL_setWay_10 : decode cL_setWay 10 = .ok (.ldc 27, 2) := by decide +kernel
theorem dL_setWay_12 : decode cL_setWay 12 = .ok (.ireturn, 1) := by decide +kernel
theorem dL_setWay_13 : decode cL_setWay 13 = .ok (.astore 4, 2) := by decide +kernel
theorem dL_setWay_15 : decode cL_setWay 15 = .ok (.ldc 17, 2) := by decide +kernel
theorem dL_setWay_17 : decode cL_setWay 17 = .ok (.ireturn, 1) := by decide +kernel
theorem cw_setWay : Cond.codeWith yL_setWay cL_setWay 5 (some .int) [(0, 7, 8, 25), (0, 7, 13, 15)] ∈ WT := (wtm_4 236 (by decide +kernel) (by decide +kernel))
theorem st_setWay : Cond.static yL_setWay ∈ WT := (wtm_4 235 (by decide +kernel) (by decide +kernel))
theorem hy_setWay : yL_setWay.cls ≠ "java/lang/invoke/MethodHandle" ∧ yL_setWay.cls ≠ "java/lang/invoke/VarHandle" ∧ (parseMethodDescriptor yL_setWay.desc).map (fun d => d.parameters.length) = some 4 := ⟨by decide +kernel, by decide +kernel, by decide +kernel⟩
def sO_setWay (w : Wl) (l1 : Int32) (l2 : Int32) (l3 : Int32) : Option (Int32 × Wl) := okS (sX12_setWay w l1 l2 l3)
def sL_setWay (w : Wl) (l1 : Int32) (l2 : Int32) (l3 : Int32) : Option (Int32 × Wl) := (sX12_setWay w l1 l2 l3).bind (lwW (some (-90300)) (some (-90100)) none w)
theorem kP_setWay {l : Launch} {Γ : Gl} {B : Bs} {w : Wl} {G : Gf} {sz : Nat} {l1 : Int32} {l2 : Int32} {l3 : Int32} {r : Int32 × Wl} (hC : GC Γ B) (hW : Wd Γ B w G) (h : sX12_setWay w l1 l2 l3 = some (Sum.inr r)) : CtL l Γ yL_setWay cL_setWay 5 (some .int) [(0, 7, 8, 25), (0, 7, 13, 15)] 8 [.ref (B.1 + 0), .int l1, .int l2, .int l3] G sz (WΨ Γ B (some (.int r.1)) r.2 sz) 0 0 := by
  refine CtL.of rfl (Nat.le_of_ble_eq_true rfl) fun X hx hr htb hl hΓ => ?_
  subst hl hΓ
  show J X 5 G sz 0 0 0 [some (.ref (B.1 + 0)), some (.int l1), some (.int l2), some (.int l3), none] []
  refine J_al4 hx rfl rfl dL_setWay_0 ?_
  refine J_il4 hx rfl rfl dL_setWay_1 ?_
  refine J_il4 hx rfl rfl dL_setWay_2 ?_
  refine J_il4 hx rfl rfl dL_setWay_3 ?_
  refine J_wrV hx (kO_setWay hC hW h) ml_L_28 lk_X12_setWay (ci := 10) rfl (hW.obj (rfl : kd 0 = 1) (by decide) (by decide)) (rest := []) rfl rfl (by decide) (by decide) (Nat.le_of_ble_eq_true rfl) (Nat.le_refl 0) (Nat.le_refl 0) dL_setWay_4 fun G1 hW1 => ?_
  show J X 5 G1 sz 0 0 7 [some (.ref (B.1 + 0)), some (.int l1), some (.int l2), some (.int l3), none] [.int r.1]
  exact J_iretW hx hr hW1 dL_setWay_7 (Nat.le_refl 0) (Nat.le_refl 0)
theorem kL_setWay {l : Launch} {Γ : Gl} {B : Bs} {w : Wl} {G : Gf} {sz : Nat} {l1 : Int32} {l2 : Int32} {l3 : Int32} {r : Int32 × Wl} (htr : l.stackTraces = false) (hC : GC Γ B) (hW : Wd Γ B w G) (h : sL_setWay w l1 l2 l3 = some r) : CtL l Γ yL_setWay cL_setWay 5 (some .int) [(0, 7, 8, 25), (0, 7, 13, 15)] 8 [.ref (B.1 + 0), .int l1, .int l2, .int l3] G sz (WX Γ B (some (.int r.1)) r.2) 1 6 := by
  refine CtL.of rfl (Nat.le_of_ble_eq_true rfl) fun X hx hr htb hl hΓ => ?_
  subst hl hΓ
  show J X 5 G sz 0 0 0 [some (.ref (B.1 + 0)), some (.int l1), some (.int l2), some (.int l3), none] []
  unfold sL_setWay at h
  obtain ⟨res, hres, h⟩ := bnd h
  refine J_al4 hx rfl rfl dL_setWay_0 ?_
  refine J_il4 hx rfl rfl dL_setWay_1 ?_
  refine J_il4 hx rfl rfl dL_setWay_2 ?_
  refine J_il4 hx rfl rfl dL_setWay_3 ?_
  refine J_callVX hx htb (kX12_setWay htr hC hW hres) ml_L_28 lk_X12_setWay (ci := 10) rfl (hW.obj (rfl : kd 0 = 1) (by decide) (by decide)) (rest := []) rfl rfl (by decide) (by decide) (Nat.le_of_ble_eq_true rfl) (by decide) (by decide) dL_setWay_4 (fun v G1 sz1 hΨ => ?_) (fun E q sz1 hE => ?_)
  · obtain ⟨p, rfl, hv, hG, hz⟩ := hΨ
    subst hv
    obtain rfl := Option.some.inj h
    show J X 5 _ _ 1 6 7 [some (.ref (B.1 + 0)), some (.int l1), some (.int l2), some (.int l3), none] [.int p.1]
    exact J_iret hx hr dL_setWay_7 (by decide) (by decide) ⟨rfl, hG⟩
  · cases res with
    | inr p => exact hE.elim
    | inl x =>
      rcases hE with ⟨rfl, rfl⟩ | ⟨rfl, rfl⟩ | ⟨rfl, rfl⟩
      · obtain rfl := Option.some.inj (h : some _ = some r)
        refine ⟨[], ⟨0, 7, 8, 25⟩, [⟨0, 7, 13, 15⟩], rfl, (fun z hz => nomatch hz), rfl, by decide, cl_L_25, (hx.kc hC).thr.2.2.2.2.2 _ (by decide +kernel), ?_⟩
        show J X 5 _ _ 1 6 8 [some (.ref (B.1 + 0)), some (.int l1), some (.int l2), some (.int l3), none] [.ref q]
        refine J_as hx (by decide) (hc_of rfl) rfl dL_setWay_8 ?_
        refine J_ldc hx cn_L_27 dL_setWay_10 ?_
        exact J_iret hx hr dL_setWay_12 (by decide) (by decide) ⟨rfl, hW⟩
      · obtain rfl := Option.some.inj (h : some _ = some r)
        refine ⟨[⟨0, 7, 8, 25⟩], ⟨0, 7, 13, 15⟩, [], rfl, (fun z hz => by
            rcases List.mem_cons.mp hz with rfl | hz
            · exact ⟨by decide, _, cl_L_25, (hx.kc hC).nc.1⟩
            cases hz), rfl, by decide, cl_L_15, (hx.kc hC).thr.2.2.2.2.2 _ (by decide +kernel), ?_⟩
        show J X 5 _ _ 1 6 13 [some (.ref (B.1 + 0)), some (.int l1), some (.int l2), some (.int l3), none] [.ref q]
        refine J_as hx (by decide) (hc_of rfl) rfl dL_setWay_13 ?_
        refine J_ldc hx cn_L_17 dL_setWay_15 ?_
        exact J_iret hx hr dL_setWay_17 (by decide) (by decide) ⟨rfl, hW⟩
      · cases (show (none : Option (Int32 × Wl)) = some r from h)
theorem dL_setLender_0 : decode cL_setLender 0 = .ok (.aload_n 0, 1) := by decide +kernel
theorem dL_setLender_1 : decode cL_setLender 1 = .ok (.iload_n 1, 1) := by decide +kernel
theorem dL_setLender_2 : decode cL_setLender 2 = .ok (.iload_n 2, 1) := by decide +kernel
theorem dL_setLender_3 : decode cL_setLender 3 = .ok (.iload_n 3, 1) := by decide +kernel
theorem dL_setLender_4 : decode cL_setLender 4 = .ok (.invokevirtual 31, 3) := by decide +kernel
theorem dL_setLender_7 : decode cL_setLender 7 = .ok (.ireturn, 1) := by decide +kernel
theorem dL_setLender_8 : decode cL_setLender 8 = .ok (.astore 4, 2) := by decide +kernel
theorem dL_setLender_10 : decode cL_setLender 10 = .ok (.ldc 17, 2) := by decide +kernel
theorem dL_setLender_12 : decode cL_setLender 12 = .ok (.ireturn, 1) := by decide +kernel
theorem cw_setLender : Cond.codeWith yL_setLender cL_setLender 5 (some .int) [(0, 7, 8, 15)] ∈ WT := (wtm_5 11 (by decide +kernel) (by decide +kernel))
theorem st_setLender : Cond.static yL_setLender ∈ WT := (wtm_5 10 (by decide +kernel) (by decide +kernel))
theorem hy_setLender : yL_setLender.cls ≠ "java/lang/invoke/MethodHandle" ∧ yL_setLender.cls ≠ "java/lang/invoke/VarHandle" ∧ (parseMethodDescriptor yL_setLender.desc).map (fun d => d.parameters.length) = some 4 := ⟨by decide +kernel, by decide +kernel, by decide +kernel⟩
def sO_setLender (w : Wl) (l1 : Int32) (l2 : Int32) (l3 : Int32) : Option (Int32 × Wl) := okS (sX12_setLender w l1 l2 l3)
def sL_setLender (w : Wl) (l1 : Int32) (l2 : Int32) (l3 : Int32) : Option (Int32 × Wl) := (sX12_setLender w l1 l2 l3).bind (lwW none (some (-90100)) none w)
theorem kP_setLender {l : Launch} {Γ : Gl} {B : Bs} {w : Wl} {G : Gf} {sz : Nat} {l1 : Int32} {l2 : Int32} {l3 : Int32} {r : Int32 × Wl} (hC : GC Γ B) (hW : Wd Γ B w G) (h : sX12_setLender w l1 l2 l3 = some (Sum.inr r)) : CtL l Γ yL_setLender cL_setLender 5 (some .int) [(0, 7, 8, 15)] 8 [.ref (B.1 + 0), .int l1, .int l2, .int l3] G sz (WΨ Γ B (some (.int r.1)) r.2 sz) 0 0 := by
  refine CtL.of rfl (Nat.le_of_ble_eq_true rfl) fun X hx hr htb hl hΓ => ?_
  subst hl hΓ
  show J X 5 G sz 0 0 0 [some (.ref (B.1 + 0)), some (.int l1), some (.int l2), some (.int l3), none] []
  refine J_al4 hx rfl rfl dL_setLender_0 ?_
  refine J_il4 hx rfl rfl dL_setLender_1 ?_
  refine J_il4 hx rfl rfl dL_setLender_2 ?_
  refine J_il4 hx rfl rfl dL_setLender_3 ?_
  refine J_wrV hx (kO_setLender hC hW h) ml_L_31 lk_X12_setLender (ci := 10) rfl (hW.obj (rfl : kd 0 = 1) (by decide) (by decide)) (rest := []) rfl rfl (by decide) (by decide) (Nat.le_of_ble_eq_true rfl) (Nat.le_refl 0) (Nat.le_refl 0) dL_setLender_4 fun G1 hW1 => ?_
  show J X 5 G1 sz 0 0 7 [some (.ref (B.1 + 0)), some (.int l1), some (.int l2), some (.int l3), none] [.int r.1]
  exact J_iretW hx hr hW1 dL_setLender_7 (Nat.le_refl 0) (Nat.le_refl 0)
theorem kL_setLender {l : Launch} {Γ : Gl} {B : Bs} {w : Wl} {G : Gf} {sz : Nat} {l1 : Int32} {l2 : Int32} {l3 : Int32} {r : Int32 × Wl} (htr : l.stackTraces = false) (hC : GC Γ B) (hW : Wd Γ B w G) (h : sL_setLender w l1 l2 l3 = some r) : CtL l Γ yL_setLender cL_setLender 5 (some .int) [(0, 7, 8, 15)] 8 [.ref (B.1 + 0), .int l1, .int l2, .int l3] G sz (WX Γ B (some (.int r.1)) r.2) 1 6 := by
  refine CtL.of rfl (Nat.le_of_ble_eq_true rfl) fun X hx hr htb hl hΓ => ?_
  subst hl hΓ
  show J X 5 G sz 0 0 0 [some (.ref (B.1 + 0)), some (.int l1), some (.int l2), some (.int l3), none] []
  unfold sL_setLender at h
  obtain ⟨res, hres, h⟩ := bnd h
  refine J_al4 hx rfl rfl dL_setLender_0 ?_
  refine J_il4 hx rfl rfl dL_setLender_1 ?_
  refine J_il4 hx rfl rfl dL_setLender_2 ?_
  refine J_il4 hx rfl rfl dL_setLender_3 ?_
  refine J_callVX hx htb (kX12_setLender htr hC hW hres) ml_L_31 lk_X12_setLender (ci := 10) rfl (hW.obj (rfl : kd 0 = 1) (by decide) (by decide)) (rest := []) rfl rfl (by decide) (by decide) (Nat.le_of_ble_eq_true rfl) (by decide) (by decide) dL_setLender_4 (fun v G1 sz1 hΨ => ?_) (fun E q sz1 hE => ?_)
  · obtain ⟨p, rfl, hv, hG, hz⟩ := hΨ
    subst hv
    obtain rfl := Option.some.inj h
    show J X 5 _ _ 1 6 7 [some (.ref (B.1 + 0)), some (.int l1), some (.int l2), some (.int l3), none] [.int p.1]
    exact J_iret hx hr dL_setLender_7 (by decide) (by decide) ⟨rfl, hG⟩
  · cases res with
    | inr p => exact hE.elim
    | inl x =>
      rcases hE with ⟨rfl, rfl⟩ | ⟨rfl, rfl⟩ | ⟨rfl, rfl⟩
      · cases (show (none : Option (Int32 × Wl)) = some r from h)
      · obtain rfl := Option.some.inj (h : some _ = some r)
        refine ⟨[], ⟨0, 7, 8, 15⟩, [], rfl, (fun z hz => nomatch hz), rfl, by decide, cl_L_15, (hx.kc hC).thr.2.2.2.2.2 _ (by decide +kernel), ?_⟩
        show J X 5 _ _ 1 6 8 [some (.ref (B.1 + 0)), some (.int l1), some (.int l2), some (.int l3), none] [.ref q]
        refine J_as hx (by decide) (hc_of rfl) rfl dL_setLender_8 ?_
        refine J_ldc hx cn_L_17 dL_setLender_10 ?_
        exact J_iret hx hr dL_setLender_12 (by decide) (by decide) ⟨rfl, hW⟩
      · cases (show (none : Option (Int32 × Wl)) = some r from h)
theorem dL_setWayRate_0 : decode cL_setWayRate 0 = .ok (.aload_n 0, 1) := by decide +kernel
theorem dL_setWayRate_1 : decode cL_setWayRate 1 = .ok (.iload_n 1, 1) := by decide +kernel
theorem dL_setWayRate_2 : decode cL_setWayRate 2 = .ok (.invokevirtual 34, 3) := by decide +kernel
theorem dL_setWayRate_5 : decode cL_setWayRate 5 = .ok (.ireturn, 1) := by decide +kernel
theorem dL_setWayRate_6 : decode cL_setWayRate 6 = .ok (.astore_n 2, 1) := by decide +kernel
theorem dL_setWayRate_7 : decode cL_setWayRate 7 = .ok (.ldc 17, 2) := by decide +kernel
theorem dL_setWayRate_9 : decode cL_setWayRate 9 = .ok (.ireturn, 1) := by decide +kernel
theorem cw_setWayRate : Cond.codeWith yL_setWayRate cL_setWayRate 3 (some .int) [(0, 5, 6, 15)] ∈ WT := (wtm_6 131 (by decide +kernel) (by decide +kernel))
theorem st_setWayRate : Cond.static yL_setWayRate ∈ WT := (wtm_6 130 (by decide +kernel) (by decide +kernel))
theorem hy_setWayRate : yL_setWayRate.cls ≠ "java/lang/invoke/MethodHandle" ∧ yL_setWayRate.cls ≠ "java/lang/invoke/VarHandle" ∧ (parseMethodDescriptor yL_setWayRate.desc).map (fun d => d.parameters.length) = some 2 := ⟨by decide +kernel, by decide +kernel, by decide +kernel⟩
def sO_setWayRate (w : Wl) (l1 : Int32) : Option (Int32 × Wl) := okS (sX12_setWayRate w l1)
def sL_setWayRate (w : Wl) (l1 : Int32) : Option (Int32 × Wl) := (sX12_setWayRate w l1).bind (lwW none (some (-90100)) none w)
theorem kP_setWayRate {l : Launch} {Γ : Gl} {B : Bs} {w : Wl} {G : Gf} {sz : Nat} {l1 : Int32} {r : Int32 × Wl} (hC : GC Γ B) (hW : Wd Γ B w G) (h : sX12_setWayRate w l1 = some (Sum.inr r)) : CtL l Γ yL_setWayRate cL_setWayRate 3 (some .int) [(0, 5, 6, 15)] 8 [.ref (B.1 + 0), .int l1] G sz (WΨ Γ B (some (.int r.1)) r.2 sz) 0 0 := by
  refine CtL.of rfl (Nat.le_of_ble_eq_true rfl) fun X hx hr htb hl hΓ => ?_
  subst hl hΓ
  show J X 3 G sz 0 0 0 [some (.ref (B.1 + 0)), some (.int l1), none] []
  refine J_al4 hx rfl rfl dL_setWayRate_0 ?_
  refine J_il4 hx rfl rfl dL_setWayRate_1 ?_
  refine J_wrV hx (kO_setWayRate hC hW h) ml_L_34 lk_X12_setWayRate (ci := 10) rfl (hW.obj (rfl : kd 0 = 1) (by decide) (by decide)) (rest := []) rfl rfl (by decide) (by decide) (Nat.le_of_ble_eq_true rfl) (Nat.le_refl 0) (Nat.le_refl 0) dL_setWayRate_2 fun G1 hW1 => ?_
  show J X 3 G1 sz 0 0 5 [some (.ref (B.1 + 0)), some (.int l1), none] [.int r.1]
  exact J_iretW hx hr hW1 dL_setWayRate_5 (Nat.le_refl 0) (Nat.le_refl 0)
theorem kL_setWayRate {l : Launch} {Γ : Gl} {B : Bs} {w : Wl} {G : Gf} {sz : Nat} {l1 : Int32} {r : Int32 × Wl} (htr : l.stackTraces = false) (hC : GC Γ B) (hW : Wd Γ B w G) (h : sL_setWayRate w l1 = some r) : CtL l Γ yL_setWayRate cL_setWayRate 3 (some .int) [(0, 5, 6, 15)] 8 [.ref (B.1 + 0), .int l1] G sz (WX Γ B (some (.int r.1)) r.2) 1 6 := by
  refine CtL.of rfl (Nat.le_of_ble_eq_true rfl) fun X hx hr htb hl hΓ => ?_
  subst hl hΓ
  show J X 3 G sz 0 0 0 [some (.ref (B.1 + 0)), some (.int l1), none] []
  unfold sL_setWayRate at h
  obtain ⟨res, hres, h⟩ := bnd h
  refine J_al4 hx rfl rfl dL_setWayRate_0 ?_
  refine J_il4 hx rfl rfl dL_setWayRate_1 ?_
  refine J_callVX hx htb (kX12_setWayRate htr hC hW hres) ml_L_34 lk_X12_setWayRate (ci := 10) rfl (hW.obj (rfl : kd 0 = 1) (by decide) (by decide)) (rest := []) rfl rfl (by decide) (by decide) (Nat.le_of_ble_eq_true rfl) (by decide) (by decide) dL_setWayRate_2 (fun v G1 sz1 hΨ => ?_) (fun E q sz1 hE => ?_)
  · obtain ⟨p, rfl, hv, hG, hz⟩ := hΨ
    subst hv
    obtain rfl := Option.some.inj h
    show J X 3 _ _ 1 6 5 [some (.ref (B.1 + 0)), some (.int l1), none] [.int p.1]
    exact J_iret hx hr dL_setWayRate_5 (by decide) (by decide) ⟨rfl, hG⟩
  · cases res with
    | inr p => exact hE.elim
    | inl x =>
      rcases hE with ⟨rfl, rfl⟩ | ⟨rfl, rfl⟩ | ⟨rfl, rfl⟩
      · cases (show (none : Option (Int32 × Wl)) = some r from h)
      · obtain rfl := Option.some.inj (h : some _ = some r)
        refine ⟨[], ⟨0, 5, 6, 15⟩, [], rfl, (fun z hz => nomatch hz), rfl, by decide, cl_L_15, (hx.kc hC).thr.2.2.2.2.2 _ (by decide +kernel), ?_⟩
        show J X 3 _ _ 1 6 6 [some (.ref (B.1 + 0)), some (.int l1), none] [.ref q]
        refine J_as4 hx rfl (by decide) (hc_of rfl) rfl dL_setWayRate_6 ?_
        refine J_ldc hx cn_L_17 dL_setWayRate_7 ?_
        exact J_iret hx hr dL_setWayRate_9 (by decide) (by decide) ⟨rfl, hW⟩
      · cases (show (none : Option (Int32 × Wl)) = some r from h)
theorem dL_addCourier_0 : decode cL_addCourier 0 = .ok (.aload_n 0, 1) := by decide +kernel
theorem dL_addCourier_1 : decode cL_addCourier 1 = .ok (.iload_n 1, 1) := by decide +kernel
theorem dL_addCourier_2 : decode cL_addCourier 2 = .ok (.invokevirtual 38, 3) := by decide +kernel
theorem dL_addCourier_5 : decode cL_addCourier 5 = .ok (.ireturn, 1) := by decide +kernel
theorem dL_addCourier_6 : decode cL_addCourier 6 = .ok (.astore_n 2, 1) := by decide +kernel
theorem dL_addCourier_7 : decode cL_addCourier 7 = .ok (.ldc 27, 2) := by decide +kernel
theorem dL_addCourier_9 : decode cL_addCourier 9 = .ok (.ireturn, 1) := by decide +kernel
theorem dL_addCourier_10 : decode cL_addCourier 10 = .ok (.astore_n 2, 1) := by decide +kernel
theorem dL_addCourier_11 : decode cL_addCourier 11 = .ok (.ldc 20, 2) := by decide +kernel
theorem dL_addCourier_13 : decode cL_addCourier 13 = .ok (.ireturn, 1) := by decide +kernel
theorem cw_addCourier : Cond.codeWith yL_addCourier cL_addCourier 3 (some .int) [(0, 5, 6, 25), (0, 5, 10, 18)] ∈ WT := (wtm_5 29 (by decide +kernel) (by decide +kernel))
theorem st_addCourier : Cond.static yL_addCourier ∈ WT := (wtm_5 28 (by decide +kernel) (by decide +kernel))
theorem hy_addCourier : yL_addCourier.cls ≠ "java/lang/invoke/MethodHandle" ∧ yL_addCourier.cls ≠ "java/lang/invoke/VarHandle" ∧ (parseMethodDescriptor yL_addCourier.desc).map (fun d => d.parameters.length) = some 2 := ⟨by decide +kernel, by decide +kernel, by decide +kernel⟩
def sO_addCourier (w : Wl) (l1 : Int32) : Option (Int32 × Wl) := okS (sX12_addCourier w l1)
def sL_addCourier (w : Wl) (l1 : Int32) : Option (Int32 × Wl) := (sX12_addCourier w l1).bind (lwW (some (-90300)) none (some (-90200)) w)
theorem kP_addCourier {l : Launch} {Γ : Gl} {B : Bs} {w : Wl} {G : Gf} {sz : Nat} {l1 : Int32} {r : Int32 × Wl} (hC : GC Γ B) (hW : Wd Γ B w G) (h : sX12_addCourier w l1 = some (Sum.inr r)) : CtL l Γ yL_addCourier cL_addCourier 3 (some .int) [(0, 5, 6, 25), (0, 5, 10, 18)] 8 [.ref (B.1 + 0), .int l1] G sz (WΨ Γ B (some (.int r.1)) r.2 sz) 0 0 := by
  refine CtL.of rfl (Nat.le_of_ble_eq_true rfl) fun X hx hr htb hl hΓ => ?_
  subst hl hΓ
  show J X 3 G sz 0 0 0 [some (.ref (B.1 + 0)), some (.int l1), none] []
  refine J_al4 hx rfl rfl dL_addCourier_0 ?_
  refine J_il4 hx rfl rfl dL_addCourier_1 ?_
  refine J_wrV hx (kO_addCourier hC hW h) ml_L_38 lk_X12_addCourier (ci := 10) rfl (hW.obj (rfl : kd 0 = 1) (by decide) (by decide)) (rest := []) rfl rfl (by decide) (by decide) (Nat.le_of_ble_eq_true rfl) (Nat.le_refl 0) (Nat.le_refl 0) dL_addCourier_2 fun G1 hW1 => ?_
  show J X 3 G1 sz 0 0 5 [some (.ref (B.1 + 0)), some (.int l1), none] [.int r.1]
  exact J_iretW hx hr hW1 dL_addCourier_5 (Nat.le_refl 0) (Nat.le_refl 0)
theorem kL_addCourier {l : Launch} {Γ : Gl} {B : Bs} {w : Wl} {G : Gf} {sz : Nat} {l1 : Int32} {r : Int32 × Wl} (htr : l.stackTraces = false) (hC : GC Γ B) (hW : Wd Γ B w G) (h : sL_addCourier w l1 = some r) : CtL l Γ yL_addCourier cL_addCourier 3 (some .int) [(0, 5, 6, 25), (0, 5, 10, 18)] 8 [.ref (B.1 + 0), .int l1] G sz (WX Γ B (some (.int r.1)) r.2) 1 6 := by
  refine CtL.of rfl (Nat.le_of_ble_eq_true rfl) fun X hx hr htb hl hΓ => ?_
  subst hl hΓ
  show J X 3 G sz 0 0 0 [some (.ref (B.1 + 0)), some (.int l1), none] []
  unfold sL_addCourier at h
  obtain ⟨res, hres, h⟩ := bnd h
  refine J_al4 hx rfl rfl dL_addCourier_0 ?_
  refine J_il4 hx rfl rfl dL_addCourier_1 ?_
  refine J_callVX hx htb (kX12_addCourier htr hC hW hres) ml_L_38 lk_X12_addCourier (ci := 10) rfl (hW.obj (rfl : kd 0 = 1) (by decide) (by decide)) (rest := []) rfl rfl (by decide) (by decide) (Nat.le_of_ble_eq_true rfl) (by decide) (by decide) dL_addCourier_2 (fun v G1 sz1 hΨ => ?_) (fun E q sz1 hE => ?_)
  · obtain ⟨p, rfl, hv, hG, hz⟩ := hΨ
    subst hv
    obtain rfl := Option.some.inj h
    show J X 3 _ _ 1 6 5 [some (.ref (B.1 + 0)), some (.int l1), none] [.int p.1]
    exact J_iret hx hr dL_addCourier_5 (by decide) (by decide) ⟨rfl, hG⟩
  · cases res with
    | inr p => exact hE.elim
    | inl x =>
      rcases hE with ⟨rfl, rfl⟩ | ⟨rfl, rfl⟩ | ⟨rfl, rfl⟩
      · obtain rfl := Option.some.inj (h : some _ = some r)
        refine ⟨[], ⟨0, 5, 6, 25⟩, [⟨0, 5, 10, 18⟩], rfl, (fun z hz => nomatch hz), rfl, by decide, cl_L_25, (hx.kc hC).thr.2.2.2.2.2 _ (by decide +kernel), ?_⟩
        show J X 3 _ _ 1 6 6 [some (.ref (B.1 + 0)), some (.int l1), none] [.ref q]
        refine J_as4 hx rfl (by decide) (hc_of rfl) rfl dL_addCourier_6 ?_
        refine J_ldc hx cn_L_27 dL_addCourier_7 ?_
        exact J_iret hx hr dL_addCourier_9 (by decide) (by decide) ⟨rfl, hW⟩
      · cases (show (none : Option (Int32 × Wl)) = some r from h)
      · obtain rfl := Option.some.inj (h : some _ = some r)
        refine ⟨[⟨0, 5, 6, 25⟩], ⟨0, 5, 10, 18⟩, [], rfl, (fun z hz => by
            rcases List.mem_cons.mp hz with rfl | hz
            · exact ⟨by decide, _, cl_L_25, (hx.kc hC).nc.2.1⟩
            cases hz), rfl, by decide, cl_L_18, (hx.kc hC).thr.2.2.2.2.2 _ (by decide +kernel), ?_⟩
        show J X 3 _ _ 1 6 10 [some (.ref (B.1 + 0)), some (.int l1), none] [.ref q]
        refine J_as4 hx rfl (by decide) (hc_of rfl) rfl dL_addCourier_10 ?_
        refine J_ldc hx cn_L_20 dL_addCourier_11 ?_
        exact J_iret hx hr dL_addCourier_13 (by decide) (by decide) ⟨rfl, hW⟩
theorem dL_addCrate_0 : decode cL_addCrate 0 = .ok (.aload_n 0, 1) := by decide +kernel
theorem dL_addCrate_1 : decode cL_addCrate 1 = .ok (.iload_n 1, 1) := by decide +kernel
theorem dL_addCrate_2 : decode cL_addCrate 2 = .ok (.iload_n 2, 1) := by decide +kernel
theorem dL_addCrate_3 : decode cL_addCrate 3 = .ok (.invokevirtual 41, 3) := by decide +kernel
theorem dL_addCrate_6 : decode cL_addCrate 6 = .ok (.ireturn, 1) := by decide +kernel
theorem dL_addCrate_7 : decode cL_addCrate 7 = .ok (.astore_n 3, 1) := by decide +kernel
theorem dL_addCrate_8 : decode cL_addCrate 8 = .ok (.ldc 27, 2) := by decide +kernel
theorem dL_addCrate_10 : decode cL_addCrate 10 = .ok (.ireturn, 1) := by decide +kernel
theorem dL_addCrate_11 : decode cL_addCrate 11 = .ok (.astore_n 3, 1) := by decide +kernel
theorem dL_addCrate_12 : decode cL_addCrate 12 = .ok (.ldc 17, 2) := by decide +kernel
theorem dL_addCrate_14 : decode cL_addCrate 14 = .ok (.ireturn, 1) := by decide +kernel
theorem dL_addCrate_15 : decode cL_addCrate 15 = .ok (.astore_n 3, 1) := by decide +kernel
theorem dL_addCrate_16 : decode cL_addCrate 16 = .ok (.ldc 20, 2) := by decide +kernel
theorem dL_addCrate_18 : decode cL_addCrate 18 = .ok (.ireturn, 1) := by decide +kernel
theorem cw_addCrate : Cond.codeWith yL_addCrate cL_addCrate 4 (some .int) [(0, 6, 7, 25), (0, 6, 11, 15), (0, 6, 15, 18)] ∈ WT := (wtm_5 44 (by decide +kernel) (by decide +kernel))
theorem st_addCrate : Cond.static yL_addCrate ∈ WT := (wtm_5 43 (by decide +kernel) (by decide +kernel))
theorem hy_addCrate : yL_addCrate.cls ≠ "java/lang/invoke/MethodHandle" ∧ yL_addCrate.cls ≠ "java/lang/invoke/VarHandle" ∧ (parseMethodDescriptor yL_addCrate.desc).map (fun d => d.parameters.length) = some 3 := ⟨by decide +kernel, by decide +kernel, by decide +kernel⟩
def sO_addCrate (w : Wl) (l1 : Int32) (l2 : Int32) : Option (Int32 × Wl) := okS (sX12_addCrate w l1 l2)
def sL_addCrate (w : Wl) (l1 : Int32) (l2 : Int32) : Option (Int32 × Wl) := (sX12_addCrate w l1 l2).bind (lwW (some (-90300)) (some (-90100)) (some (-90200)) w)
theorem kP_addCrate {l : Launch} {Γ : Gl} {B : Bs} {w : Wl} {G : Gf} {sz : Nat} {l1 : Int32} {l2 : Int32} {r : Int32 × Wl} (hC : GC Γ B) (hW : Wd Γ B w G) (h : sX12_addCrate w l1 l2 = some (Sum.inr r)) : CtL l Γ yL_addCrate cL_addCrate 4 (some .int) [(0, 6, 7, 25), (0, 6, 11, 15), (0, 6, 15, 18)] 8 [.ref (B.1 + 0), .int l1, .int l2] G sz (WΨ Γ B (some (.int r.1)) r.2 sz) 0 0 := by
  refine CtL.of rfl (Nat.le_of_ble_eq_true rfl) fun X hx hr htb hl hΓ => ?_
  subst hl hΓ
  show J X 4 G sz 0 0 0 [some (.ref (B.1 + 0)), some (.int l1), some (.int l2), none] []
  refine J_al4 hx rfl rfl dL_addCrate_0 ?_
  refine J_il4 hx rfl rfl dL_addCrate_1 ?_
  refine J_il4 hx rfl rfl dL_addCrate_2 ?_
  refine J_wrV hx (kO_addCrate hC hW h) ml_L_41 lk_X12_addCrate (ci := 10) rfl (hW.obj (rfl : kd 0 = 1) (by decide) (by decide)) (rest := []) rfl rfl (by decide) (by decide) (Nat.le_of_ble_eq_true rfl) (Nat.le_refl 0) (Nat.le_refl 0) dL_addCrate_3 fun G1 hW1 => ?_
  show J X 4 G1 sz 0 0 6 [some (.ref (B.1 + 0)), some (.int l1), some (.int l2), none] [.int r.1]
  exact J_iretW hx hr hW1 dL_addCrate_6 (Nat.le_refl 0) (Nat.le_refl 0)
theorem kL_addCrate {l : Launch} {Γ : Gl} {B : Bs} {w : Wl} {G : Gf} {sz : Nat} {l1 : Int32} {l2 : Int32} {r : Int32 × Wl} (htr : l.stackTraces = false) (hC : GC Γ B) (hW : Wd Γ B w G) (h : sL_addCrate w l1 l2 = some r) : CtL l Γ yL_addCrate cL_addCrate 4 (some .int) [(0, 6, 7, 25), (0, 6, 11, 15), (0, 6, 15, 18)] 8 [.ref (B.1 + 0), .int l1, .int l2] G sz (WX Γ B (some (.int r.1)) r.2) 1 6 := by
  refine CtL.of rfl (Nat.le_of_ble_eq_true rfl) fun X hx hr htb hl hΓ => ?_
  subst hl hΓ
  show J X 4 G sz 0 0 0 [some (.ref (B.1 + 0)), some (.int l1), some (.int l2), none] []
  unfold sL_addCrate at h
  obtain ⟨res, hres, h⟩ := bnd h
  refine J_al4 hx rfl rfl dL_addCrate_0 ?_
  refine J_il4 hx rfl rfl dL_addCrate_1 ?_
  refine J_il4 hx rfl rfl dL_addCrate_2 ?_
  refine J_callVX hx htb (kX12_addCrate htr hC hW hres) ml_L_41 lk_X12_addCrate (ci := 10) rfl (hW.obj (rfl : kd 0 = 1) (by decide) (by decide)) (rest := []) rfl rfl (by decide) (by decide) (Nat.le_of_ble_eq_true rfl) (by decide) (by decide) dL_addCrate_3 (fun v G1 sz1 hΨ => ?_) (fun E q sz1 hE => ?_)
  · obtain ⟨p, rfl, hv, hG, hz⟩ := hΨ
    subst hv
    obtain rfl := Option.some.inj h
    show J X 4 _ _ 1 6 6 [some (.ref (B.1 + 0)), some (.int l1), some (.int l2), none] [.int p.1]
    exact J_iret hx hr dL_addCrate_6 (by decide) (by decide) ⟨rfl, hG⟩
  · cases res with
    | inr p => exact hE.elim
    | inl x =>
      rcases hE with ⟨rfl, rfl⟩ | ⟨rfl, rfl⟩ | ⟨rfl, rfl⟩
      · obtain rfl := Option.some.inj (h : some _ = some r)
        refine ⟨[], ⟨0, 6, 7, 25⟩, [⟨0, 6, 11, 15⟩, ⟨0, 6, 15, 18⟩], rfl, (fun z hz => nomatch hz), rfl, by decide, cl_L_25, (hx.kc hC).thr.2.2.2.2.2 _ (by decide +kernel), ?_⟩
        show J X 4 _ _ 1 6 7 [some (.ref (B.1 + 0)), some (.int l1), some (.int l2), none] [.ref q]
        refine J_as4 hx rfl (by decide) (hc_of rfl) rfl dL_addCrate_7 ?_
        refine J_ldc hx cn_L_27 dL_addCrate_8 ?_
        exact J_iret hx hr dL_addCrate_10 (by decide) (by decide) ⟨rfl, hW⟩
      · obtain rfl := Option.some.inj (h : some _ = some r)
        refine ⟨[⟨0, 6, 7, 25⟩], ⟨0, 6, 11, 15⟩, [⟨0, 6, 15, 18⟩], rfl, (fun z hz => by
            rcases List.mem_cons.mp hz with rfl | hz
            · exact ⟨by decide, _, cl_L_25, (hx.kc hC).nc.1⟩
            cases hz), rfl, by decide, cl_L_15, (hx.kc hC).thr.2.2.2.2.2 _ (by decide +kernel), ?_⟩
        show J X 4 _ _ 1 6 11 [some (.ref (B.1 + 0)), some (.int l1), some (.int l2), none] [.ref q]
        refine J_as4 hx rfl (by decide) (hc_of rfl) rfl dL_addCrate_11 ?_
        refine J_ldc hx cn_L_17 dL_addCrate_12 ?_
        exact J_iret hx hr dL_addCrate_14 (by decide) (by decide) ⟨rfl, hW⟩
      · obtain rfl := Option.some.inj (h : some _ = some r)
        refine ⟨[⟨0, 6, 7, 25⟩, ⟨0, 6, 11, 15⟩], ⟨0, 6, 15, 18⟩, [], rfl, (fun z hz => by
            rcases List.mem_cons.mp hz with rfl | hz
            · exact ⟨by decide, _, cl_L_25, (hx.kc hC).nc.2.1⟩
            rcases List.mem_cons.mp hz with rfl | hz
            · exact ⟨by decide, _, cl_L_15, (hx.kc hC).nc.2.2⟩
            cases hz), rfl, by decide, cl_L_18, (hx.kc hC).thr.2.2.2.2.2 _ (by decide +kernel), ?_⟩
        show J X 4 _ _ 1 6 15 [some (.ref (B.1 + 0)), some (.int l1), some (.int l2), none] [.ref q]
        refine J_as4 hx rfl (by decide) (hc_of rfl) rfl dL_addCrate_15 ?_
        refine J_ldc hx cn_L_20 dL_addCrate_16 ?_
        exact J_iret hx hr dL_addCrate_18 (by decide) (by decide) ⟨rfl, hW⟩
theorem dL_addWork_0 : decode cL_addWork 0 = .ok (.aload_n 0, 1) := by decide +kernel
theorem dL_addWork_1 : decode cL_addWork 1 = .ok (.iload_n 1, 1) := by decide +kernel
theorem dL_addWork_2 : decode cL_addWork 2 = .ok (.iload_n 2, 1) := by decide +kernel
theorem dL_addWork_3 : decode cL_addWork 3 = .ok (.iload_n 3, 1) := by decide +kernel
theorem dL_addWork_4 : decode cL_addWork 4 = .ok (.iload 4, 2) := by decide +kernel
theorem dL_addWork_6 : decode cL_addWork 6 = .ok (.iload 5, 2) := by decide +kernel
theorem dL_addWork_8 : decode cL_addWork 8 = .ok (.invokevirtual 45, 3) := by decide +kernel
theorem dL_addWork_11 : decode cL_addWork 11 = .ok (.ireturn, 1) := by decide +kernel
theorem dL_addWork_12 : decode cL_addWork 12 = .ok (.astore 6, 2) := by decide +kernel
theorem dL_addWork_14 : decode cL_addWork 14 = .ok (.ldc 27, 2) := by decide +kernel
theorem dL_addWork_16 : decode cL_addWork 16 = .ok (.ireturn, 1) := by decide +kernel
theorem dL_addWork_17 : decode cL_addWork 17 = .ok (.astore 6, 2) := by decide +kernel
theorem dL_addWork_19 : decode cL_addWork 19 = .ok (.ldc 17, 2) := by decide +kernel
theorem dL_addWork_21 : decode cL_addWork 21 = .ok (.ireturn, 1) := by decide +kernel
theorem dL_addWork_22 : decode cL_addWork 22 = .ok (.astore 6, 2) := by decide +kernel
theorem dL_addWork_24 : decode cL_addWork 24 = .ok (.ldc 20, 2) := by decide +kernel
theorem dL_addWork_26 : decode cL_addWork 26 = .ok (.ireturn, 1) := by decide +kernel
theorem cw_addWork : Cond.codeWith yL_addWork cL_addWork 7 (some .int) [(0, 11, 12, 25), (0, 11, 17, 15), (0, 11, 22, 18)] ∈ WT := (wtm_5 59 (by decide +kernel) (by decide +kernel))
theorem st_addWork : Cond.static yL_addWork ∈ WT := (wtm_5 58 (by decide +kernel) (by decide +kernel))
theorem hy_addWork : yL_addWork.cls ≠ "java/lang/invoke/MethodHandle" ∧ yL_addWork.cls ≠ "java/lang/invoke/VarHandle" ∧ (parseMethodDescriptor yL_addWork.desc).map (fun d => d.parameters.length) = some 6 := ⟨by decide +kernel, by decide +kernel, by decide +kernel⟩
def sO_addWork (w : Wl) (l1 : Int32) (l2 : Int32) (l3 : Int32) (l4 : Int32) (l5 : Int32) : Option (Int32 × Wl) := okS (sX12_addWork w l1 l2 l3 l4 l5)
def sL_addWork (w : Wl) (l1 : Int32) (l2 : Int32) (l3 : Int32) (l4 : Int32) (l5 : Int32) : Option (Int32 × Wl) := (sX12_addWork w l1 l2 l3 l4 l5).bind (lwW (some (-90300)) (some (-90100)) (some (-90200)) w)
theorem kP_addWork {l : Launch} {Γ : Gl} {B : Bs} {w : Wl} {G : Gf} {sz : Nat} {l1 : Int32} {l2 : Int32} {l3 : Int32} {l4 : Int32} {l5 : Int32} {r : Int32 × Wl} (hC : GC Γ B) (hW : Wd Γ B w G) (h : sX12_addWork w l1 l2 l3 l4 l5 = some (Sum.inr r)) : CtL l Γ yL_addWork cL_addWork 7 (some .int) [(0, 11, 12, 25), (0, 11, 17, 15), (0, 11, 22, 18)] 8 [.ref (B.1 + 0), .int l1, .int l2, .int l3, .int l4, .int l5] G sz (WΨ Γ B (some (.int r.1)) r.2 sz) 0 0 := by
  refine CtL.of rfl (Nat.le_of_ble_eq_true rfl) fun X hx hr htb hl hΓ => ?_
  subst hl hΓ
  show J X 7 G sz 0 0 0 [some (.ref (B.1 + 0)), some (.int l1), some (.int l2), some (.int l3), some (.int l4), some (.int l5), none] []
  refine J_al4 hx rfl rfl dL_addWork_0 ?_
  refine J_il4 hx rfl rfl dL_addWork_1 ?_
  refine J_il4 hx rfl rfl dL_addWork_2 ?_
  refine J_il4 hx rfl rfl dL_addWork_3 ?_
  refine J_il hx rfl dL_addWork_4 ?_
  refine J_il hx rfl dL_addWork_6 ?_
  refine J_wrV hx (kO_addWork hC hW h) ml_L_45 lk_X12_addWork (ci := 10) rfl (hW.obj (rfl : kd 0 = 1) (by decide) (by decide)) (rest := []) rfl rfl (by decide) (by decide) (Nat.le_of_ble_eq_true rfl) (Nat.le_refl 0) (Nat.le_refl 0) dL_addWork_8 fun G1 hW1 => ?_
  show J X 7 G1 sz 0 0 11 [some (.ref (B.1 + 0)), some (.int l1), some (.int l2), some (.int l3), some (.int l4), some (.int l5), none] [.int r.1]
  exact J_iretW hx hr hW1 dL_addWork_11 (Nat.le_refl 0) (Nat.le_refl 0)
theorem kL_addWork {l : Launch} {Γ : Gl} {B : Bs} {w : Wl} {G : Gf} {sz : Nat} {l1 : Int32} {l2 : Int32} {l3 : Int32} {l4 : Int32} {l5 : Int32} {r : Int32 × Wl} (htr : l.stackTraces = false) (hC : GC Γ B) (hW : Wd Γ B w G) (h : sL_addWork w l1 l2 l3 l4 l5 = some r) : CtL l Γ yL_addWork cL_addWork 7 (some .int) [(0, 11, 12, 25), (0, 11, 17, 15), (0, 11, 22, 18)] 8 [.ref (B.1 + 0), .int l1, .int l2, .int l3, .int l4, .int l5] G sz (WX Γ B (some (.int r.1)) r.2) 1 6 := by
  refine CtL.of rfl (Nat.le_of_ble_eq_true rfl) fun X hx hr htb hl hΓ => ?_
  subst hl hΓ
  show J X 7 G sz 0 0 0 [some (.ref (B.1 + 0)), some (.int l1), some (.int l2), some (.int l3), some (.int l4), some (.int l5), none] []
  unfold sL_addWork at h
  obtain ⟨res, hres, h⟩ := bnd h
  refine J_al4 hx rfl rfl dL_addWork_0 ?_
  refine J_il4 hx rfl rfl dL_addWork_1 ?_
  refine J_il4 hx rfl rfl dL_addWork_2 ?_
  refine J_il4 hx rfl rfl dL_addWork_3 ?_
  refine J_il hx rfl dL_addWork_4 ?_
  refine J_il hx rfl dL_addWork_6 ?_
  refine J_callVX hx htb (kX12_addWork htr hC hW hres) ml_L_45 lk_X12_addWork (ci := 10) rfl (hW.obj (rfl : kd 0 = 1) (by decide) (by decide)) (rest := []) rfl rfl (by decide) (by decide) (Nat.le_of_ble_eq_true rfl) (by decide) (by decide) dL_addWork_8 (fun v G1 sz1 hΨ => ?_) (fun E q sz1 hE => ?_)
  · obtain ⟨p, rfl, hv, hG, hz⟩ := hΨ
    subst hv
    obtain rfl := Option.some.inj h
    show J X 7 _ _ 1 6 11 [some (.ref (B.1 + 0)), some (.int l1), some (.int l2), some (.int l3), some (.int l4), some (.int l5), none] [.int p.1]
    exact J_iret hx hr dL_addWork_11 (by decide) (by decide) ⟨rfl, hG⟩
  · cases res with
    | inr p => exact hE.elim
    | inl x =>
      rcases hE with ⟨rfl, rfl⟩ | ⟨rfl, rfl⟩ | ⟨rfl, rfl⟩
      · obtain rfl := Option.some.inj (h : some _ = some r)
        refine ⟨[], ⟨0, 11, 12, 25⟩, [⟨0, 11, 17, 15⟩, ⟨0, 11, 22, 18⟩], rfl, (fun z hz => nomatch hz), rfl, by decide, cl_L_25, (hx.kc hC).thr.2.2.2.2.2 _ (by decide +kernel), ?_⟩
        show J X 7 _ _ 1 6 12 [some (.ref (B.1 + 0)), some (.int l1), some (.int l2), some (.int l3), some (.int l4), some (.int l5), none] [.ref q]
        refine J_as hx (by decide) (hc_of rfl) rfl dL_addWork_12 ?_
        refine J_ldc hx cn_L_27 dL_addWork_14 ?_
        exact J_iret hx hr dL_addWork_16 (by decide) (by decide) ⟨rfl, hW⟩
      · obtain rfl := Option.some.inj (h : some _ = some r)
        refine ⟨[⟨0, 11, 12, 25⟩], ⟨0, 11, 17, 15⟩, [⟨0, 11, 22, 18⟩], rfl, (fun z hz => by
            rcases List.mem_cons.mp hz with rfl | hz
            · exact ⟨by decide, _, cl_L_25, (hx.kc hC).nc.1⟩
            cases hz), rfl, by decide, cl_L_15, (hx.kc hC).thr.2.2.2.2.2 _ (by decide +kernel), ?_⟩
        show J X 7 _ _ 1 6 17 [some (.ref (B.1 + 0)), some (.int l1), some (.int l2), some (.int l3), some (.int l4), some (.int l5), none] [.ref q]
        refine J_as hx (by decide) (hc_of rfl) rfl dL_addWork_17 ?_
        refine J_ldc hx cn_L_17 dL_addWork_19 ?_
        exact J_iret hx hr dL_addWork_21 (by decide) (by decide) ⟨rfl, hW⟩
      · obtain rfl := Option.some.inj (h : some _ = some r)
        refine ⟨[⟨0, 11, 12, 25⟩, ⟨0, 11, 17, 15⟩], ⟨0, 11, 22, 18⟩, [], rfl, (fun z hz => by
            rcases List.mem_cons.mp hz with rfl | hz
            · exact ⟨by decide, _, cl_L_25, (hx.kc hC).nc.2.1⟩
            rcases List.mem_cons.mp hz with rfl | hz
            · exact ⟨by decide, _, cl_L_15, (hx.kc hC).nc.2.2⟩
            cases hz), rfl, by decide, cl_L_18, (hx.kc hC).thr.2.2.2.2.2 _ (by decide +kernel), ?_⟩
        show J X 7 _ _ 1 6 22 [some (.ref (B.1 + 0)), some (.int l1), some (.int l2), some (.int l3), some (.int l4), some (.int l5), none] [.ref q]
        refine J_as hx (by decide) (hc_of rfl) rfl dL_addWork_22 ?_
        refine J_ldc hx cn_L_20 dL_addWork_24 ?_
        exact J_iret hx hr dL_addWork_26 (by decide) (by decide) ⟨rfl, hW⟩
theorem dL_open_0 : decode cL_open 0 = .ok (.aload_n 0, 1) := by decide +kernel
theorem dL_open_1 : decode cL_open 1 = .ok (.iload_n 1, 1) := by decide +kernel
theorem dL_open_2 : decode cL_open 2 = .ok (.invokevirtual 49, 3) := by decide +kernel
theorem dL_open_5 : decode cL_open 5 = .ok (.ireturn, 1) := by decide +kernel
theorem dL_open_6 : decode cL_open 6 = .ok (.astore_n 2, 1) := by decide +kernel
theorem dL_open_7 : decode cL_open 7 = .ok (.ldc 27, 2) := by decide +kernel
theorem dL_open_9 : decode cL_open 9 = .ok (.ireturn, 1) := by decide +kernel
theorem dL_open_10 : decode cL_open 10 = .ok (.astore_n 2, 1) := by decide +kernel
theorem dL_open_11 : decode cL_open 11 = .ok (.ldc 20, 2) := by decide +kernel
theorem dL_open_13 : decode cL_open 13 = .ok (.ireturn, 1) := by decide +kernel
theorem cw_open : Cond.codeWith yL_open cL_open 3 (some .int) [(0, 5, 6, 25), (0, 5, 10, 18)] ∈ WT := (wtm_6 15 (by decide +kernel) (by decide +kernel))
theorem st_open : Cond.static yL_open ∈ WT := (wtm_6 14 (by decide +kernel) (by decide +kernel))
theorem hy_open : yL_open.cls ≠ "java/lang/invoke/MethodHandle" ∧ yL_open.cls ≠ "java/lang/invoke/VarHandle" ∧ (parseMethodDescriptor yL_open.desc).map (fun d => d.parameters.length) = some 2 := ⟨by decide +kernel, by decide +kernel, by decide +kernel⟩
def sO_open (w : Wl) (l1 : Int32) : Option (Int32 × Wl) := okS (sX12_open w l1)
def sL_open (w : Wl) (l1 : Int32) : Option (Int32 × Wl) := (sX12_open w l1).bind (lwW (some (-90300)) none (some (-90200)) w)
theorem kP_open {l : Launch} {Γ : Gl} {B : Bs} {w : Wl} {G : Gf} {sz : Nat} {l1 : Int32} {r : Int32 × Wl} (hC : GC Γ B) (hW : Wd Γ B w G) (h : sX12_open w l1 = some (Sum.inr r)) : CtL l Γ yL_open cL_open 3 (some .int) [(0, 5, 6, 25), (0, 5, 10, 18)] 8 [.ref (B.1 + 0), .int l1] G sz (WΨ Γ B (some (.int r.1)) r.2 sz) 0 0 := by
  refine CtL.of rfl (Nat.le_of_ble_eq_true rfl) fun X hx hr htb hl hΓ => ?_
  subst hl hΓ
  show J X 3 G sz 0 0 0 [some (.ref (B.1 + 0)), some (.int l1), none] []
  refine J_al4 hx rfl rfl dL_open_0 ?_
  refine J_il4 hx rfl rfl dL_open_1 ?_
  refine J_wrV hx (kO_open hC hW h) ml_L_49 lk_X12_open (ci := 10) rfl (hW.obj (rfl : kd 0 = 1) (by decide) (by decide)) (rest := []) rfl rfl (by decide) (by decide) (Nat.le_of_ble_eq_true rfl) (Nat.le_refl 0) (Nat.le_refl 0) dL_open_2 fun G1 hW1 => ?_
  show J X 3 G1 sz 0 0 5 [some (.ref (B.1 + 0)), some (.int l1), none] [.int r.1]
  exact J_iretW hx hr hW1 dL_open_5 (Nat.le_refl 0) (Nat.le_refl 0)
theorem kL_open {l : Launch} {Γ : Gl} {B : Bs} {w : Wl} {G : Gf} {sz : Nat} {l1 : Int32} {r : Int32 × Wl} (htr : l.stackTraces = false) (hC : GC Γ B) (hW : Wd Γ B w G) (h : sL_open w l1 = some r) : CtL l Γ yL_open cL_open 3 (some .int) [(0, 5, 6, 25), (0, 5, 10, 18)] 8 [.ref (B.1 + 0), .int l1] G sz (WX Γ B (some (.int r.1)) r.2) 1 6 := by
  refine CtL.of rfl (Nat.le_of_ble_eq_true rfl) fun X hx hr htb hl hΓ => ?_
  subst hl hΓ
  show J X 3 G sz 0 0 0 [some (.ref (B.1 + 0)), some (.int l1), none] []
  unfold sL_open at h
  obtain ⟨res, hres, h⟩ := bnd h
  refine J_al4 hx rfl rfl dL_open_0 ?_
  refine J_il4 hx rfl rfl dL_open_1 ?_
  refine J_callVX hx htb (kX12_open htr hC hW hres) ml_L_49 lk_X12_open (ci := 10) rfl (hW.obj (rfl : kd 0 = 1) (by decide) (by decide)) (rest := []) rfl rfl (by decide) (by decide) (Nat.le_of_ble_eq_true rfl) (by decide) (by decide) dL_open_2 (fun v G1 sz1 hΨ => ?_) (fun E q sz1 hE => ?_)
  · obtain ⟨p, rfl, hv, hG, hz⟩ := hΨ
    subst hv
    obtain rfl := Option.some.inj h
    show J X 3 _ _ 1 6 5 [some (.ref (B.1 + 0)), some (.int l1), none] [.int p.1]
    exact J_iret hx hr dL_open_5 (by decide) (by decide) ⟨rfl, hG⟩
  · cases res with
    | inr p => exact hE.elim
    | inl x =>
      rcases hE with ⟨rfl, rfl⟩ | ⟨rfl, rfl⟩ | ⟨rfl, rfl⟩
      · obtain rfl := Option.some.inj (h : some _ = some r)
        refine ⟨[], ⟨0, 5, 6, 25⟩, [⟨0, 5, 10, 18⟩], rfl, (fun z hz => nomatch hz), rfl, by decide, cl_L_25, (hx.kc hC).thr.2.2.2.2.2 _ (by decide +kernel), ?_⟩
        show J X 3 _ _ 1 6 6 [some (.ref (B.1 + 0)), some (.int l1), none] [.ref q]
        refine J_as4 hx rfl (by decide) (hc_of rfl) rfl dL_open_6 ?_
        refine J_ldc hx cn_L_27 dL_open_7 ?_
        exact J_iret hx hr dL_open_9 (by decide) (by decide) ⟨rfl, hW⟩
      · cases (show (none : Option (Int32 × Wl)) = some r from h)
      · obtain rfl := Option.some.inj (h : some _ = some r)
        refine ⟨[⟨0, 5, 6, 25⟩], ⟨0, 5, 10, 18⟩, [], rfl, (fun z hz => by
            rcases List.mem_cons.mp hz with rfl | hz
            · exact ⟨by decide, _, cl_L_25, (hx.kc hC).nc.2.1⟩
            cases hz), rfl, by decide, cl_L_18, (hx.kc hC).thr.2.2.2.2.2 _ (by decide +kernel), ?_⟩
        show J X 3 _ _ 1 6 10 [some (.ref (B.1 + 0)), some (.int l1), none] [.ref q]
        refine J_as4 hx rfl (by decide) (hc_of rfl) rfl dL_open_10 ?_
        refine J_ldc hx cn_L_20 dL_open_11 ?_
        exact J_iret hx hr dL_open_13 (by decide) (by decide) ⟨rfl, hW⟩
theorem dL_close_0 : decode cL_close 0 = .ok (.aload_n 0, 1) := by decide +kernel
theorem dL_close_1 : decode cL_close 1 = .ok (.iload_n 1, 1) := by decide +kernel
theorem dL_close_2 : decode cL_close 2 = .ok (.invokevirtual 52, 3) := by decide +kernel
theorem dL_close_5 : decode cL_close 5 = .ok (.ireturn, 1) := by decide +kernel
theorem dL_close_6 : decode cL_close 6 = .ok (.astore_n 2, 1) := by decide +kernel
theorem dL_close_7 : decode cL_close 7 = .ok (.ldc 27, 2) := by decide +kernel
theorem dL_close_9 : decode cL_close 9 = .ok (.ireturn, 1) := by decide +kernel
theorem dL_close_10 : decode cL_close 10 = .ok (.astore_n 2, 1) := by decide +kernel
theorem dL_close_11 : decode cL_close 11 = .ok (.ldc 20, 2) := by decide +kernel
theorem dL_close_13 : decode cL_close 13 = .ok (.ireturn, 1) := by decide +kernel
theorem cw_close : Cond.codeWith yL_close cL_close 3 (some .int) [(0, 5, 6, 25), (0, 5, 10, 18)] ∈ WT := (wtm_6 22 (by decide +kernel) (by decide +kernel))
theorem st_close : Cond.static yL_close ∈ WT := (wtm_6 21 (by decide +kernel) (by decide +kernel))
theorem hy_close : yL_close.cls ≠ "java/lang/invoke/MethodHandle" ∧ yL_close.cls ≠ "java/lang/invoke/VarHandle" ∧ (parseMethodDescriptor yL_close.desc).map (fun d => d.parameters.length) = some 2 := ⟨by decide +kernel, by decide +kernel, by decide +kernel⟩
def sO_close (w : Wl) (l1 : Int32) : Option (Int32 × Wl) := okS (sX12_close w l1)
def sL_close (w : Wl) (l1 : Int32) : Option (Int32 × Wl) := (sX12_close w l1).bind (lwW (some (-90300)) none (some (-90200)) w)
theorem kP_close {l : Launch} {Γ : Gl} {B : Bs} {w : Wl} {G : Gf} {sz : Nat} {l1 : Int32} {r : Int32 × Wl} (hC : GC Γ B) (hW : Wd Γ B w G) (h : sX12_close w l1 = some (Sum.inr r)) : CtL l Γ yL_close cL_close 3 (some .int) [(0, 5, 6, 25), (0, 5, 10, 18)] 8 [.ref (B.1 + 0), .int l1] G sz (WΨ Γ B (some (.int r.1)) r.2 sz) 0 0 := by
  refine CtL.of rfl (Nat.le_of_ble_eq_true rfl) fun X hx hr htb hl hΓ => ?_
  subst hl hΓ
  show J X 3 G sz 0 0 0 [some (.ref (B.1 + 0)), some (.int l1), none] []
  refine J_al4 hx rfl rfl dL_close_0 ?_
  refine J_il4 hx rfl rfl dL_close_1 ?_
  refine J_wrV hx (kO_close hC hW h) ml_L_52 lk_X12_close (ci := 10) rfl (hW.obj (rfl : kd 0 = 1) (by decide) (by decide)) (rest := []) rfl rfl (by decide) (by decide) (Nat.le_of_ble_eq_true rfl) (Nat.le_refl 0) (Nat.le_refl 0) dL_close_2 fun G1 hW1 => ?_
  show J X 3 G1 sz 0 0 5 [some (.ref (B.1 + 0)), some (.int l1), none] [.int r.1]
  exact J_iretW hx hr hW1 dL_close_5 (Nat.le_refl 0) (Nat.le_refl 0)
theorem kL_close {l : Launch} {Γ : Gl} {B : Bs} {w : Wl} {G : Gf} {sz : Nat} {l1 : Int32} {r : Int32 × Wl} (htr : l.stackTraces = false) (hC : GC Γ B) (hW : Wd Γ B w G) (h : sL_close w l1 = some r) : CtL l Γ yL_close cL_close 3 (some .int) [(0, 5, 6, 25), (0, 5, 10, 18)] 8 [.ref (B.1 + 0), .int l1] G sz (WX Γ B (some (.int r.1)) r.2) 1 6 := by
  refine CtL.of rfl (Nat.le_of_ble_eq_true rfl) fun X hx hr htb hl hΓ => ?_
  subst hl hΓ
  show J X 3 G sz 0 0 0 [some (.ref (B.1 + 0)), some (.int l1), none] []
  unfold sL_close at h
  obtain ⟨res, hres, h⟩ := bnd h
  refine J_al4 hx rfl rfl dL_close_0 ?_
  refine J_il4 hx rfl rfl dL_close_1 ?_
  refine J_callVX hx htb (kX12_close htr hC hW hres) ml_L_52 lk_X12_close (ci := 10) rfl (hW.obj (rfl : kd 0 = 1) (by decide) (by decide)) (rest := []) rfl rfl (by decide) (by decide) (Nat.le_of_ble_eq_true rfl) (by decide) (by decide) dL_close_2 (fun v G1 sz1 hΨ => ?_) (fun E q sz1 hE => ?_)
  · obtain ⟨p, rfl, hv, hG, hz⟩ := hΨ
    subst hv
    obtain rfl := Option.some.inj h
    show J X 3 _ _ 1 6 5 [some (.ref (B.1 + 0)), some (.int l1), none] [.int p.1]
    exact J_iret hx hr dL_close_5 (by decide) (by decide) ⟨rfl, hG⟩
  · cases res with
    | inr p => exact hE.elim
    | inl x =>
      rcases hE with ⟨rfl, rfl⟩ | ⟨rfl, rfl⟩ | ⟨rfl, rfl⟩
      · obtain rfl := Option.some.inj (h : some _ = some r)
        refine ⟨[], ⟨0, 5, 6, 25⟩, [⟨0, 5, 10, 18⟩], rfl, (fun z hz => nomatch hz), rfl, by decide, cl_L_25, (hx.kc hC).thr.2.2.2.2.2 _ (by decide +kernel), ?_⟩
        show J X 3 _ _ 1 6 6 [some (.ref (B.1 + 0)), some (.int l1), none] [.ref q]
        refine J_as4 hx rfl (by decide) (hc_of rfl) rfl dL_close_6 ?_
        refine J_ldc hx cn_L_27 dL_close_7 ?_
        exact J_iret hx hr dL_close_9 (by decide) (by decide) ⟨rfl, hW⟩
      · cases (show (none : Option (Int32 × Wl)) = some r from h)
      · obtain rfl := Option.some.inj (h : some _ = some r)
        refine ⟨[⟨0, 5, 6, 25⟩], ⟨0, 5, 10, 18⟩, [], rfl, (fun z hz => by
            rcases List.mem_cons.mp hz with rfl | hz
            · exact ⟨by decide, _, cl_L_25, (hx.kc hC).nc.2.1⟩
            cases hz), rfl, by decide, cl_L_18, (hx.kc hC).thr.2.2.2.2.2 _ (by decide +kernel), ?_⟩
        show J X 3 _ _ 1 6 10 [some (.ref (B.1 + 0)), some (.int l1), none] [.ref q]
        refine J_as4 hx rfl (by decide) (hc_of rfl) rfl dL_close_10 ?_
        refine J_ldc hx cn_L_20 dL_close_11 ?_
        exact J_iret hx hr dL_close_13 (by decide) (by decide) ⟨rfl, hW⟩
theorem dL_nest_0 : decode cL_nest 0 = .ok (.aload_n 0, 1) := by decide +kernel
theorem dL_nest_1 : decode cL_nest 1 = .ok (.iload_n 1, 1) := by decide +kernel
theorem dL_nest_2 : decode cL_nest 2 = .ok (.iload_n 2, 1) := by decide +kernel
theorem dL_nest_3 : decode cL_nest 3 = .ok (.invokevirtual 55, 3) := by decide +kernel
theorem dL_nest_6 : decode cL_nest 6 = .ok (.ireturn, 1) := by decide +kernel
theorem dL_nest_7 : decode cL_nest 7 = .ok (.astore_n 3, 1) := by decide +kernel
theorem dL_nest_8 : decode cL_nest 8 = .ok (.ldc 27, 2) := by decide +kernel
theorem dL_nest_10 : decode cL_nest 10 = .ok (.ireturn, 1) := by decide +kernel
theorem dL_nest_11 : decode cL_nest 11 = .ok (.astore_n 3, 1) := by decide +kernel
theorem dL_nest_12 : decode cL_nest 12 = .ok (.ldc 20, 2) := by decide +kernel
theorem dL_nest_14 : decode cL_nest 14 = .ok (.ireturn, 1) := by decide +kernel
theorem cw_nest : Cond.codeWith yL_nest cL_nest 4 (some .int) [(0, 6, 7, 25), (0, 6, 11, 18)] ∈ WT := (wtm_6 32 (by decide +kernel) (by decide +kernel))
theorem st_nest : Cond.static yL_nest ∈ WT := (wtm_6 31 (by decide +kernel) (by decide +kernel))
theorem hy_nest : yL_nest.cls ≠ "java/lang/invoke/MethodHandle" ∧ yL_nest.cls ≠ "java/lang/invoke/VarHandle" ∧ (parseMethodDescriptor yL_nest.desc).map (fun d => d.parameters.length) = some 3 := ⟨by decide +kernel, by decide +kernel, by decide +kernel⟩
def sO_nest (w : Wl) (l1 : Int32) (l2 : Int32) : Option (Int32 × Wl) := okS (sX12_nest w l1 l2)
def sL_nest (w : Wl) (l1 : Int32) (l2 : Int32) : Option (Int32 × Wl) := (sX12_nest w l1 l2).bind (lwW (some (-90300)) none (some (-90200)) w)
theorem kP_nest {l : Launch} {Γ : Gl} {B : Bs} {w : Wl} {G : Gf} {sz : Nat} {l1 : Int32} {l2 : Int32} {r : Int32 × Wl} (hC : GC Γ B) (hW : Wd Γ B w G) (h : sX12_nest w l1 l2 = some (Sum.inr r)) : CtL l Γ yL_nest cL_nest 4 (some .int) [(0, 6, 7, 25), (0, 6, 11, 18)] 8 [.ref (B.1 + 0), .int l1, .int l2] G sz (WΨ Γ B (some (.int r.1)) r.2 sz) 0 0 := by
  refine CtL.of rfl (Nat.le_of_ble_eq_true rfl) fun X hx hr htb hl hΓ => ?_
  subst hl hΓ
  show J X 4 G sz 0 0 0 [some (.ref (B.1 + 0)), some (.int l1), some (.int l2), none] []
  refine J_al4 hx rfl rfl dL_nest_0 ?_
  refine J_il4 hx rfl rfl dL_nest_1 ?_
  refine J_il4 hx rfl rfl dL_nest_2 ?_
  refine J_wrV hx (kO_nest hC hW h) ml_L_55 lk_X12_nest (ci := 10) rfl (hW.obj (rfl : kd 0 = 1) (by decide) (by decide)) (rest := []) rfl rfl (by decide) (by decide) (Nat.le_of_ble_eq_true rfl) (Nat.le_refl 0) (Nat.le_refl 0) dL_nest_3 fun G1 hW1 => ?_
  show J X 4 G1 sz 0 0 6 [some (.ref (B.1 + 0)), some (.int l1), some (.int l2), none] [.int r.1]
  exact J_iretW hx hr hW1 dL_nest_6 (Nat.le_refl 0) (Nat.le_refl 0)
theorem kL_nest {l : Launch} {Γ : Gl} {B : Bs} {w : Wl} {G : Gf} {sz : Nat} {l1 : Int32} {l2 : Int32} {r : Int32 × Wl} (htr : l.stackTraces = false) (hC : GC Γ B) (hW : Wd Γ B w G) (h : sL_nest w l1 l2 = some r) : CtL l Γ yL_nest cL_nest 4 (some .int) [(0, 6, 7, 25), (0, 6, 11, 18)] 8 [.ref (B.1 + 0), .int l1, .int l2] G sz (WX Γ B (some (.int r.1)) r.2) 1 6 := by
  refine CtL.of rfl (Nat.le_of_ble_eq_true rfl) fun X hx hr htb hl hΓ => ?_
  subst hl hΓ
  show J X 4 G sz 0 0 0 [some (.ref (B.1 + 0)), some (.int l1), some (.int l2), none] []
  unfold sL_nest at h
  obtain ⟨res, hres, h⟩ := bnd h
  refine J_al4 hx rfl rfl dL_nest_0 ?_
  refine J_il4 hx rfl rfl dL_nest_1 ?_
  refine J_il4 hx rfl rfl dL_nest_2 ?_
  refine J_callVX hx htb (kX12_nest htr hC hW hres) ml_L_55 lk_X12_nest (ci := 10) rfl (hW.obj (rfl : kd 0 = 1) (by decide) (by decide)) (rest := []) rfl rfl (by decide) (by decide) (Nat.le_of_ble_eq_true rfl) (by decide) (by decide) dL_nest_3 (fun v G1 sz1 hΨ => ?_) (fun E q sz1 hE => ?_)
  · obtain ⟨p, rfl, hv, hG, hz⟩ := hΨ
    subst hv
    obtain rfl := Option.some.inj h
    show J X 4 _ _ 1 6 6 [some (.ref (B.1 + 0)), some (.int l1), some (.int l2), none] [.int p.1]
    exact J_iret hx hr dL_nest_6 (by decide) (by decide) ⟨rfl, hG⟩
  · cases res with
    | inr p => exact hE.elim
    | inl x =>
      rcases hE with ⟨rfl, rfl⟩ | ⟨rfl, rfl⟩ | ⟨rfl, rfl⟩
      · obtain rfl := Option.some.inj (h : some _ = some r)
        refine ⟨[], ⟨0, 6, 7, 25⟩, [⟨0, 6, 11, 18⟩], rfl, (fun z hz => nomatch hz), rfl, by decide, cl_L_25, (hx.kc hC).thr.2.2.2.2.2 _ (by decide +kernel), ?_⟩
        show J X 4 _ _ 1 6 7 [some (.ref (B.1 + 0)), some (.int l1), some (.int l2), none] [.ref q]
        refine J_as4 hx rfl (by decide) (hc_of rfl) rfl dL_nest_7 ?_
        refine J_ldc hx cn_L_27 dL_nest_8 ?_
        exact J_iret hx hr dL_nest_10 (by decide) (by decide) ⟨rfl, hW⟩
      · cases (show (none : Option (Int32 × Wl)) = some r from h)
      · obtain rfl := Option.some.inj (h : some _ = some r)
        refine ⟨[⟨0, 6, 7, 25⟩], ⟨0, 6, 11, 18⟩, [], rfl, (fun z hz => by
            rcases List.mem_cons.mp hz with rfl | hz
            · exact ⟨by decide, _, cl_L_25, (hx.kc hC).nc.2.1⟩
            cases hz), rfl, by decide, cl_L_18, (hx.kc hC).thr.2.2.2.2.2 _ (by decide +kernel), ?_⟩
        show J X 4 _ _ 1 6 11 [some (.ref (B.1 + 0)), some (.int l1), some (.int l2), none] [.ref q]
        refine J_as4 hx rfl (by decide) (hc_of rfl) rfl dL_nest_11 ?_
        refine J_ldc hx cn_L_20 dL_nest_12 ?_
        exact J_iret hx hr dL_nest_14 (by decide) (by decide) ⟨rfl, hW⟩
theorem dL_takeOut_0 : decode cL_takeOut 0 = .ok (.aload_n 0, 1) := by decide +kernel
theorem dL_takeOut_1 : decode cL_takeOut 1 = .ok (.iload_n 1, 1) := by decide +kernel
theorem dL_takeOut_2 : decode cL_takeOut 2 = .ok (.invokevirtual 58, 3) := by decide +kernel
theorem dL_takeOut_5 : decode cL_takeOut 5 = .ok (.ireturn, 1) := by decide +kernel
theorem dL_takeOut_6 : decode cL_takeOut 6 = .ok (.astore_n 2, 1) := by decide +kernel
theorem dL_takeOut_7 : decode cL_takeOut 7 = .ok (.ldc 27, 2) := by decide +kernel
theorem dL_takeOut_9 : decode cL_takeOut 9 = .ok (.ireturn, 1) := by decide +kernel
theorem dL_takeOut_10 : decode cL_takeOut 10 = .ok (.astore_n 2, 1) := by decide +kernel
theorem dL_takeOut_11 : decode cL_takeOut 11 = .ok (.ldc 20, 2) := by decide +kernel
theorem dL_takeOut_13 : decode cL_takeOut 13 = .ok (.ireturn, 1) := by decide +kernel
theorem cw_takeOut : Cond.codeWith yL_takeOut cL_takeOut 3 (some .int) [(0, 5, 6, 25), (0, 5, 10, 18)] ∈ WT := (wtm_6 39 (by decide +kernel) (by decide +kernel))
theorem st_takeOut : Cond.static yL_takeOut ∈ WT := (wtm_6 38 (by decide +kernel) (by decide +kernel))
theorem hy_takeOut : yL_takeOut.cls ≠ "java/lang/invoke/MethodHandle" ∧ yL_takeOut.cls ≠ "java/lang/invoke/VarHandle" ∧ (parseMethodDescriptor yL_takeOut.desc).map (fun d => d.parameters.length) = some 2 := ⟨by decide +kernel, by decide +kernel, by decide +kernel⟩
def sO_takeOut (w : Wl) (l1 : Int32) : Option (Int32 × Wl) := okS (sX12_takeOut w l1)
def sL_takeOut (w : Wl) (l1 : Int32) : Option (Int32 × Wl) := (sX12_takeOut w l1).bind (lwW (some (-90300)) none (some (-90200)) w)
theorem kP_takeOut {l : Launch} {Γ : Gl} {B : Bs} {w : Wl} {G : Gf} {sz : Nat} {l1 : Int32} {r : Int32 × Wl} (hC : GC Γ B) (hW : Wd Γ B w G) (h : sX12_takeOut w l1 = some (Sum.inr r)) : CtL l Γ yL_takeOut cL_takeOut 3 (some .int) [(0, 5, 6, 25), (0, 5, 10, 18)] 8 [.ref (B.1 + 0), .int l1] G sz (WΨ Γ B (some (.int r.1)) r.2 sz) 0 0 := by
  refine CtL.of rfl (Nat.le_of_ble_eq_true rfl) fun X hx hr htb hl hΓ => ?_
  subst hl hΓ
  show J X 3 G sz 0 0 0 [some (.ref (B.1 + 0)), some (.int l1), none] []
  refine J_al4 hx rfl rfl dL_takeOut_0 ?_
  refine J_il4 hx rfl rfl dL_takeOut_1 ?_
  refine J_wrV hx (kO_takeOut hC hW h) ml_L_58 lk_X12_takeOut (ci := 10) rfl (hW.obj (rfl : kd 0 = 1) (by decide) (by decide)) (rest := []) rfl rfl (by decide) (by decide) (Nat.le_of_ble_eq_true rfl) (Nat.le_refl 0) (Nat.le_refl 0) dL_takeOut_2 fun G1 hW1 => ?_
  show J X 3 G1 sz 0 0 5 [some (.ref (B.1 + 0)), some (.int l1), none] [.int r.1]
  exact J_iretW hx hr hW1 dL_takeOut_5 (Nat.le_refl 0) (Nat.le_refl 0)
theorem kL_takeOut {l : Launch} {Γ : Gl} {B : Bs} {w : Wl} {G : Gf} {sz : Nat} {l1 : Int32} {r : Int32 × Wl} (htr : l.stackTraces = false) (hC : GC Γ B) (hW : Wd Γ B w G) (h : sL_takeOut w l1 = some r) : CtL l Γ yL_takeOut cL_takeOut 3 (some .int) [(0, 5, 6, 25), (0, 5, 10, 18)] 8 [.ref (B.1 + 0), .int l1] G sz (WX Γ B (some (.int r.1)) r.2) 1 6 := by
  refine CtL.of rfl (Nat.le_of_ble_eq_true rfl) fun X hx hr htb hl hΓ => ?_
  subst hl hΓ
  show J X 3 G sz 0 0 0 [some (.ref (B.1 + 0)), some (.int l1), none] []
  unfold sL_takeOut at h
  obtain ⟨res, hres, h⟩ := bnd h
  refine J_al4 hx rfl rfl dL_takeOut_0 ?_
  refine J_il4 hx rfl rfl dL_takeOut_1 ?_
  refine J_callVX hx htb (kX12_takeOut htr hC hW hres) ml_L_58 lk_X12_takeOut (ci := 10) rfl (hW.obj (rfl : kd 0 = 1) (by decide) (by decide)) (rest := []) rfl rfl (by decide) (by decide) (Nat.le_of_ble_eq_true rfl) (by decide) (by decide) dL_takeOut_2 (fun v G1 sz1 hΨ => ?_) (fun E q sz1 hE => ?_)
  · obtain ⟨p, rfl, hv, hG, hz⟩ := hΨ
    subst hv
    obtain rfl := Option.some.inj h
    show J X 3 _ _ 1 6 5 [some (.ref (B.1 + 0)), some (.int l1), none] [.int p.1]
    exact J_iret hx hr dL_takeOut_5 (by decide) (by decide) ⟨rfl, hG⟩
  · cases res with
    | inr p => exact hE.elim
    | inl x =>
      rcases hE with ⟨rfl, rfl⟩ | ⟨rfl, rfl⟩ | ⟨rfl, rfl⟩
      · obtain rfl := Option.some.inj (h : some _ = some r)
        refine ⟨[], ⟨0, 5, 6, 25⟩, [⟨0, 5, 10, 18⟩], rfl, (fun z hz => nomatch hz), rfl, by decide, cl_L_25, (hx.kc hC).thr.2.2.2.2.2 _ (by decide +kernel), ?_⟩
        show J X 3 _ _ 1 6 6 [some (.ref (B.1 + 0)), some (.int l1), none] [.ref q]
        refine J_as4 hx rfl (by decide) (hc_of rfl) rfl dL_takeOut_6 ?_
        refine J_ldc hx cn_L_27 dL_takeOut_7 ?_
        exact J_iret hx hr dL_takeOut_9 (by decide) (by decide) ⟨rfl, hW⟩
      · cases (show (none : Option (Int32 × Wl)) = some r from h)
      · obtain rfl := Option.some.inj (h : some _ = some r)
        refine ⟨[⟨0, 5, 6, 25⟩], ⟨0, 5, 10, 18⟩, [], rfl, (fun z hz => by
            rcases List.mem_cons.mp hz with rfl | hz
            · exact ⟨by decide, _, cl_L_25, (hx.kc hC).nc.2.1⟩
            cases hz), rfl, by decide, cl_L_18, (hx.kc hC).thr.2.2.2.2.2 _ (by decide +kernel), ?_⟩
        show J X 3 _ _ 1 6 10 [some (.ref (B.1 + 0)), some (.int l1), none] [.ref q]
        refine J_as4 hx rfl (by decide) (hc_of rfl) rfl dL_takeOut_10 ?_
        refine J_ldc hx cn_L_20 dL_takeOut_11 ?_
        exact J_iret hx hr dL_takeOut_13 (by decide) (by decide) ⟨rfl, hW⟩
theorem dL_pack_0 : decode cL_pack 0 = .ok (.aload_n 0, 1) := by decide +kernel
theorem dL_pack_1 : decode cL_pack 1 = .ok (.iload_n 1, 1) := by decide +kernel
theorem dL_pack_2 : decode cL_pack 2 = .ok (.iload_n 2, 1) := by decide +kernel
theorem dL_pack_3 : decode cL_pack 3 = .ok (.invokevirtual 61, 3) := by decide +kernel
theorem dL_pack_6 : decode cL_pack 6 = .ok (.ireturn, 1) := by decide +kernel
theorem dL_pack_7 : decode cL_pack 7 = .ok (.astore_n 3, 1) := by decide +kernel
theorem dL_pack_8 : decode cL_pack 8 = .ok (.ldc 27, 2) := by decide +kernel
theorem dL_pack_10 : decode cL_pack 10 = .ok (.ireturn, 1) := by decide +kernel
theorem dL_pack_11 : decode cL_pack 11 = .ok (.astore_n 3, 1) := by decide +kernel
theorem dL_pack_12 : decode cL_pack 12 = .ok (.ldc 20, 2) := by decide +kernel
theorem dL_pack_14 : decode cL_pack 14 = .ok (.ireturn, 1) := by decide +kernel
theorem cw_pack : Cond.codeWith yL_pack cL_pack 4 (some .int) [(0, 6, 7, 25), (0, 6, 11, 18)] ∈ WT := (wtm_6 53 (by decide +kernel) (by decide +kernel))
theorem st_pack : Cond.static yL_pack ∈ WT := (wtm_6 52 (by decide +kernel) (by decide +kernel))
theorem hy_pack : yL_pack.cls ≠ "java/lang/invoke/MethodHandle" ∧ yL_pack.cls ≠ "java/lang/invoke/VarHandle" ∧ (parseMethodDescriptor yL_pack.desc).map (fun d => d.parameters.length) = some 3 := ⟨by decide +kernel, by decide +kernel, by decide +kernel⟩
def sO_pack (w : Wl) (l1 : Int32) (l2 : Int32) : Option (Int32 × Wl) := okS (sX12_pack w l1 l2)
def sL_pack (w : Wl) (l1 : Int32) (l2 : Int32) : Option (Int32 × Wl) := (sX12_pack w l1 l2).bind (lwW (some (-90300)) none (some (-90200)) w)
theorem kP_pack {l : Launch} {Γ : Gl} {B : Bs} {w : Wl} {G : Gf} {sz : Nat} {l1 : Int32} {l2 : Int32} {r : Int32 × Wl} (hC : GC Γ B) (hW : Wd Γ B w G) (h : sX12_pack w l1 l2 = some (Sum.inr r)) : CtL l Γ yL_pack cL_pack 4 (some .int) [(0, 6, 7, 25), (0, 6, 11, 18)] 8 [.ref (B.1 + 0), .int l1, .int l2] G sz (WΨ Γ B (some (.int r.1)) r.2 sz) 0 0 := by
  refine CtL.of rfl (Nat.le_of_ble_eq_true rfl) fun X hx hr htb hl hΓ => ?_
  subst hl hΓ
  show J X 4 G sz 0 0 0 [some (.ref (B.1 + 0)), some (.int l1), some (.int l2), none] []
  refine J_al4 hx rfl rfl dL_pack_0 ?_
  refine J_il4 hx rfl rfl dL_pack_1 ?_
  refine J_il4 hx rfl rfl dL_pack_2 ?_
  refine J_wrV hx (kO_pack hC hW h) ml_L_61 lk_X12_pack (ci := 10) rfl (hW.obj (rfl : kd 0 = 1) (by decide) (by decide)) (rest := []) rfl rfl (by decide) (by decide) (Nat.le_of_ble_eq_true rfl) (Nat.le_refl 0) (Nat.le_refl 0) dL_pack_3 fun G1 hW1 => ?_
  show J X 4 G1 sz 0 0 6 [some (.ref (B.1 + 0)), some (.int l1), some (.int l2), none] [.int r.1]
  exact J_iretW hx hr hW1 dL_pack_6 (Nat.le_refl 0) (Nat.le_refl 0)
theorem kL_pack {l : Launch} {Γ : Gl} {B : Bs} {w : Wl} {G : Gf} {sz : Nat} {l1 : Int32} {l2 : Int32} {r : Int32 × Wl} (htr : l.stackTraces = false) (hC : GC Γ B) (hW : Wd Γ B w G) (h : sL_pack w l1 l2 = some r) : CtL l Γ yL_pack cL_pack 4 (some .int) [(0, 6, 7, 25), (0, 6, 11, 18)] 8 [.ref (B.1 + 0), .int l1, .int l2] G sz (WX Γ B (some (.int r.1)) r.2) 1 6 := by
  refine CtL.of rfl (Nat.le_of_ble_eq_true rfl) fun X hx hr htb hl hΓ => ?_
  subst hl hΓ
  show J X 4 G sz 0 0 0 [some (.ref (B.1 + 0)), some (.int l1), some (.int l2), none] []
  unfold sL_pack at h
  obtain ⟨res, hres, h⟩ := bnd h
  refine J_al4 hx rfl rfl dL_pack_0 ?_
  refine J_il4 hx rfl rfl dL_pack_1 ?_
  refine J_il4 hx rfl rfl dL_pack_2 ?_
  refine J_callVX hx htb (kX12_pack htr hC hW hres) ml_L_61 lk_X12_pack (ci := 10) rfl (hW.obj (rfl : kd 0 = 1) (by decide) (by decide)) (rest := []) rfl rfl (by decide) (by decide) (Nat.le_of_ble_eq_true rfl) (by decide) (by decide) dL_pack_3 (fun v G1 sz1 hΨ => ?_) (fun E q sz1 hE => ?_)
  · obtain ⟨p, rfl, hv, hG, hz⟩ := hΨ
    subst hv
    obtain rfl := Option.some.inj h
    show J X 4 _ _ 1 6 6 [some (.ref (B.1 + 0)), some (.int l1), some (.int l2), none] [.int p.1]
    exact J_iret hx hr dL_pack_6 (by decide) (by decide) ⟨rfl, hG⟩
  · cases res with
    | inr p => exact hE.elim
    | inl x =>
      rcases hE with ⟨rfl, rfl⟩ | ⟨rfl, rfl⟩ | ⟨rfl, rfl⟩
      · obtain rfl := Option.some.inj (h : some _ = some r)
        refine ⟨[], ⟨0, 6, 7, 25⟩, [⟨0, 6, 11, 18⟩], rfl, (fun z hz => nomatch hz), rfl, by decide, cl_L_25, (hx.kc hC).thr.2.2.2.2.2 _ (by decide +kernel), ?_⟩
        show J X 4 _ _ 1 6 7 [some (.ref (B.1 + 0)), some (.int l1), some (.int l2), none] [.ref q]
        refine J_as4 hx rfl (by decide) (hc_of rfl) rfl dL_pack_7 ?_
        refine J_ldc hx cn_L_27 dL_pack_8 ?_
        exact J_iret hx hr dL_pack_10 (by decide) (by decide) ⟨rfl, hW⟩
      · cases (show (none : Option (Int32 × Wl)) = some r from h)
      · obtain rfl := Option.some.inj (h : some _ = some r)
        refine ⟨[⟨0, 6, 7, 25⟩], ⟨0, 6, 11, 18⟩, [], rfl, (fun z hz => by
            rcases List.mem_cons.mp hz with rfl | hz
            · exact ⟨by decide, _, cl_L_25, (hx.kc hC).nc.2.1⟩
            cases hz), rfl, by decide, cl_L_18, (hx.kc hC).thr.2.2.2.2.2 _ (by decide +kernel), ?_⟩
        show J X 4 _ _ 1 6 11 [some (.ref (B.1 + 0)), some (.int l1), some (.int l2), none] [.ref q]
        refine J_as4 hx rfl (by decide) (hc_of rfl) rfl dL_pack_11 ?_
        refine J_ldc hx cn_L_20 dL_pack_12 ?_
        exact J_iret hx hr dL_pack_14 (by decide) (by decide) ⟨rfl, hW⟩
theorem dL_unpack_0 : decode cL_unpack 0 = .ok (.aload_n 0, 1) := by decide +kernel
theorem dL_unpack_1 : decode cL_unpack 1 = .ok (.iload_n 1, 1) := by decide +kernel
theorem dL_unpack_2 : decode cL_unpack 2 = .ok (.invokevirtual 64, 3) := by decide +kernel
theorem dL_unpack_5 : decode cL_unpack 5 = .ok (.ireturn, 1) := by decide +kernel
theorem dL_unpack_6 : decode cL_unpack 6 = .ok (.astore_n 2, 1) := by decide +kernel
theorem dL_unpack_7 : decode cL_unpack 7 = .ok (.ldc 27, 2) := by decide +kernel
theorem dL_unpack_9 : decode cL_unpack 9 = .ok (.ireturn, 1) := by decide +kernel
theorem dL_unpack_10 : decode cL_unpack 10 = .ok (.astore_n 2, 1) := by decide +kernel
theorem dL_unpack_11 : decode cL_unpack 11 = .ok (.ldc 20, 2) := by decide +kernel
theorem dL_unpack_13 : decode cL_unpack 13 = .ok (.ireturn, 1) := by decide +kernel
theorem cw_unpack : Cond.codeWith yL_unpack cL_unpack 3 (some .int) [(0, 5, 6, 25), (0, 5, 10, 18)] ∈ WT := (wtm_6 46 (by decide +kernel) (by decide +kernel))
theorem st_unpack : Cond.static yL_unpack ∈ WT := (wtm_6 45 (by decide +kernel) (by decide +kernel))
theorem hy_unpack : yL_unpack.cls ≠ "java/lang/invoke/MethodHandle" ∧ yL_unpack.cls ≠ "java/lang/invoke/VarHandle" ∧ (parseMethodDescriptor yL_unpack.desc).map (fun d => d.parameters.length) = some 2 := ⟨by decide +kernel, by decide +kernel, by decide +kernel⟩
def sO_unpack (w : Wl) (l1 : Int32) : Option (Int32 × Wl) := okS (sX12_unpack w l1)
def sL_unpack (w : Wl) (l1 : Int32) : Option (Int32 × Wl) := (sX12_unpack w l1).bind (lwW (some (-90300)) none (some (-90200)) w)
theorem kP_unpack {l : Launch} {Γ : Gl} {B : Bs} {w : Wl} {G : Gf} {sz : Nat} {l1 : Int32} {r : Int32 × Wl} (hC : GC Γ B) (hW : Wd Γ B w G) (h : sX12_unpack w l1 = some (Sum.inr r)) : CtL l Γ yL_unpack cL_unpack 3 (some .int) [(0, 5, 6, 25), (0, 5, 10, 18)] 8 [.ref (B.1 + 0), .int l1] G sz (WΨ Γ B (some (.int r.1)) r.2 sz) 0 0 := by
  refine CtL.of rfl (Nat.le_of_ble_eq_true rfl) fun X hx hr htb hl hΓ => ?_
  subst hl hΓ
  show J X 3 G sz 0 0 0 [some (.ref (B.1 + 0)), some (.int l1), none] []
  refine J_al4 hx rfl rfl dL_unpack_0 ?_
  refine J_il4 hx rfl rfl dL_unpack_1 ?_
  refine J_wrV hx (kO_unpack hC hW h) ml_L_64 lk_X12_unpack (ci := 10) rfl (hW.obj (rfl : kd 0 = 1) (by decide) (by decide)) (rest := []) rfl rfl (by decide) (by decide) (Nat.le_of_ble_eq_true rfl) (Nat.le_refl 0) (Nat.le_refl 0) dL_unpack_2 fun G1 hW1 => ?_
  show J X 3 G1 sz 0 0 5 [some (.ref (B.1 + 0)), some (.int l1), none] [.int r.1]
  exact J_iretW hx hr hW1 dL_unpack_5 (Nat.le_refl 0) (Nat.le_refl 0)
theorem kL_unpack {l : Launch} {Γ : Gl} {B : Bs} {w : Wl} {G : Gf} {sz : Nat} {l1 : Int32} {r : Int32 × Wl} (htr : l.stackTraces = false) (hC : GC Γ B) (hW : Wd Γ B w G) (h : sL_unpack w l1 = some r) : CtL l Γ yL_unpack cL_unpack 3 (some .int) [(0, 5, 6, 25), (0, 5, 10, 18)] 8 [.ref (B.1 + 0), .int l1] G sz (WX Γ B (some (.int r.1)) r.2) 1 6 := by
  refine CtL.of rfl (Nat.le_of_ble_eq_true rfl) fun X hx hr htb hl hΓ => ?_
  subst hl hΓ
  show J X 3 G sz 0 0 0 [some (.ref (B.1 + 0)), some (.int l1), none] []
  unfold sL_unpack at h
  obtain ⟨res, hres, h⟩ := bnd h
  refine J_al4 hx rfl rfl dL_unpack_0 ?_
  refine J_il4 hx rfl rfl dL_unpack_1 ?_
  refine J_callVX hx htb (kX12_unpack htr hC hW hres) ml_L_64 lk_X12_unpack (ci := 10) rfl (hW.obj (rfl : kd 0 = 1) (by decide) (by decide)) (rest := []) rfl rfl (by decide) (by decide) (Nat.le_of_ble_eq_true rfl) (by decide) (by decide) dL_unpack_2 (fun v G1 sz1 hΨ => ?_) (fun E q sz1 hE => ?_)
  · obtain ⟨p, rfl, hv, hG, hz⟩ := hΨ
    subst hv
    obtain rfl := Option.some.inj h
    show J X 3 _ _ 1 6 5 [some (.ref (B.1 + 0)), some (.int l1), none] [.int p.1]
    exact J_iret hx hr dL_unpack_5 (by decide) (by decide) ⟨rfl, hG⟩
  · cases res with
    | inr p => exact hE.elim
    | inl x =>
      rcases hE with ⟨rfl, rfl⟩ | ⟨rfl, rfl⟩ | ⟨rfl, rfl⟩
      · obtain rfl := Option.some.inj (h : some _ = some r)
        refine ⟨[], ⟨0, 5, 6, 25⟩, [⟨0, 5, 10, 18⟩], rfl, (fun z hz => nomatch hz), rfl, by decide, cl_L_25, (hx.kc hC).thr.2.2.2.2.2 _ (by decide +kernel), ?_⟩
        show J X 3 _ _ 1 6 6 [some (.ref (B.1 + 0)), some (.int l1), none] [.ref q]
        refine J_as4 hx rfl (by decide) (hc_of rfl) rfl dL_unpack_6 ?_
        refine J_ldc hx cn_L_27 dL_unpack_7 ?_
        exact J_iret hx hr dL_unpack_9 (by decide) (by decide) ⟨rfl, hW⟩
      · cases (show (none : Option (Int32 × Wl)) = some r from h)
      · obtain rfl := Option.some.inj (h : some _ = some r)
        refine ⟨[⟨0, 5, 6, 25⟩], ⟨0, 5, 10, 18⟩, [], rfl, (fun z hz => by
            rcases List.mem_cons.mp hz with rfl | hz
            · exact ⟨by decide, _, cl_L_25, (hx.kc hC).nc.2.1⟩
            cases hz), rfl, by decide, cl_L_18, (hx.kc hC).thr.2.2.2.2.2 _ (by decide +kernel), ?_⟩
        show J X 3 _ _ 1 6 10 [some (.ref (B.1 + 0)), some (.int l1), none] [.ref q]
        refine J_as4 hx rfl (by decide) (hc_of rfl) rfl dL_unpack_10 ?_
        refine J_ldc hx cn_L_20 dL_unpack_11 ?_
        exact J_iret hx hr dL_unpack_13 (by decide) (by decide) ⟨rfl, hW⟩
theorem dL_send_0 : decode cL_send 0 = .ok (.aload_n 0, 1) := by decide +kernel
theorem dL_send_1 : decode cL_send 1 = .ok (.iload_n 1, 1) := by decide +kernel
theorem dL_send_2 : decode cL_send 2 = .ok (.iload_n 2, 1) := by decide +kernel
theorem dL_send_3 : decode cL_send 3 = .ok (.iload_n 3, 1) := by decide +kernel
theorem dL_send_4 : decode cL_send 4 = .ok (.invokevirtual 67, 3) := by decide +kernel
theorem dL_send_7 : decode cL_send 7 = .ok (.ireturn, 1) := by decide +kernel
theorem dL_send_8 : decode cL_send 8 = .ok (.astore 4, 2) := by decide +kernel
theorem dL_send_10 : decode cL_send 10 = .ok (.ldc 27, 2) := by decide +kernel
theorem dL_send_12 : decode cL_send 12 = .ok (.ireturn, 1) := by decide +kernel
theorem dL_send_13 : decode cL_send 13 = .ok (.astore 4, 2) := by decide +kernel
theorem dL_send_15 : decode cL_send 15 = .ok (.ldc 20, 2) := by decide +kernel
theorem dL_send_17 : decode cL_send 17 = .ok (.ireturn, 1) := by decide +kernel
theorem cw_send : Cond.codeWith yL_send cL_send 5 (some .int) [(0, 7, 8, 25), (0, 7, 13, 18)] ∈ WT := (wtm_6 90 (by decide +kernel) (by decide +kernel))
theorem st_send : Cond.static yL_send ∈ WT := (wtm_6 89 (by decide +kernel) (by decide +kernel))
theorem hy_send : yL_send.cls ≠ "java/lang/invoke/MethodHandle" ∧ yL_send.cls ≠ "java/lang/invoke/VarHandle" ∧ (parseMethodDescriptor yL_send.desc).map (fun d => d.parameters.length) = some 4 := ⟨by decide +kernel, by decide +kernel, by decide +kernel⟩
def sO_send (w : Wl) (l1 : Int32) (l2 : Int32) (l3 : Int32) : Option (Int32 × Wl) := okS (sX12_send w l1 l2 l3)
def sL_send (w : Wl) (l1 : Int32) (l2 : Int32) (l3 : Int32) : Option (Int32 × Wl) := (sX12_send w l1 l2 l3).bind (lwW (some (-90300)) none (some (-90200)) w)
theorem kP_send {l : Launch} {Γ : Gl} {B : Bs} {w : Wl} {G : Gf} {sz : Nat} {l1 : Int32} {l2 : Int32} {l3 : Int32} {r : Int32 × Wl} (hC : GC Γ B) (hW : Wd Γ B w G) (h : sX12_send w l1 l2 l3 = some (Sum.inr r)) : CtL l Γ yL_send cL_send 5 (some .int) [(0, 7, 8, 25), (0, 7, 13, 18)] 8 [.ref (B.1 + 0), .int l1, .int l2, .int l3] G sz (WΨ Γ B (some (.int r.1)) r.2 sz) 0 0 := by
  refine CtL.of rfl (Nat.le_of_ble_eq_true rfl) fun X hx hr htb hl hΓ => ?_
  subst hl hΓ
  show J X 5 G sz 0 0 0 [some (.ref (B.1 + 0)), some (.int l1), some (.int l2), some (.int l3), none] []
  refine J_al4 hx rfl rfl dL_send_0 ?_
  refine J_il4 hx rfl rfl dL_send_1 ?_
  refine J_il4 hx rfl rfl dL_send_2 ?_
  refine J_il4 hx rfl rfl dL_send_3 ?_
  refine J_wrV hx (kO_send hC hW h) ml_L_67 lk_X12_send (ci := 10) rfl (hW.obj (rfl : kd 0 = 1) (by decide) (by decide)) (rest := []) rfl rfl (by decide) (by decide) (Nat.le_of_ble_eq_true rfl) (Nat.le_refl 0) (Nat.le_refl 0) dL_send_4 fun G1 hW1 => ?_
  show J X 5 G1 sz 0 0 7 [some (.ref (B.1 + 0)), some (.int l1), some (.int l2), some (.int l3), none] [.int r.1]
  exact J_iretW hx hr hW1 dL_send_7 (Nat.le_refl 0) (Nat.le_refl 0)
theorem kL_send {l : Launch} {Γ : Gl} {B : Bs} {w : Wl} {G : Gf} {sz : Nat} {l1 : Int32} {l2 : Int32} {l3 : Int32} {r : Int32 × Wl} (htr : l.stackTraces = false) (hC : GC Γ B) (hW : Wd Γ B w G) (h : sL_send w l1 l2 l3 = some r) : CtL l Γ yL_send cL_send 5 (some .int) [(0, 7, 8, 25), (0, 7, 13, 18)] 8 [.ref (B.1 + 0), .int l1, .int l2, .int l3] G sz (WX Γ B (some (.int r.1)) r.2) 1 6 := by
  refine CtL.of rfl (Nat.le_of_ble_eq_true rfl) fun X hx hr htb hl hΓ => ?_
  subst hl hΓ
  show J X 5 G sz 0 0 0 [some (.ref (B.1 + 0)), some (.int l1), some (.int l2), some (.int l3), none] []
  unfold sL_send at h
  obtain ⟨res, hres, h⟩ := bnd h
  refine J_al4 hx rfl rfl dL_send_0 ?_
  refine J_il4 hx rfl rfl dL_send_1 ?_
  refine J_il4 hx rfl rfl dL_send_2 ?_
  refine J_il4 hx rfl rfl dL_send_3 ?_
  refine J_callVX hx htb (kX12_send htr hC hW hres) ml_L_67 lk_X12_send (ci := 10) rfl (hW.obj (rfl : kd 0 = 1) (by decide) (by decide)) (rest := []) rfl rfl (by decide) (by decide) (Nat.le_of_ble_eq_true rfl) (by decide) (by decide) dL_send_4 (fun v G1 sz1 hΨ => ?_) (fun E q sz1 hE => ?_)
  · obtain ⟨p, rfl, hv, hG, hz⟩ := hΨ
    subst hv
    obtain rfl := Option.some.inj h
    show J X 5 _ _ 1 6 7 [some (.ref (B.1 + 0)), some (.int l1), some (.int l2), some (.int l3), none] [.int p.1]
    exact J_iret hx hr dL_send_7 (by decide) (by decide) ⟨rfl, hG⟩
  · cases res with
    | inr p => exact hE.elim
    | inl x =>
      rcases hE with ⟨rfl, rfl⟩ | ⟨rfl, rfl⟩ | ⟨rfl, rfl⟩
      · obtain rfl := Option.some.inj (h : some _ = some r)
        refine ⟨[], ⟨0, 7, 8, 25⟩, [⟨0, 7, 13, 18⟩], rfl, (fun z hz => nomatch hz), rfl, by decide, cl_L_25, (hx.kc hC).thr.2.2.2.2.2 _ (by decide +kernel), ?_⟩
        show J X 5 _ _ 1 6 8 [some (.ref (B.1 + 0)), some (.int l1), some (.int l2), some (.int l3), none] [.ref q]
        refine J_as hx (by decide) (hc_of rfl) rfl dL_send_8 ?_
        refine J_ldc hx cn_L_27 dL_send_10 ?_
        exact J_iret hx hr dL_send_12 (by decide) (by decide) ⟨rfl, hW⟩
      · cases (show (none : Option (Int32 × Wl)) = some r from h)
      · obtain rfl := Option.some.inj (h : some _ = some r)
        refine ⟨[⟨0, 7, 8, 25⟩], ⟨0, 7, 13, 18⟩, [], rfl, (fun z hz => by
            rcases List.mem_cons.mp hz with rfl | hz
            · exact ⟨by decide, _, cl_L_25, (hx.kc hC).nc.2.1⟩
            cases hz), rfl, by decide, cl_L_18, (hx.kc hC).thr.2.2.2.2.2 _ (by decide +kernel), ?_⟩
        show J X 5 _ _ 1 6 13 [some (.ref (B.1 + 0)), some (.int l1), some (.int l2), some (.int l3), none] [.ref q]
        refine J_as hx (by decide) (hc_of rfl) rfl dL_send_13 ?_
        refine J_ldc hx cn_L_20 dL_send_15 ?_
        exact J_iret hx hr dL_send_17 (by decide) (by decide) ⟨rfl, hW⟩
theorem dL_advance_0 : decode cL_advance 0 = .ok (.aload_n 0, 1) := by decide +kernel
theorem dL_advance_1 : decode cL_advance 1 = .ok (.iload_n 1, 1) := by decide +kernel
theorem dL_advance_2 : decode cL_advance 2 = .ok (.invokevirtual 70, 3) := by decide +kernel
theorem dL_advance_5 : decode cL_advance 5 = .ok (.ireturn, 1) := by decide +kernel
theorem dL_advance_6 : decode cL_advance 6 = .ok (.astore_n 2, 1) := by decide +kernel
theorem dL_advance_7 : decode cL_advance 7 = .ok (.ldc 17, 2) := by decide +kernel
theorem dL_advance_9 : decode cL_advance 9 = .ok (.ireturn, 1) := by decide +kernel
theorem cw_advance : Cond.codeWith yL_advance cL_advance 3 (some .int) [(0, 5, 6, 15)] ∈ WT := (wtm_6 100 (by decide +kernel) (by decide +kernel))
theorem st_advance : Cond.static yL_advance ∈ WT := (wtm_6 99 (by decide +kernel) (by decide +kernel))
theorem hy_advance : yL_advance.cls ≠ "java/lang/invoke/MethodHandle" ∧ yL_advance.cls ≠ "java/lang/invoke/VarHandle" ∧ (parseMethodDescriptor yL_advance.desc).map (fun d => d.parameters.length) = some 2 := ⟨by decide +kernel, by decide +kernel, by decide +kernel⟩
def sO_advance (w : Wl) (l1 : Int32) : Option (Int32 × Wl) := okS (sX12_advance w l1)
def sL_advance (w : Wl) (l1 : Int32) : Option (Int32 × Wl) := (sX12_advance w l1).bind (lwW none (some (-90100)) none w)
theorem kP_advance {l : Launch} {Γ : Gl} {B : Bs} {w : Wl} {G : Gf} {sz : Nat} {l1 : Int32} {r : Int32 × Wl} (hC : GC Γ B) (hW : Wd Γ B w G) (h : sX12_advance w l1 = some (Sum.inr r)) : CtL l Γ yL_advance cL_advance 3 (some .int) [(0, 5, 6, 15)] 8 [.ref (B.1 + 0), .int l1] G sz (WΨ Γ B (some (.int r.1)) r.2 sz) 0 0 := by
  refine CtL.of rfl (Nat.le_of_ble_eq_true rfl) fun X hx hr htb hl hΓ => ?_
  subst hl hΓ
  show J X 3 G sz 0 0 0 [some (.ref (B.1 + 0)), some (.int l1), none] []
  refine J_al4 hx rfl rfl dL_advance_0 ?_
  refine J_il4 hx rfl rfl dL_advance_1 ?_
  refine J_wrV hx (kO_advance hC hW h) ml_L_70 lk_X12_advance (ci := 10) rfl (hW.obj (rfl : kd 0 = 1) (by decide) (by decide)) (rest := []) rfl rfl (by decide) (by decide) (Nat.le_of_ble_eq_true rfl) (Nat.le_refl 0) (Nat.le_refl 0) dL_advance_2 fun G1 hW1 => ?_
  show J X 3 G1 sz 0 0 5 [some (.ref (B.1 + 0)), some (.int l1), none] [.int r.1]
  exact J_iretW hx hr hW1 dL_advance_5 (Nat.le_refl 0) (Nat.le_refl 0)
theorem kL_advance {l : Launch} {Γ : Gl} {B : Bs} {w : Wl} {G : Gf} {sz : Nat} {l1 : Int32} {r : Int32 × Wl} (htr : l.stackTraces = false) (hC : GC Γ B) (hW : Wd Γ B w G) (h : sL_advance w l1 = some r) : CtL l Γ yL_advance cL_advance 3 (some .int) [(0, 5, 6, 15)] 8 [.ref (B.1 + 0), .int l1] G sz (WX Γ B (some (.int r.1)) r.2) 1 6 := by
  refine CtL.of rfl (Nat.le_of_ble_eq_true rfl) fun X hx hr htb hl hΓ => ?_
  subst hl hΓ
  show J X 3 G sz 0 0 0 [some (.ref (B.1 + 0)), some (.int l1), none] []
  unfold sL_advance at h
  obtain ⟨res, hres, h⟩ := bnd h
  refine J_al4 hx rfl rfl dL_advance_0 ?_
  refine J_il4 hx rfl rfl dL_advance_1 ?_
  refine J_callVX hx htb (kX12_advance htr hC hW hres) ml_L_70 lk_X12_advance (ci := 10) rfl (hW.obj (rfl : kd 0 = 1) (by decide) (by decide)) (rest := []) rfl rfl (by decide) (by decide) (Nat.le_of_ble_eq_true rfl) (by decide) (by decide) dL_advance_2 (fun v G1 sz1 hΨ => ?_) (fun E q sz1 hE => ?_)
  · obtain ⟨p, rfl, hv, hG, hz⟩ := hΨ
    subst hv
    obtain rfl := Option.some.inj h
    show J X 3 _ _ 1 6 5 [some (.ref (B.1 + 0)), some (.int l1), none] [.int p.1]
    exact J_iret hx hr dL_advance_5 (by decide) (by decide) ⟨rfl, hG⟩
  · cases res with
    | inr p => exact hE.elim
    | inl x =>
      rcases hE with ⟨rfl, rfl⟩ | ⟨rfl, rfl⟩ | ⟨rfl, rfl⟩
      · cases (show (none : Option (Int32 × Wl)) = some r from h)
      · obtain rfl := Option.some.inj (h : some _ = some r)
        refine ⟨[], ⟨0, 5, 6, 15⟩, [], rfl, (fun z hz => nomatch hz), rfl, by decide, cl_L_15, (hx.kc hC).thr.2.2.2.2.2 _ (by decide +kernel), ?_⟩
        show J X 3 _ _ 1 6 6 [some (.ref (B.1 + 0)), some (.int l1), none] [.ref q]
        refine J_as4 hx rfl (by decide) (hc_of rfl) rfl dL_advance_6 ?_
        refine J_ldc hx cn_L_17 dL_advance_7 ?_
        exact J_iret hx hr dL_advance_9 (by decide) (by decide) ⟨rfl, hW⟩
      · cases (show (none : Option (Int32 × Wl)) = some r from h)
theorem dL_refusal_0 : decode cL_refusal 0 = .ok (.aload_n 0, 1) := by decide +kernel
theorem dL_refusal_1 : decode cL_refusal 1 = .ok (.iload_n 1, 1) := by decide +kernel
theorem dL_refusal_2 : decode cL_refusal 2 = .ok (.iload_n 2, 1) := by decide +kernel
theorem dL_refusal_3 : decode cL_refusal 3 = .ok (.iload_n 3, 1) := by decide +kernel
theorem dL_refusal_4 : decode cL_refusal 4 = .ok (.invokevirtual 73, 3) := by decide +kernel
theorem dL_refusal_7 : decode cL_refusal 7 = .ok (.ireturn, 1) := by decide +kernel
theorem dL_refusal_8 : decode cL_refusal 8 = .ok (.astore 4, 2) := by decide +kernel
theorem dL_refusal_10 : decode cL_refusal 10 = .ok (.ldc 27, 2) := by decide +kernel
theorem dL_refusal_12 : decode cL_refusal 12 = .ok (.ireturn, 1) := by decide +kernel
theorem cw_refusal : Cond.codeWith yL_refusal cL_refusal 5 (some .int) [(0, 7, 8, 25)] ∈ WT := (wtm_6 63 (by decide +kernel) (by decide +kernel))
theorem st_refusal : Cond.static yL_refusal ∈ WT := (wtm_6 62 (by decide +kernel) (by decide +kernel))
theorem hy_refusal : yL_refusal.cls ≠ "java/lang/invoke/MethodHandle" ∧ yL_refusal.cls ≠ "java/lang/invoke/VarHandle" ∧ (parseMethodDescriptor yL_refusal.desc).map (fun d => d.parameters.length) = some 4 := ⟨by decide +kernel, by decide +kernel, by decide +kernel⟩
def sO_refusal (w : Wl) (l1 : Int32) (l2 : Int32) (l3 : Int32) : Option (Int32) := okS (sX12_refusal w l1 l2 l3)
def sL_refusal (w : Wl) (l1 : Int32) (l2 : Int32) (l3 : Int32) : Option (Int32 × Wl) := (sX12_refusal w l1 l2 l3).bind (lwR (some (-90300)) none none w)
theorem kP_refusal {l : Launch} {Γ : Gl} {B : Bs} {w : Wl} {G : Gf} {sz : Nat} {l1 : Int32} {l2 : Int32} {l3 : Int32} {r : Int32} (hC : GC Γ B) (hW : Wd Γ B w G) (h : sX12_refusal w l1 l2 l3 = some (Sum.inr r)) : CtL l Γ yL_refusal cL_refusal 5 (some .int) [(0, 7, 8, 25)] 8 [.ref (B.1 + 0), .int l1, .int l2, .int l3] G sz (RdΨ (.int r) G sz) 0 0 := by
  refine CtL.of rfl (Nat.le_of_ble_eq_true rfl) fun X hx hr htb hl hΓ => ?_
  subst hl hΓ
  show J X 5 G sz 0 0 0 [some (.ref (B.1 + 0)), some (.int l1), some (.int l2), some (.int l3), none] []
  refine J_al4 hx rfl rfl dL_refusal_0 ?_
  refine J_il4 hx rfl rfl dL_refusal_1 ?_
  refine J_il4 hx rfl rfl dL_refusal_2 ?_
  refine J_il4 hx rfl rfl dL_refusal_3 ?_
  refine J_rdV hx (kO_refusal hC hW h) ml_L_73 lk_X12_refusal (ci := 10) rfl (hW.obj (rfl : kd 0 = 1) (by decide) (by decide)) (rest := []) rfl rfl (by decide) (by decide) (Nat.le_of_ble_eq_true rfl) (Nat.le_refl 0) (Nat.le_refl 0) dL_refusal_4 ?_
  exact J_iretR hx hr dL_refusal_7 (Nat.le_refl 0) (Nat.le_refl 0) rfl
theorem kL_refusal {l : Launch} {Γ : Gl} {B : Bs} {w : Wl} {G : Gf} {sz : Nat} {l1 : Int32} {l2 : Int32} {l3 : Int32} {r : Int32 × Wl} (htr : l.stackTraces = false) (hC : GC Γ B) (hW : Wd Γ B w G) (h : sL_refusal w l1 l2 l3 = some r) : CtL l Γ yL_refusal cL_refusal 5 (some .int) [(0, 7, 8, 25)] 8 [.ref (B.1 + 0), .int l1, .int l2, .int l3] G sz (WX Γ B (some (.int r.1)) r.2) 1 6 := by
  refine CtL.of rfl (Nat.le_of_ble_eq_true rfl) fun X hx hr htb hl hΓ => ?_
  subst hl hΓ
  show J X 5 G sz 0 0 0 [some (.ref (B.1 + 0)), some (.int l1), some (.int l2), some (.int l3), none] []
  unfold sL_refusal at h
  obtain ⟨res, hres, h⟩ := bnd h
  refine J_al4 hx rfl rfl dL_refusal_0 ?_
  refine J_il4 hx rfl rfl dL_refusal_1 ?_
  refine J_il4 hx rfl rfl dL_refusal_2 ?_
  refine J_il4 hx rfl rfl dL_refusal_3 ?_
  refine J_callVX hx htb (kX12_refusal htr hC hW hres) ml_L_73 lk_X12_refusal (ci := 10) rfl (hW.obj (rfl : kd 0 = 1) (by decide) (by decide)) (rest := []) rfl rfl (by decide) (by decide) (Nat.le_of_ble_eq_true rfl) (by decide) (by decide) dL_refusal_4 (fun v G1 sz1 hΨ => ?_) (fun E q sz1 hE => ?_)
  · obtain ⟨p, rfl, hv, hG, hz⟩ := hΨ
    subst hv
    subst hG
    obtain rfl := Option.some.inj h
    show J X 5 _ _ 1 6 7 [some (.ref (B.1 + 0)), some (.int l1), some (.int l2), some (.int l3), none] [.int p]
    exact J_iret hx hr dL_refusal_7 (by decide) (by decide) ⟨rfl, hW⟩
  · cases res with
    | inr p => exact hE.elim
    | inl x =>
      rcases hE with ⟨rfl, rfl⟩ | ⟨rfl, rfl⟩ | ⟨rfl, rfl⟩
      · obtain rfl := Option.some.inj (h : some _ = some r)
        refine ⟨[], ⟨0, 7, 8, 25⟩, [], rfl, (fun z hz => nomatch hz), rfl, by decide, cl_L_25, (hx.kc hC).thr.2.2.2.2.2 _ (by decide +kernel), ?_⟩
        show J X 5 _ _ 1 6 8 [some (.ref (B.1 + 0)), some (.int l1), some (.int l2), some (.int l3), none] [.ref q]
        refine J_as hx (by decide) (hc_of rfl) rfl dL_refusal_8 ?_
        refine J_ldc hx cn_L_27 dL_refusal_10 ?_
        exact J_iret hx hr dL_refusal_12 (by decide) (by decide) ⟨rfl, hW⟩
      · cases (show (none : Option (Int32 × Wl)) = some r from h)
      · cases (show (none : Option (Int32 × Wl)) = some r from h)
theorem dL_crate_0 : decode cL_crate 0 = .ok (.aload_n 0, 1) := by decide +kernel
theorem dL_crate_1 : decode cL_crate 1 = .ok (.iload_n 1, 1) := by decide +kernel
theorem dL_crate_2 : decode cL_crate 2 = .ok (.iload_n 2, 1) := by decide +kernel
theorem dL_crate_3 : decode cL_crate 3 = .ok (.invokevirtual 76, 3) := by decide +kernel
theorem dL_crate_6 : decode cL_crate 6 = .ok (.ireturn, 1) := by decide +kernel
theorem dL_crate_7 : decode cL_crate 7 = .ok (.astore_n 3, 1) := by decide +kernel
theorem dL_crate_8 : decode cL_crate 8 = .ok (.ldc 27, 2) := by decide +kernel
theorem dL_crate_10 : decode cL_crate 10 = .ok (.ireturn, 1) := by decide +kernel
theorem dL_crate_11 : decode cL_crate 11 = .ok (.astore_n 3, 1) := by decide +kernel
theorem dL_crate_12 : decode cL_crate 12 = .ok (.ldc 17, 2) := by decide +kernel
theorem dL_crate_14 : decode cL_crate 14 = .ok (.ireturn, 1) := by decide +kernel
theorem cw_crate : Cond.codeWith yL_crate cL_crate 4 (some .int) [(0, 6, 7, 25), (0, 6, 11, 15)] ∈ WT := (wtm_5 75 (by decide +kernel) (by decide +kernel))
theorem st_crate : Cond.static yL_crate ∈ WT := (wtm_5 74 (by decide +kernel) (by decide +kernel))
theorem hy_crate : yL_crate.cls ≠ "java/lang/invoke/MethodHandle" ∧ yL_crate.cls ≠ "java/lang/invoke/VarHandle" ∧ (parseMethodDescriptor yL_crate.desc).map (fun d => d.parameters.length) = some 3 := ⟨by decide +kernel, by decide +kernel, by decide +kernel⟩
def sO_crate (w : Wl) (l1 : Int32) (l2 : Int32) : Option (Int32) := okS (sX12_crate w l1 l2)
def sL_crate (w : Wl) (l1 : Int32) (l2 : Int32) : Option (Int32 × Wl) := (sX12_crate w l1 l2).bind (lwR (some (-90300)) (some (-90100)) none w)
theorem kP_crate {l : Launch} {Γ : Gl} {B : Bs} {w : Wl} {G : Gf} {sz : Nat} {l1 : Int32} {l2 : Int32} {r : Int32} (hC : GC Γ B) (hW : Wd Γ B w G) (h : sX12_crate w l1 l2 = some (Sum.inr r)) : CtL l Γ yL_crate cL_crate 4 (some .int) [(0, 6, 7, 25), (0, 6, 11, 15)] 8 [.ref (B.1 + 0), .int l1, .int l2] G sz (RdΨ (.int r) G sz) 0 0 := by
  refine CtL.of rfl (Nat.le_of_ble_eq_true rfl) fun X hx hr htb hl hΓ => ?_
  subst hl hΓ
  show J X 4 G sz 0 0 0 [some (.ref (B.1 + 0)), some (.int l1), some (.int l2), none] []
  refine J_al4 hx rfl rfl dL_crate_0 ?_
  refine J_il4 hx rfl rfl dL_crate_1 ?_
  refine J_il4 hx rfl rfl dL_crate_2 ?_
  refine J_rdV hx (kO_crate hC hW h) ml_L_76 lk_X12_crate (ci := 10) rfl (hW.obj (rfl : kd 0 = 1) (by decide) (by decide)) (rest := []) rfl rfl (by decide) (by decide) (Nat.le_of_ble_eq_true rfl) (Nat.le_refl 0) (Nat.le_refl 0) dL_crate_3 ?_
  exact J_iretR hx hr dL_crate_6 (Nat.le_refl 0) (Nat.le_refl 0) rfl
theorem kL_crate {l : Launch} {Γ : Gl} {B : Bs} {w : Wl} {G : Gf} {sz : Nat} {l1 : Int32} {l2 : Int32} {r : Int32 × Wl} (htr : l.stackTraces = false) (hC : GC Γ B) (hW : Wd Γ B w G) (h : sL_crate w l1 l2 = some r) : CtL l Γ yL_crate cL_crate 4 (some .int) [(0, 6, 7, 25), (0, 6, 11, 15)] 8 [.ref (B.1 + 0), .int l1, .int l2] G sz (WX Γ B (some (.int r.1)) r.2) 1 6 := by
  refine CtL.of rfl (Nat.le_of_ble_eq_true rfl) fun X hx hr htb hl hΓ => ?_
  subst hl hΓ
  show J X 4 G sz 0 0 0 [some (.ref (B.1 + 0)), some (.int l1), some (.int l2), none] []
  unfold sL_crate at h
  obtain ⟨res, hres, h⟩ := bnd h
  refine J_al4 hx rfl rfl dL_crate_0 ?_
  refine J_il4 hx rfl rfl dL_crate_1 ?_
  refine J_il4 hx rfl rfl dL_crate_2 ?_
  refine J_callVX hx htb (kX12_crate htr hC hW hres) ml_L_76 lk_X12_crate (ci := 10) rfl (hW.obj (rfl : kd 0 = 1) (by decide) (by decide)) (rest := []) rfl rfl (by decide) (by decide) (Nat.le_of_ble_eq_true rfl) (by decide) (by decide) dL_crate_3 (fun v G1 sz1 hΨ => ?_) (fun E q sz1 hE => ?_)
  · obtain ⟨p, rfl, hv, hG, hz⟩ := hΨ
    subst hv
    subst hG
    obtain rfl := Option.some.inj h
    show J X 4 _ _ 1 6 6 [some (.ref (B.1 + 0)), some (.int l1), some (.int l2), none] [.int p]
    exact J_iret hx hr dL_crate_6 (by decide) (by decide) ⟨rfl, hW⟩
  · cases res with
    | inr p => exact hE.elim
    | inl x =>
      rcases hE with ⟨rfl, rfl⟩ | ⟨rfl, rfl⟩ | ⟨rfl, rfl⟩
      · obtain rfl := Option.some.inj (h : some _ = some r)
        refine ⟨[], ⟨0, 6, 7, 25⟩, [⟨0, 6, 11, 15⟩], rfl, (fun z hz => nomatch hz), rfl, by decide, cl_L_25, (hx.kc hC).thr.2.2.2.2.2 _ (by decide +kernel), ?_⟩
        show J X 4 _ _ 1 6 7 [some (.ref (B.1 + 0)), some (.int l1), some (.int l2), none] [.ref q]
        refine J_as4 hx rfl (by decide) (hc_of rfl) rfl dL_crate_7 ?_
        refine J_ldc hx cn_L_27 dL_crate_8 ?_
        exact J_iret hx hr dL_crate_10 (by decide) (by decide) ⟨rfl, hW⟩
      · obtain rfl := Option.some.inj (h : some _ = some r)
        refine ⟨[⟨0, 6, 7, 25⟩], ⟨0, 6, 11, 15⟩, [], rfl, (fun z hz => by
            rcases List.mem_cons.mp hz with rfl | hz
            · exact ⟨by decide, _, cl_L_25, (hx.kc hC).nc.1⟩
            cases hz), rfl, by decide, cl_L_15, (hx.kc hC).thr.2.2.2.2.2 _ (by decide +kernel), ?_⟩
        show J X 4 _ _ 1 6 11 [some (.ref (B.1 + 0)), some (.int l1), some (.int l2), none] [.ref q]
        refine J_as4 hx rfl (by decide) (hc_of rfl) rfl dL_crate_11 ?_
        refine J_ldc hx cn_L_17 dL_crate_12 ?_
        exact J_iret hx hr dL_crate_14 (by decide) (by decide) ⟨rfl, hW⟩
      · cases (show (none : Option (Int32 × Wl)) = some r from h)
theorem dL_work_0 : decode cL_work 0 = .ok (.aload_n 0, 1) := by decide +kernel
theorem dL_work_1 : decode cL_work 1 = .ok (.iload_n 1, 1) := by decide +kernel
theorem dL_work_2 : decode cL_work 2 = .ok (.iload_n 2, 1) := by decide +kernel
theorem dL_work_3 : decode cL_work 3 = .ok (.invokevirtual 79, 3) := by decide +kernel
theorem dL_work_6 : decode cL_work 6 = .ok (.ireturn, 1) := by decide +kernel
theorem dL_work_7 : decode cL_work 7 = .ok (.astore_n 3, 1) := by decide +kernel
theorem dL_work_8 : decode cL_work 8 = .ok (.ldc 27, 2) := by decide +kernel
theorem dL_work_10 : decode cL_work 10 = .ok (.ireturn, 1) := by decide +kernel
theorem dL_work_11 : decode cL_work 11 = .ok (.astore_n 3, 1) := by decide +kernel
theorem dL_work_12 : decode cL_work 12 = .ok (.ldc 17, 2) := by decide +kernel
theorem dL_work_14 : decode cL_work 14 = .ok (.ireturn, 1) := by decide +kernel
theorem cw_work : Cond.codeWith yL_work cL_work 4 (some .int) [(0, 6, 7, 25), (0, 6, 11, 15)] ∈ WT := (wtm_5 116 (by decide +kernel) (by decide +kernel))
theorem st_work : Cond.static yL_work ∈ WT := (wtm_5 115 (by decide +kernel) (by decide +kernel))
theorem hy_work : yL_work.cls ≠ "java/lang/invoke/MethodHandle" ∧ yL_work.cls ≠ "java/lang/invoke/VarHandle" ∧ (parseMethodDescriptor yL_work.desc).map (fun d => d.parameters.length) = some 3 := ⟨by decide +kernel, by decide +kernel, by decide +kernel⟩
def sO_work (w : Wl) (l1 : Int32) (l2 : Int32) : Option (Int32) := okS (sX12_work w l1 l2)
def sL_work (w : Wl) (l1 : Int32) (l2 : Int32) : Option (Int32 × Wl) := (sX12_work w l1 l2).bind (lwR (some (-90300)) (some (-90100)) none w)
theorem kP_work {l : Launch} {Γ : Gl} {B : Bs} {w : Wl} {G : Gf} {sz : Nat} {l1 : Int32} {l2 : Int32} {r : Int32} (hC : GC Γ B) (hW : Wd Γ B w G) (h : sX12_work w l1 l2 = some (Sum.inr r)) : CtL l Γ yL_work cL_work 4 (some .int) [(0, 6, 7, 25), (0, 6, 11, 15)] 8 [.ref (B.1 + 0), .int l1, .int l2] G sz (RdΨ (.int r) G sz) 0 0 := by
  refine CtL.of rfl (Nat.le_of_ble_eq_true rfl) fun X hx hr htb hl hΓ => ?_
  subst hl hΓ
  show J X 4 G sz 0 0 0 [some (.ref (B.1 + 0)), some (.int l1), some (.int l2), none] []
  refine J_al4 hx rfl rfl dL_work_0 ?_
  refine J_il4 hx rfl rfl dL_work_1 ?_
  refine J_il4 hx rfl rfl dL_work_2 ?_
  refine J_rdV hx (kO_work hC hW h) ml_L_79 lk_X12_work (ci := 10) rfl (hW.obj (rfl : kd 0 = 1) (by decide) (by decide)) (rest := []) rfl rfl (by decide) (by decide) (Nat.le_of_ble_eq_true rfl) (Nat.le_refl 0) (Nat.le_refl 0) dL_work_3 ?_
  exact J_iretR hx hr dL_work_6 (Nat.le_refl 0) (Nat.le_refl 0) rfl
theorem kL_work {l : Launch} {Γ : Gl} {B : Bs} {w : Wl} {G : Gf} {sz : Nat} {l1 : Int32} {l2 : Int32} {r : Int32 × Wl} (htr : l.stackTraces = false) (hC : GC Γ B) (hW : Wd Γ B w G) (h : sL_work w l1 l2 = some r) : CtL l Γ yL_work cL_work 4 (some .int) [(0, 6, 7, 25), (0, 6, 11, 15)] 8 [.ref (B.1 + 0), .int l1, .int l2] G sz (WX Γ B (some (.int r.1)) r.2) 1 6 := by
  refine CtL.of rfl (Nat.le_of_ble_eq_true rfl) fun X hx hr htb hl hΓ => ?_
  subst hl hΓ
  show J X 4 G sz 0 0 0 [some (.ref (B.1 + 0)), some (.int l1), some (.int l2), none] []
  unfold sL_work at h
  obtain ⟨res, hres, h⟩ := bnd h
  refine J_al4 hx rfl rfl dL_work_0 ?_
  refine J_il4 hx rfl rfl dL_work_1 ?_
  refine J_il4 hx rfl rfl dL_work_2 ?_
  refine J_callVX hx htb (kX12_work htr hC hW hres) ml_L_79 lk_X12_work (ci := 10) rfl (hW.obj (rfl : kd 0 = 1) (by decide) (by decide)) (rest := []) rfl rfl (by decide) (by decide) (Nat.le_of_ble_eq_true rfl) (by decide) (by decide) dL_work_3 (fun v G1 sz1 hΨ => ?_) (fun E q sz1 hE => ?_)
  · obtain ⟨p, rfl, hv, hG, hz⟩ := hΨ
    subst hv
    subst hG
    obtain rfl := Option.some.inj h
    show J X 4 _ _ 1 6 6 [some (.ref (B.1 + 0)), some (.int l1), some (.int l2), none] [.int p]
    exact J_iret hx hr dL_work_6 (by decide) (by decide) ⟨rfl, hW⟩
  · cases res with
    | inr p => exact hE.elim
    | inl x =>
      rcases hE with ⟨rfl, rfl⟩ | ⟨rfl, rfl⟩ | ⟨rfl, rfl⟩
      · obtain rfl := Option.some.inj (h : some _ = some r)
        refine ⟨[], ⟨0, 6, 7, 25⟩, [⟨0, 6, 11, 15⟩], rfl, (fun z hz => nomatch hz), rfl, by decide, cl_L_25, (hx.kc hC).thr.2.2.2.2.2 _ (by decide +kernel), ?_⟩
        show J X 4 _ _ 1 6 7 [some (.ref (B.1 + 0)), some (.int l1), some (.int l2), none] [.ref q]
        refine J_as4 hx rfl (by decide) (hc_of rfl) rfl dL_work_7 ?_
        refine J_ldc hx cn_L_27 dL_work_8 ?_
        exact J_iret hx hr dL_work_10 (by decide) (by decide) ⟨rfl, hW⟩
      · obtain rfl := Option.some.inj (h : some _ = some r)
        refine ⟨[⟨0, 6, 7, 25⟩], ⟨0, 6, 11, 15⟩, [], rfl, (fun z hz => by
            rcases List.mem_cons.mp hz with rfl | hz
            · exact ⟨by decide, _, cl_L_25, (hx.kc hC).nc.1⟩
            cases hz), rfl, by decide, cl_L_15, (hx.kc hC).thr.2.2.2.2.2 _ (by decide +kernel), ?_⟩
        show J X 4 _ _ 1 6 11 [some (.ref (B.1 + 0)), some (.int l1), some (.int l2), none] [.ref q]
        refine J_as4 hx rfl (by decide) (hc_of rfl) rfl dL_work_11 ?_
        refine J_ldc hx cn_L_17 dL_work_12 ?_
        exact J_iret hx hr dL_work_14 (by decide) (by decide) ⟨rfl, hW⟩
      · cases (show (none : Option (Int32 × Wl)) = some r from h)
theorem dL_noted_0 : decode cL_noted 0 = .ok (.aload_n 0, 1) := by decide +kernel
theorem dL_noted_1 : decode cL_noted 1 = .ok (.iload_n 1, 1) := by decide +kernel
theorem dL_noted_2 : decode cL_noted 2 = .ok (.iload_n 2, 1) := by decide +kernel
theorem dL_noted_3 : decode cL_noted 3 = .ok (.invokevirtual 82, 3) := by decide +kernel
theorem dL_noted_6 : decode cL_noted 6 = .ok (.ireturn, 1) := by decide +kernel
theorem dL_noted_7 : decode cL_noted 7 = .ok (.astore_n 3, 1) := by decide +kernel
theorem dL_noted_8 : decode cL_noted 8 = .ok (.ldc 27, 2) := by decide +kernel
theorem dL_noted_10 : decode cL_noted 10 = .ok (.ireturn, 1) := by decide +kernel
theorem dL_noted_11 : decode cL_noted 11 = .ok (.astore_n 3, 1) := by decide +kernel
theorem dL_noted_12 : decode cL_noted 12 = .ok (.ldc 17, 2) := by decide +kernel
theorem dL_noted_14 : decode cL_noted 14 = .ok (.ireturn, 1) := by decide +kernel
theorem cw_noted : Cond.codeWith yL_noted cL_noted 4 (some .int) [(0, 6, 7, 25), (0, 6, 11, 15)] ∈ WT := (wtm_5 133 (by decide +kernel) (by decide +kernel))
theorem st_noted : Cond.static yL_noted ∈ WT := (wtm_5 132 (by decide +kernel) (by decide +kernel))
theorem hy_noted : yL_noted.cls ≠ "java/lang/invoke/MethodHandle" ∧ yL_noted.cls ≠ "java/lang/invoke/VarHandle" ∧ (parseMethodDescriptor yL_noted.desc).map (fun d => d.parameters.length) = some 3 := ⟨by decide +kernel, by decide +kernel, by decide +kernel⟩
def sO_noted (w : Wl) (l1 : Int32) (l2 : Int32) : Option (Int32) := okS (sX12_noted w l1 l2)
def sL_noted (w : Wl) (l1 : Int32) (l2 : Int32) : Option (Int32 × Wl) := (sX12_noted w l1 l2).bind (lwR (some (-90300)) (some (-90100)) none w)
theorem kP_noted {l : Launch} {Γ : Gl} {B : Bs} {w : Wl} {G : Gf} {sz : Nat} {l1 : Int32} {l2 : Int32} {r : Int32} (hC : GC Γ B) (hW : Wd Γ B w G) (h : sX12_noted w l1 l2 = some (Sum.inr r)) : CtL l Γ yL_noted cL_noted 4 (some .int) [(0, 6, 7, 25), (0, 6, 11, 15)] 8 [.ref (B.1 + 0), .int l1, .int l2] G sz (RdΨ (.int r) G sz) 0 0 := by
  refine CtL.of rfl (Nat.le_of_ble_eq_true rfl) fun X hx hr htb hl hΓ => ?_
  subst hl hΓ
  show J X 4 G sz 0 0 0 [some (.ref (B.1 + 0)), some (.int l1), some (.int l2), none] []
  refine J_al4 hx rfl rfl dL_noted_0 ?_
  refine J_il4 hx rfl rfl dL_noted_1 ?_
  refine J_il4 hx rfl rfl dL_noted_2 ?_
  refine J_rdV hx (kO_noted hC hW h) ml_L_82 lk_X12_noted (ci := 10) rfl (hW.obj (rfl : kd 0 = 1) (by decide) (by decide)) (rest := []) rfl rfl (by decide) (by decide) (Nat.le_of_ble_eq_true rfl) (Nat.le_refl 0) (Nat.le_refl 0) dL_noted_3 ?_
  exact J_iretR hx hr dL_noted_6 (Nat.le_refl 0) (Nat.le_refl 0) rfl
theorem kL_noted {l : Launch} {Γ : Gl} {B : Bs} {w : Wl} {G : Gf} {sz : Nat} {l1 : Int32} {l2 : Int32} {r : Int32 × Wl} (htr : l.stackTraces = false) (hC : GC Γ B) (hW : Wd Γ B w G) (h : sL_noted w l1 l2 = some r) : CtL l Γ yL_noted cL_noted 4 (some .int) [(0, 6, 7, 25), (0, 6, 11, 15)] 8 [.ref (B.1 + 0), .int l1, .int l2] G sz (WX Γ B (some (.int r.1)) r.2) 1 6 := by
  refine CtL.of rfl (Nat.le_of_ble_eq_true rfl) fun X hx hr htb hl hΓ => ?_
  subst hl hΓ
  show J X 4 G sz 0 0 0 [some (.ref (B.1 + 0)), some (.int l1), some (.int l2), none] []
  unfold sL_noted at h
  obtain ⟨res, hres, h⟩ := bnd h
  refine J_al4 hx rfl rfl dL_noted_0 ?_
  refine J_il4 hx rfl rfl dL_noted_1 ?_
  refine J_il4 hx rfl rfl dL_noted_2 ?_
  refine J_callVX hx htb (kX12_noted htr hC hW hres) ml_L_82 lk_X12_noted (ci := 10) rfl (hW.obj (rfl : kd 0 = 1) (by decide) (by decide)) (rest := []) rfl rfl (by decide) (by decide) (Nat.le_of_ble_eq_true rfl) (by decide) (by decide) dL_noted_3 (fun v G1 sz1 hΨ => ?_) (fun E q sz1 hE => ?_)
  · obtain ⟨p, rfl, hv, hG, hz⟩ := hΨ
    subst hv
    subst hG
    obtain rfl := Option.some.inj h
    show J X 4 _ _ 1 6 6 [some (.ref (B.1 + 0)), some (.int l1), some (.int l2), none] [.int p]
    exact J_iret hx hr dL_noted_6 (by decide) (by decide) ⟨rfl, hW⟩
  · cases res with
    | inr p => exact hE.elim
    | inl x =>
      rcases hE with ⟨rfl, rfl⟩ | ⟨rfl, rfl⟩ | ⟨rfl, rfl⟩
      · obtain rfl := Option.some.inj (h : some _ = some r)
        refine ⟨[], ⟨0, 6, 7, 25⟩, [⟨0, 6, 11, 15⟩], rfl, (fun z hz => nomatch hz), rfl, by decide, cl_L_25, (hx.kc hC).thr.2.2.2.2.2 _ (by decide +kernel), ?_⟩
        show J X 4 _ _ 1 6 7 [some (.ref (B.1 + 0)), some (.int l1), some (.int l2), none] [.ref q]
        refine J_as4 hx rfl (by decide) (hc_of rfl) rfl dL_noted_7 ?_
        refine J_ldc hx cn_L_27 dL_noted_8 ?_
        exact J_iret hx hr dL_noted_10 (by decide) (by decide) ⟨rfl, hW⟩
      · obtain rfl := Option.some.inj (h : some _ = some r)
        refine ⟨[⟨0, 6, 7, 25⟩], ⟨0, 6, 11, 15⟩, [], rfl, (fun z hz => by
            rcases List.mem_cons.mp hz with rfl | hz
            · exact ⟨by decide, _, cl_L_25, (hx.kc hC).nc.1⟩
            cases hz), rfl, by decide, cl_L_15, (hx.kc hC).thr.2.2.2.2.2 _ (by decide +kernel), ?_⟩
        show J X 4 _ _ 1 6 11 [some (.ref (B.1 + 0)), some (.int l1), some (.int l2), none] [.ref q]
        refine J_as4 hx rfl (by decide) (hc_of rfl) rfl dL_noted_11 ?_
        refine J_ldc hx cn_L_17 dL_noted_12 ?_
        exact J_iret hx hr dL_noted_14 (by decide) (by decide) ⟨rfl, hW⟩
      · cases (show (none : Option (Int32 × Wl)) = some r from h)
theorem dL_venue_0 : decode cL_venue 0 = .ok (.aload_n 0, 1) := by decide +kernel
theorem dL_venue_1 : decode cL_venue 1 = .ok (.iload_n 1, 1) := by decide +kernel
theorem dL_venue_2 : decode cL_venue 2 = .ok (.iload_n 2, 1) := by decide +kernel
theorem dL_venue_3 : decode cL_venue 3 = .ok (.invokevirtual 85, 3) := by decide +kernel
theorem dL_venue_6 : decode cL_venue 6 = .ok (.ireturn, 1) := by decide +kernel
theorem dL_venue_7 : decode cL_venue 7 = .ok (.astore_n 3, 1) := by decide +kernel
theorem dL_venue_8 : decode cL_venue 8 = .ok (.ldc 27, 2) := by decide +kernel
theorem dL_venue_10 : decode cL_venue 10 = .ok (.ireturn, 1) := by decide +kernel
theorem dL_venue_11 : decode cL_venue 11 = .ok (.astore_n 3, 1) := by decide +kernel
theorem dL_venue_12 : decode cL_venue 12 = .ok (.ldc 17, 2) := by decide +kernel
theorem dL_venue_14 : decode cL_venue 14 = .ok (.ireturn, 1) := by decide +kernel
theorem cw_venue : Cond.codeWith yL_venue cL_venue 4 (some .int) [(0, 6, 7, 25), (0, 6, 11, 15)] ∈ WT := (wtm_5 148 (by decide +kernel) (by decide +kernel))
theorem st_venue : Cond.static yL_venue ∈ WT := (wtm_5 147 (by decide +kernel) (by decide +kernel))
theorem hy_venue : yL_venue.cls ≠ "java/lang/invoke/MethodHandle" ∧ yL_venue.cls ≠ "java/lang/invoke/VarHandle" ∧ (parseMethodDescriptor yL_venue.desc).map (fun d => d.parameters.length) = some 3 := ⟨by decide +kernel, by decide +kernel, by decide +kernel⟩
def sO_venue (w : Wl) (l1 : Int32) (l2 : Int32) : Option (Int32) := okS (sX12_venue w l1 l2)
def sL_venue (w : Wl) (l1 : Int32) (l2 : Int32) : Option (Int32 × Wl) := (sX12_venue w l1 l2).bind (lwR (some (-90300)) (some (-90100)) none w)
theorem kP_venue {l : Launch} {Γ : Gl} {B : Bs} {w : Wl} {G : Gf} {sz : Nat} {l1 : Int32} {l2 : Int32} {r : Int32} (hC : GC Γ B) (hW : Wd Γ B w G) (h : sX12_venue w l1 l2 = some (Sum.inr r)) : CtL l Γ yL_venue cL_venue 4 (some .int) [(0, 6, 7, 25), (0, 6, 11, 15)] 8 [.ref (B.1 + 0), .int l1, .int l2] G sz (RdΨ (.int r) G sz) 0 0 := by
  refine CtL.of rfl (Nat.le_of_ble_eq_true rfl) fun X hx hr htb hl hΓ => ?_
  subst hl hΓ
  show J X 4 G sz 0 0 0 [some (.ref (B.1 + 0)), some (.int l1), some (.int l2), none] []
  refine J_al4 hx rfl rfl dL_venue_0 ?_
  refine J_il4 hx rfl rfl dL_venue_1 ?_
  refine J_il4 hx rfl rfl dL_venue_2 ?_
  refine J_rdV hx (kO_venue hC hW h) ml_L_85 lk_X12_venue (ci := 10) rfl (hW.obj (rfl : kd 0 = 1) (by decide) (by decide)) (rest := []) rfl rfl (by decide) (by decide) (Nat.le_of_ble_eq_true rfl) (Nat.le_refl 0) (Nat.le_refl 0) dL_venue_3 ?_
  exact J_iretR hx hr dL_venue_6 (Nat.le_refl 0) (Nat.le_refl 0) rfl
theorem kL_venue {l : Launch} {Γ : Gl} {B : Bs} {w : Wl} {G : Gf} {sz : Nat} {l1 : Int32} {l2 : Int32} {r : Int32 × Wl} (htr : l.stackTraces = false) (hC : GC Γ B) (hW : Wd Γ B w G) (h : sL_venue w l1 l2 = some r) : CtL l Γ yL_venue cL_venue 4 (some .int) [(0, 6, 7, 25), (0, 6, 11, 15)] 8 [.ref (B.1 + 0), .int l1, .int l2] G sz (WX Γ B (some (.int r.1)) r.2) 1 6 := by
  refine CtL.of rfl (Nat.le_of_ble_eq_true rfl) fun X hx hr htb hl hΓ => ?_
  subst hl hΓ
  show J X 4 G sz 0 0 0 [some (.ref (B.1 + 0)), some (.int l1), some (.int l2), none] []
  unfold sL_venue at h
  obtain ⟨res, hres, h⟩ := bnd h
  refine J_al4 hx rfl rfl dL_venue_0 ?_
  refine J_il4 hx rfl rfl dL_venue_1 ?_
  refine J_il4 hx rfl rfl dL_venue_2 ?_
  refine J_callVX hx htb (kX12_venue htr hC hW hres) ml_L_85 lk_X12_venue (ci := 10) rfl (hW.obj (rfl : kd 0 = 1) (by decide) (by decide)) (rest := []) rfl rfl (by decide) (by decide) (Nat.le_of_ble_eq_true rfl) (by decide) (by decide) dL_venue_3 (fun v G1 sz1 hΨ => ?_) (fun E q sz1 hE => ?_)
  · obtain ⟨p, rfl, hv, hG, hz⟩ := hΨ
    subst hv
    subst hG
    obtain rfl := Option.some.inj h
    show J X 4 _ _ 1 6 6 [some (.ref (B.1 + 0)), some (.int l1), some (.int l2), none] [.int p]
    exact J_iret hx hr dL_venue_6 (by decide) (by decide) ⟨rfl, hW⟩
  · cases res with
    | inr p => exact hE.elim
    | inl x =>
      rcases hE with ⟨rfl, rfl⟩ | ⟨rfl, rfl⟩ | ⟨rfl, rfl⟩
      · obtain rfl := Option.some.inj (h : some _ = some r)
        refine ⟨[], ⟨0, 6, 7, 25⟩, [⟨0, 6, 11, 15⟩], rfl, (fun z hz => nomatch hz), rfl, by decide, cl_L_25, (hx.kc hC).thr.2.2.2.2.2 _ (by decide +kernel), ?_⟩
        show J X 4 _ _ 1 6 7 [some (.ref (B.1 + 0)), some (.int l1), some (.int l2), none] [.ref q]
        refine J_as4 hx rfl (by decide) (hc_of rfl) rfl dL_venue_7 ?_
        refine J_ldc hx cn_L_27 dL_venue_8 ?_
        exact J_iret hx hr dL_venue_10 (by decide) (by decide) ⟨rfl, hW⟩
      · obtain rfl := Option.some.inj (h : some _ = some r)
        refine ⟨[⟨0, 6, 7, 25⟩], ⟨0, 6, 11, 15⟩, [], rfl, (fun z hz => by
            rcases List.mem_cons.mp hz with rfl | hz
            · exact ⟨by decide, _, cl_L_25, (hx.kc hC).nc.1⟩
            cases hz), rfl, by decide, cl_L_15, (hx.kc hC).thr.2.2.2.2.2 _ (by decide +kernel), ?_⟩
        show J X 4 _ _ 1 6 11 [some (.ref (B.1 + 0)), some (.int l1), some (.int l2), none] [.ref q]
        refine J_as4 hx rfl (by decide) (hc_of rfl) rfl dL_venue_11 ?_
        refine J_ldc hx cn_L_17 dL_venue_12 ?_
        exact J_iret hx hr dL_venue_14 (by decide) (by decide) ⟨rfl, hW⟩
      · cases (show (none : Option (Int32 × Wl)) = some r from h)
theorem dL_courier_0 : decode cL_courier 0 = .ok (.aload_n 0, 1) := by decide +kernel
theorem dL_courier_1 : decode cL_courier 1 = .ok (.iload_n 1, 1) := by decide +kernel
theorem dL_courier_2 : decode cL_courier 2 = .ok (.invokevirtual 88, 3) := by decide +kernel
theorem dL_courier_5 : decode cL_courier 5 = .ok (.ireturn, 1) := by decide +kernel
theorem dL_courier_6 : decode cL_courier 6 = .ok (.astore_n 2, 1) := by decide +kernel
theorem dL_courier_7 : decode cL_courier 7 = .ok (.ldc 27, 2) := by decide +kernel
theorem dL_courier_9 : decode cL_courier 9 = .ok (.ireturn, 1) := by decide +kernel
theorem cw_courier : Cond.codeWith yL_courier cL_courier 3 (some .int) [(0, 5, 6, 25)] ∈ WT := (wtm_5 170 (by decide +kernel) (by decide +kernel))
theorem st_courier : Cond.static yL_courier ∈ WT := (wtm_5 169 (by decide +kernel) (by decide +kernel))
theorem hy_courier : yL_courier.cls ≠ "java/lang/invoke/MethodHandle" ∧ yL_courier.cls ≠ "java/lang/invoke/VarHandle" ∧ (parseMethodDescriptor yL_courier.desc).map (fun d => d.parameters.length) = some 2 := ⟨by decide +kernel, by decide +kernel, by decide +kernel⟩
def sO_courier (w : Wl) (l1 : Int32) : Option (Int32) := okS (sX12_courier w l1)
def sL_courier (w : Wl) (l1 : Int32) : Option (Int32 × Wl) := (sX12_courier w l1).bind (lwR (some (-90300)) none none w)
theorem kP_courier {l : Launch} {Γ : Gl} {B : Bs} {w : Wl} {G : Gf} {sz : Nat} {l1 : Int32} {r : Int32} (hC : GC Γ B) (hW : Wd Γ B w G) (h : sX12_courier w l1 = some (Sum.inr r)) : CtL l Γ yL_courier cL_courier 3 (some .int) [(0, 5, 6, 25)] 8 [.ref (B.1 + 0), .int l1] G sz (RdΨ (.int r) G sz) 0 0 := by
  refine CtL.of rfl (Nat.le_of_ble_eq_true rfl) fun X hx hr htb hl hΓ => ?_
  subst hl hΓ
  show J X 3 G sz 0 0 0 [some (.ref (B.1 + 0)), some (.int l1), none] []
  refine J_al4 hx rfl rfl dL_courier_0 ?_
  refine J_il4 hx rfl rfl dL_courier_1 ?_
  refine J_rdV hx (kO_courier hC hW h) ml_L_88 lk_X12_courier (ci := 10) rfl (hW.obj (rfl : kd 0 = 1) (by decide) (by decide)) (rest := []) rfl rfl (by decide) (by decide) (Nat.le_of_ble_eq_true rfl) (Nat.le_refl 0) (Nat.le_refl 0) dL_courier_2 ?_
  exact J_iretR hx hr dL_courier_5 (Nat.le_refl 0) (Nat.le_refl 0) rfl
theorem kL_courier {l : Launch} {Γ : Gl} {B : Bs} {w : Wl} {G : Gf} {sz : Nat} {l1 : Int32} {r : Int32 × Wl} (htr : l.stackTraces = false) (hC : GC Γ B) (hW : Wd Γ B w G) (h : sL_courier w l1 = some r) : CtL l Γ yL_courier cL_courier 3 (some .int) [(0, 5, 6, 25)] 8 [.ref (B.1 + 0), .int l1] G sz (WX Γ B (some (.int r.1)) r.2) 1 6 := by
  refine CtL.of rfl (Nat.le_of_ble_eq_true rfl) fun X hx hr htb hl hΓ => ?_
  subst hl hΓ
  show J X 3 G sz 0 0 0 [some (.ref (B.1 + 0)), some (.int l1), none] []
  unfold sL_courier at h
  obtain ⟨res, hres, h⟩ := bnd h
  refine J_al4 hx rfl rfl dL_courier_0 ?_
  refine J_il4 hx rfl rfl dL_courier_1 ?_
  refine J_callVX hx htb (kX12_courier htr hC hW hres) ml_L_88 lk_X12_courier (ci := 10) rfl (hW.obj (rfl : kd 0 = 1) (by decide) (by decide)) (rest := []) rfl rfl (by decide) (by decide) (Nat.le_of_ble_eq_true rfl) (by decide) (by decide) dL_courier_2 (fun v G1 sz1 hΨ => ?_) (fun E q sz1 hE => ?_)
  · obtain ⟨p, rfl, hv, hG, hz⟩ := hΨ
    subst hv
    subst hG
    obtain rfl := Option.some.inj h
    show J X 3 _ _ 1 6 5 [some (.ref (B.1 + 0)), some (.int l1), none] [.int p]
    exact J_iret hx hr dL_courier_5 (by decide) (by decide) ⟨rfl, hW⟩
  · cases res with
    | inr p => exact hE.elim
    | inl x =>
      rcases hE with ⟨rfl, rfl⟩ | ⟨rfl, rfl⟩ | ⟨rfl, rfl⟩
      · obtain rfl := Option.some.inj (h : some _ = some r)
        refine ⟨[], ⟨0, 5, 6, 25⟩, [], rfl, (fun z hz => nomatch hz), rfl, by decide, cl_L_25, (hx.kc hC).thr.2.2.2.2.2 _ (by decide +kernel), ?_⟩
        show J X 3 _ _ 1 6 6 [some (.ref (B.1 + 0)), some (.int l1), none] [.ref q]
        refine J_as4 hx rfl (by decide) (hc_of rfl) rfl dL_courier_6 ?_
        refine J_ldc hx cn_L_27 dL_courier_7 ?_
        exact J_iret hx hr dL_courier_9 (by decide) (by decide) ⟨rfl, hW⟩
      · cases (show (none : Option (Int32 × Wl)) = some r from h)
      · cases (show (none : Option (Int32 × Wl)) = some r from h)
theorem dL_whole_0 : decode cL_whole 0 = .ok (.aload_n 0, 1) := by decide +kernel
theorem dL_whole_1 : decode cL_whole 1 = .ok (.iload_n 1, 1) := by decide +kernel
theorem dL_whole_2 : decode cL_whole 2 = .ok (.invokevirtual 91, 3) := by decide +kernel
theorem dL_whole_5 : decode cL_whole 5 = .ok (.ireturn, 1) := by decide +kernel
theorem dL_whole_6 : decode cL_whole 6 = .ok (.astore_n 2, 1) := by decide +kernel
theorem dL_whole_7 : decode cL_whole 7 = .ok (.ldc 17, 2) := by decide +kernel
theorem dL_whole_9 : decode cL_whole 9 = .ok (.ireturn, 1) := by decide +kernel
theorem cw_whole : Cond.codeWith yL_whole cL_whole 3 (some .int) [(0, 5, 6, 15)] ∈ WT := (wtm_5 179 (by decide +kernel) (by decide +kernel))
theorem st_whole : Cond.static yL_whole ∈ WT := (wtm_5 178 (by decide +kernel) (by decide +kernel))
theorem hy_whole : yL_whole.cls ≠ "java/lang/invoke/MethodHandle" ∧ yL_whole.cls ≠ "java/lang/invoke/VarHandle" ∧ (parseMethodDescriptor yL_whole.desc).map (fun d => d.parameters.length) = some 2 := ⟨by decide +kernel, by decide +kernel, by decide +kernel⟩
def sO_whole (w : Wl) (l1 : Int32) : Option (Int32) := okS (sX12_whole w l1)
def sL_whole (w : Wl) (l1 : Int32) : Option (Int32 × Wl) := (sX12_whole w l1).bind (lwR none (some (-90100)) none w)
theorem kP_whole {l : Launch} {Γ : Gl} {B : Bs} {w : Wl} {G : Gf} {sz : Nat} {l1 : Int32} {r : Int32} (hC : GC Γ B) (hW : Wd Γ B w G) (h : sX12_whole w l1 = some (Sum.inr r)) : CtL l Γ yL_whole cL_whole 3 (some .int) [(0, 5, 6, 15)] 8 [.ref (B.1 + 0), .int l1] G sz (RdΨ (.int r) G sz) 0 0 := by
  refine CtL.of rfl (Nat.le_of_ble_eq_true rfl) fun X hx hr htb hl hΓ => ?_
  subst hl hΓ
  show J X 3 G sz 0 0 0 [some (.ref (B.1 + 0)), some (.int l1), none] []
  refine J_al4 hx rfl rfl dL_whole_0 ?_
  refine J_il4 hx rfl rfl dL_whole_1 ?_
  refine J_rdV hx (kO_whole hC hW h) ml_L_91 lk_X12_whole (ci := 10) rfl (hW.obj (rfl : kd 0 = 1) (by decide) (by decide)) (rest := []) rfl rfl (by decide) (by decide) (Nat.le_of_ble_eq_true rfl) (Nat.le_refl 0) (Nat.le_refl 0) dL_whole_2 ?_
  exact J_iretR hx hr dL_whole_5 (Nat.le_refl 0) (Nat.le_refl 0) rfl
theorem kL_whole {l : Launch} {Γ : Gl} {B : Bs} {w : Wl} {G : Gf} {sz : Nat} {l1 : Int32} {r : Int32 × Wl} (htr : l.stackTraces = false) (hC : GC Γ B) (hW : Wd Γ B w G) (h : sL_whole w l1 = some r) : CtL l Γ yL_whole cL_whole 3 (some .int) [(0, 5, 6, 15)] 8 [.ref (B.1 + 0), .int l1] G sz (WX Γ B (some (.int r.1)) r.2) 1 6 := by
  refine CtL.of rfl (Nat.le_of_ble_eq_true rfl) fun X hx hr htb hl hΓ => ?_
  subst hl hΓ
  show J X 3 G sz 0 0 0 [some (.ref (B.1 + 0)), some (.int l1), none] []
  unfold sL_whole at h
  obtain ⟨res, hres, h⟩ := bnd h
  refine J_al4 hx rfl rfl dL_whole_0 ?_
  refine J_il4 hx rfl rfl dL_whole_1 ?_
  refine J_callVX hx htb (kX12_whole htr hC hW hres) ml_L_91 lk_X12_whole (ci := 10) rfl (hW.obj (rfl : kd 0 = 1) (by decide) (by decide)) (rest := []) rfl rfl (by decide) (by decide) (Nat.le_of_ble_eq_true rfl) (by decide) (by decide) dL_whole_2 (fun v G1 sz1 hΨ => ?_) (fun E q sz1 hE => ?_)
  · obtain ⟨p, rfl, hv, hG, hz⟩ := hΨ
    subst hv
    subst hG
    obtain rfl := Option.some.inj h
    show J X 3 _ _ 1 6 5 [some (.ref (B.1 + 0)), some (.int l1), none] [.int p]
    exact J_iret hx hr dL_whole_5 (by decide) (by decide) ⟨rfl, hW⟩
  · cases res with
    | inr p => exact hE.elim
    | inl x =>
      rcases hE with ⟨rfl, rfl⟩ | ⟨rfl, rfl⟩ | ⟨rfl, rfl⟩
      · cases (show (none : Option (Int32 × Wl)) = some r from h)
      · obtain rfl := Option.some.inj (h : some _ = some r)
        refine ⟨[], ⟨0, 5, 6, 15⟩, [], rfl, (fun z hz => nomatch hz), rfl, by decide, cl_L_15, (hx.kc hC).thr.2.2.2.2.2 _ (by decide +kernel), ?_⟩
        show J X 3 _ _ 1 6 6 [some (.ref (B.1 + 0)), some (.int l1), none] [.ref q]
        refine J_as4 hx rfl (by decide) (hc_of rfl) rfl dL_whole_6 ?_
        refine J_ldc hx cn_L_17 dL_whole_7 ?_
        exact J_iret hx hr dL_whole_9 (by decide) (by decide) ⟨rfl, hW⟩
      · cases (show (none : Option (Int32 × Wl)) = some r from h)
theorem dL_readyAt_0 : decode cL_readyAt 0 = .ok (.aload_n 0, 1) := by decide +kernel
theorem dL_readyAt_1 : decode cL_readyAt 1 = .ok (.iload_n 1, 1) := by decide +kernel
theorem dL_readyAt_2 : decode cL_readyAt 2 = .ok (.invokevirtual 94, 3) := by decide +kernel
theorem dL_readyAt_5 : decode cL_readyAt 5 = .ok (.ireturn, 1) := by decide +kernel
theorem dL_readyAt_6 : decode cL_readyAt 6 = .ok (.astore_n 2, 1) := by decide +kernel
theorem dL_readyAt_7 : decode cL_readyAt 7 = .ok (.ldc 27, 2) := by decide +kernel
theorem dL_readyAt_9 : decode cL_readyAt 9 = .ok (.ireturn, 1) := by decide +kernel
theorem cw_readyAt : Cond.codeWith yL_readyAt cL_readyAt 3 (some .int) [(0, 5, 6, 25)] ∈ WT := (wtm_5 213 (by decide +kernel) (by decide +kernel))
theorem st_readyAt : Cond.static yL_readyAt ∈ WT := (wtm_5 212 (by decide +kernel) (by decide +kernel))
theorem hy_readyAt : yL_readyAt.cls ≠ "java/lang/invoke/MethodHandle" ∧ yL_readyAt.cls ≠ "java/lang/invoke/VarHandle" ∧ (parseMethodDescriptor yL_readyAt.desc).map (fun d => d.parameters.length) = some 2 := ⟨by decide +kernel, by decide +kernel, by decide +kernel⟩
def sO_readyAt (w : Wl) (l1 : Int32) : Option (Int32 × Wl) := okS (sX12_readyAt w l1)
def sL_readyAt (w : Wl) (l1 : Int32) : Option (Int32 × Wl) := (sX12_readyAt w l1).bind (lwW (some (-90300)) none none w)
theorem kP_readyAt {l : Launch} {Γ : Gl} {B : Bs} {w : Wl} {G : Gf} {sz : Nat} {l1 : Int32} {r : Int32 × Wl} (hC : GC Γ B) (hW : Wd Γ B w G) (h : sX12_readyAt w l1 = some (Sum.inr r)) : CtL l Γ yL_readyAt cL_readyAt 3 (some .int) [(0, 5, 6, 25)] 8 [.ref (B.1 + 0), .int l1] G sz (WΨ Γ B (some (.int r.1)) r.2 sz) 0 0 := by
  refine CtL.of rfl (Nat.le_of_ble_eq_true rfl) fun X hx hr htb hl hΓ => ?_
  subst hl hΓ
  show J X 3 G sz 0 0 0 [some (.ref (B.1 + 0)), some (.int l1), none] []
  refine J_al4 hx rfl rfl dL_readyAt_0 ?_
  refine J_il4 hx rfl rfl dL_readyAt_1 ?_
  refine J_wrV hx (kO_readyAt hC hW h) ml_L_94 lk_X12_readyAt (ci := 10) rfl (hW.obj (rfl : kd 0 = 1) (by decide) (by decide)) (rest := []) rfl rfl (by decide) (by decide) (Nat.le_of_ble_eq_true rfl) (Nat.le_refl 0) (Nat.le_refl 0) dL_readyAt_2 fun G1 hW1 => ?_
  show J X 3 G1 sz 0 0 5 [some (.ref (B.1 + 0)), some (.int l1), none] [.int r.1]
  exact J_iretW hx hr hW1 dL_readyAt_5 (Nat.le_refl 0) (Nat.le_refl 0)
theorem kL_readyAt {l : Launch} {Γ : Gl} {B : Bs} {w : Wl} {G : Gf} {sz : Nat} {l1 : Int32} {r : Int32 × Wl} (htr : l.stackTraces = false) (hC : GC Γ B) (hW : Wd Γ B w G) (h : sL_readyAt w l1 = some r) : CtL l Γ yL_readyAt cL_readyAt 3 (some .int) [(0, 5, 6, 25)] 8 [.ref (B.1 + 0), .int l1] G sz (WX Γ B (some (.int r.1)) r.2) 1 6 := by
  refine CtL.of rfl (Nat.le_of_ble_eq_true rfl) fun X hx hr htb hl hΓ => ?_
  subst hl hΓ
  show J X 3 G sz 0 0 0 [some (.ref (B.1 + 0)), some (.int l1), none] []
  unfold sL_readyAt at h
  obtain ⟨res, hres, h⟩ := bnd h
  refine J_al4 hx rfl rfl dL_readyAt_0 ?_
  refine J_il4 hx rfl rfl dL_readyAt_1 ?_
  refine J_callVX hx htb (kX12_readyAt htr hC hW hres) ml_L_94 lk_X12_readyAt (ci := 10) rfl (hW.obj (rfl : kd 0 = 1) (by decide) (by decide)) (rest := []) rfl rfl (by decide) (by decide) (Nat.le_of_ble_eq_true rfl) (by decide) (by decide) dL_readyAt_2 (fun v G1 sz1 hΨ => ?_) (fun E q sz1 hE => ?_)
  · obtain ⟨p, rfl, hv, hG, hz⟩ := hΨ
    subst hv
    obtain rfl := Option.some.inj h
    show J X 3 _ _ 1 6 5 [some (.ref (B.1 + 0)), some (.int l1), none] [.int p.1]
    exact J_iret hx hr dL_readyAt_5 (by decide) (by decide) ⟨rfl, hG⟩
  · cases res with
    | inr p => exact hE.elim
    | inl x =>
      rcases hE with ⟨rfl, rfl⟩ | ⟨rfl, rfl⟩ | ⟨rfl, rfl⟩
      · obtain rfl := Option.some.inj (h : some _ = some r)
        refine ⟨[], ⟨0, 5, 6, 25⟩, [], rfl, (fun z hz => nomatch hz), rfl, by decide, cl_L_25, (hx.kc hC).thr.2.2.2.2.2 _ (by decide +kernel), ?_⟩
        show J X 3 _ _ 1 6 6 [some (.ref (B.1 + 0)), some (.int l1), none] [.ref q]
        refine J_as4 hx rfl (by decide) (hc_of rfl) rfl dL_readyAt_6 ?_
        refine J_ldc hx cn_L_27 dL_readyAt_7 ?_
        exact J_iret hx hr dL_readyAt_9 (by decide) (by decide) ⟨rfl, hW⟩
      · cases (show (none : Option (Int32 × Wl)) = some r from h)
      · cases (show (none : Option (Int32 × Wl)) = some r from h)
theorem dL_allReadyAt_0 : decode cL_allReadyAt 0 = .ok (.aload_n 0, 1) := by decide +kernel
theorem dL_allReadyAt_1 : decode cL_allReadyAt 1 = .ok (.iload_n 1, 1) := by decide +kernel
theorem dL_allReadyAt_2 : decode cL_allReadyAt 2 = .ok (.invokevirtual 97, 3) := by decide +kernel
theorem dL_allReadyAt_5 : decode cL_allReadyAt 5 = .ok (.ireturn, 1) := by decide +kernel
theorem dL_allReadyAt_6 : decode cL_allReadyAt 6 = .ok (.astore_n 2, 1) := by decide +kernel
theorem dL_allReadyAt_7 : decode cL_allReadyAt 7 = .ok (.ldc 27, 2) := by decide +kernel
theorem dL_allReadyAt_9 : decode cL_allReadyAt 9 = .ok (.ireturn, 1) := by decide +kernel
theorem cw_allReadyAt : Cond.codeWith yL_allReadyAt cL_allReadyAt 3 (some .int) [(0, 5, 6, 25)] ∈ WT := (wtm_5 239 (by decide +kernel) (by decide +kernel))
theorem st_allReadyAt : Cond.static yL_allReadyAt ∈ WT := (wtm_5 238 (by decide +kernel) (by decide +kernel))
theorem hy_allReadyAt : yL_allReadyAt.cls ≠ "java/lang/invoke/MethodHandle" ∧ yL_allReadyAt.cls ≠ "java/lang/invoke/VarHandle" ∧ (parseMethodDescriptor yL_allReadyAt.desc).map (fun d => d.parameters.length) = some 2 := ⟨by decide +kernel, by decide +kernel, by decide +kernel⟩
def sO_allReadyAt (w : Wl) (l1 : Int32) : Option (Int32 × Wl) := okS (sX12_allReadyAt w l1)
def sL_allReadyAt (w : Wl) (l1 : Int32) : Option (Int32 × Wl) := (sX12_allReadyAt w l1).bind (lwW (some (-90300)) none none w)
theorem kP_allReadyAt {l : Launch} {Γ : Gl} {B : Bs} {w : Wl} {G : Gf} {sz : Nat} {l1 : Int32} {r : Int32 × Wl} (hC : GC Γ B) (hW : Wd Γ B w G) (h : sX12_allReadyAt w l1 = some (Sum.inr r)) : CtL l Γ yL_allReadyAt cL_allReadyAt 3 (some .int) [(0, 5, 6, 25)] 8 [.ref (B.1 + 0), .int l1] G sz (WΨ Γ B (some (.int r.1)) r.2 sz) 0 0 := by
  refine CtL.of rfl (Nat.le_of_ble_eq_true rfl) fun X hx hr htb hl hΓ => ?_
  subst hl hΓ
  show J X 3 G sz 0 0 0 [some (.ref (B.1 + 0)), some (.int l1), none] []
  refine J_al4 hx rfl rfl dL_allReadyAt_0 ?_
  refine J_il4 hx rfl rfl dL_allReadyAt_1 ?_
  refine J_wrV hx (kO_allReadyAt hC hW h) ml_L_97 lk_X12_allReadyAt (ci := 10) rfl (hW.obj (rfl : kd 0 = 1) (by decide) (by decide)) (rest := []) rfl rfl (by decide) (by decide) (Nat.le_of_ble_eq_true rfl) (Nat.le_refl 0) (Nat.le_refl 0) dL_allReadyAt_2 fun G1 hW1 => ?_
  show J X 3 G1 sz 0 0 5 [some (.ref (B.1 + 0)), some (.int l1), none] [.int r.1]
  exact J_iretW hx hr hW1 dL_allReadyAt_5 (Nat.le_refl 0) (Nat.le_refl 0)
theorem kL_allReadyAt {l : Launch} {Γ : Gl} {B : Bs} {w : Wl} {G : Gf} {sz : Nat} {l1 : Int32} {r : Int32 × Wl} (htr : l.stackTraces = false) (hC : GC Γ B) (hW : Wd Γ B w G) (h : sL_allReadyAt w l1 = some r) : CtL l Γ yL_allReadyAt cL_allReadyAt 3 (some .int) [(0, 5, 6, 25)] 8 [.ref (B.1 + 0), .int l1] G sz (WX Γ B (some (.int r.1)) r.2) 1 6 := by
  refine CtL.of rfl (Nat.le_of_ble_eq_true rfl) fun X hx hr htb hl hΓ => ?_
  subst hl hΓ
  show J X 3 G sz 0 0 0 [some (.ref (B.1 + 0)), some (.int l1), none] []
  unfold sL_allReadyAt at h
  obtain ⟨res, hres, h⟩ := bnd h
  refine J_al4 hx rfl rfl dL_allReadyAt_0 ?_
  refine J_il4 hx rfl rfl dL_allReadyAt_1 ?_
  refine J_callVX hx htb (kX12_allReadyAt htr hC hW hres) ml_L_97 lk_X12_allReadyAt (ci := 10) rfl (hW.obj (rfl : kd 0 = 1) (by decide) (by decide)) (rest := []) rfl rfl (by decide) (by decide) (Nat.le_of_ble_eq_true rfl) (by decide) (by decide) dL_allReadyAt_2 (fun v G1 sz1 hΨ => ?_) (fun E q sz1 hE => ?_)
  · obtain ⟨p, rfl, hv, hG, hz⟩ := hΨ
    subst hv
    obtain rfl := Option.some.inj h
    show J X 3 _ _ 1 6 5 [some (.ref (B.1 + 0)), some (.int l1), none] [.int p.1]
    exact J_iret hx hr dL_allReadyAt_5 (by decide) (by decide) ⟨rfl, hG⟩
  · cases res with
    | inr p => exact hE.elim
    | inl x =>
      rcases hE with ⟨rfl, rfl⟩ | ⟨rfl, rfl⟩ | ⟨rfl, rfl⟩
      · obtain rfl := Option.some.inj (h : some _ = some r)
        refine ⟨[], ⟨0, 5, 6, 25⟩, [], rfl, (fun z hz => nomatch hz), rfl, by decide, cl_L_25, (hx.kc hC).thr.2.2.2.2.2 _ (by decide +kernel), ?_⟩
        show J X 3 _ _ 1 6 6 [some (.ref (B.1 + 0)), some (.int l1), none] [.ref q]
        refine J_as4 hx rfl (by decide) (hc_of rfl) rfl dL_allReadyAt_6 ?_
        refine J_ldc hx cn_L_27 dL_allReadyAt_7 ?_
        exact J_iret hx hr dL_allReadyAt_9 (by decide) (by decide) ⟨rfl, hW⟩
      · cases (show (none : Option (Int32 × Wl)) = some r from h)
      · cases (show (none : Option (Int32 × Wl)) = some r from h)
theorem dL_bestVenue_0 : decode cL_bestVenue 0 = .ok (.aload_n 0, 1) := by decide +kernel
theorem dL_bestVenue_1 : decode cL_bestVenue 1 = .ok (.iload_n 1, 1) := by decide +kernel
theorem dL_bestVenue_2 : decode cL_bestVenue 2 = .ok (.iload_n 2, 1) := by decide +kernel
theorem dL_bestVenue_3 : decode cL_bestVenue 3 = .ok (.invokevirtual 100, 3) := by decide +kernel
theorem dL_bestVenue_6 : decode cL_bestVenue 6 = .ok (.ireturn, 1) := by decide +kernel
theorem dL_bestVenue_7 : decode cL_bestVenue 7 = .ok (.astore_n 3, 1) := by decide +kernel
theorem dL_bestVenue_8 : decode cL_bestVenue 8 = .ok (.ldc 27, 2) := by decide +kernel
theorem dL_bestVenue_10 : decode cL_bestVenue 10 = .ok (.ireturn, 1) := by decide +kernel
theorem cw_bestVenue : Cond.codeWith yL_bestVenue cL_bestVenue 4 (some .int) [(0, 6, 7, 25)] ∈ WT := (wtm_6 72 (by decide +kernel) (by decide +kernel))
theorem st_bestVenue : Cond.static yL_bestVenue ∈ WT := (wtm_6 71 (by decide +kernel) (by decide +kernel))
theorem hy_bestVenue : yL_bestVenue.cls ≠ "java/lang/invoke/MethodHandle" ∧ yL_bestVenue.cls ≠ "java/lang/invoke/VarHandle" ∧ (parseMethodDescriptor yL_bestVenue.desc).map (fun d => d.parameters.length) = some 3 := ⟨by decide +kernel, by decide +kernel, by decide +kernel⟩
def sO_bestVenue (w : Wl) (l1 : Int32) (l2 : Int32) : Option (Int32 × Wl) := okS (sX12_bestVenue w l1 l2)
def sL_bestVenue (w : Wl) (l1 : Int32) (l2 : Int32) : Option (Int32 × Wl) := (sX12_bestVenue w l1 l2).bind (lwW (some (-90300)) none none w)
theorem kP_bestVenue {l : Launch} {Γ : Gl} {B : Bs} {w : Wl} {G : Gf} {sz : Nat} {l1 : Int32} {l2 : Int32} {r : Int32 × Wl} (hC : GC Γ B) (hW : Wd Γ B w G) (h : sX12_bestVenue w l1 l2 = some (Sum.inr r)) : CtL l Γ yL_bestVenue cL_bestVenue 4 (some .int) [(0, 6, 7, 25)] 8 [.ref (B.1 + 0), .int l1, .int l2] G sz (WΨ Γ B (some (.int r.1)) r.2 sz) 0 0 := by
  refine CtL.of rfl (Nat.le_of_ble_eq_true rfl) fun X hx hr htb hl hΓ => ?_
  subst hl hΓ
  show J X 4 G sz 0 0 0 [some (.ref (B.1 + 0)), some (.int l1), some (.int l2), none] []
  refine J_al4 hx rfl rfl dL_bestVenue_0 ?_
  refine J_il4 hx rfl rfl dL_bestVenue_1 ?_
  refine J_il4 hx rfl rfl dL_bestVenue_2 ?_
  refine J_wrV hx (kO_bestVenue hC hW h) ml_L_100 lk_X12_bestVenue (ci := 10) rfl (hW.obj (rfl : kd 0 = 1) (by decide) (by decide)) (rest := []) rfl rfl (by decide) (by decide) (Nat.le_of_ble_eq_true rfl) (Nat.le_refl 0) (Nat.le_refl 0) dL_bestVenue_3 fun G1 hW1 => ?_
  show J X 4 G1 sz 0 0 6 [some (.ref (B.1 + 0)), some (.int l1), some (.int l2), none] [.int r.1]
  exact J_iretW hx hr hW1 dL_bestVenue_6 (Nat.le_refl 0) (Nat.le_refl 0)
theorem kL_bestVenue {l : Launch} {Γ : Gl} {B : Bs} {w : Wl} {G : Gf} {sz : Nat} {l1 : Int32} {l2 : Int32} {r : Int32 × Wl} (htr : l.stackTraces = false) (hC : GC Γ B) (hW : Wd Γ B w G) (h : sL_bestVenue w l1 l2 = some r) : CtL l Γ yL_bestVenue cL_bestVenue 4 (some .int) [(0, 6, 7, 25)] 8 [.ref (B.1 + 0), .int l1, .int l2] G sz (WX Γ B (some (.int r.1)) r.2) 1 6 := by
  refine CtL.of rfl (Nat.le_of_ble_eq_true rfl) fun X hx hr htb hl hΓ => ?_
  subst hl hΓ
  show J X 4 G sz 0 0 0 [some (.ref (B.1 + 0)), some (.int l1), some (.int l2), none] []
  unfold sL_bestVenue at h
  obtain ⟨res, hres, h⟩ := bnd h
  refine J_al4 hx rfl rfl dL_bestVenue_0 ?_
  refine J_il4 hx rfl rfl dL_bestVenue_1 ?_
  refine J_il4 hx rfl rfl dL_bestVenue_2 ?_
  refine J_callVX hx htb (kX12_bestVenue htr hC hW hres) ml_L_100 lk_X12_bestVenue (ci := 10) rfl (hW.obj (rfl : kd 0 = 1) (by decide) (by decide)) (rest := []) rfl rfl (by decide) (by decide) (Nat.le_of_ble_eq_true rfl) (by decide) (by decide) dL_bestVenue_3 (fun v G1 sz1 hΨ => ?_) (fun E q sz1 hE => ?_)
  · obtain ⟨p, rfl, hv, hG, hz⟩ := hΨ
    subst hv
    obtain rfl := Option.some.inj h
    show J X 4 _ _ 1 6 6 [some (.ref (B.1 + 0)), some (.int l1), some (.int l2), none] [.int p.1]
    exact J_iret hx hr dL_bestVenue_6 (by decide) (by decide) ⟨rfl, hG⟩
  · cases res with
    | inr p => exact hE.elim
    | inl x =>
      rcases hE with ⟨rfl, rfl⟩ | ⟨rfl, rfl⟩ | ⟨rfl, rfl⟩
      · obtain rfl := Option.some.inj (h : some _ = some r)
        refine ⟨[], ⟨0, 6, 7, 25⟩, [], rfl, (fun z hz => nomatch hz), rfl, by decide, cl_L_25, (hx.kc hC).thr.2.2.2.2.2 _ (by decide +kernel), ?_⟩
        show J X 4 _ _ 1 6 7 [some (.ref (B.1 + 0)), some (.int l1), some (.int l2), none] [.ref q]
        refine J_as4 hx rfl (by decide) (hc_of rfl) rfl dL_bestVenue_7 ?_
        refine J_ldc hx cn_L_27 dL_bestVenue_8 ?_
        exact J_iret hx hr dL_bestVenue_10 (by decide) (by decide) ⟨rfl, hW⟩
      · cases (show (none : Option (Int32 × Wl)) = some r from h)
      · cases (show (none : Option (Int32 × Wl)) = some r from h)
theorem dL_type_0 : decode cL_type 0 = .ok (.aload_n 0, 1) := by decide +kernel
theorem dL_type_1 : decode cL_type 1 = .ok (.iload_n 1, 1) := by decide +kernel
theorem dL_type_2 : decode cL_type 2 = .ok (.invokevirtual 103, 3) := by decide +kernel
theorem dL_type_5 : decode cL_type 5 = .ok (.ireturn, 1) := by decide +kernel
theorem dL_type_6 : decode cL_type 6 = .ok (.astore_n 2, 1) := by decide +kernel
theorem dL_type_7 : decode cL_type 7 = .ok (.ldc 17, 2) := by decide +kernel
theorem dL_type_9 : decode cL_type 9 = .ok (.ireturn, 1) := by decide +kernel
theorem dL_type_10 : decode cL_type 10 = .ok (.astore_n 2, 1) := by decide +kernel
theorem dL_type_11 : decode cL_type 11 = .ok (.ldc 20, 2) := by decide +kernel
theorem dL_type_13 : decode cL_type 13 = .ok (.ireturn, 1) := by decide +kernel
theorem cw_type : Cond.codeWith yL_type cL_type 3 (some .int) [(0, 5, 6, 15), (0, 5, 10, 18)] ∈ WT := (wtm_6 146 (by decide +kernel) (by decide +kernel))
theorem st_type : Cond.static yL_type ∈ WT := (wtm_6 145 (by decide +kernel) (by decide +kernel))
theorem hy_type : yL_type.cls ≠ "java/lang/invoke/MethodHandle" ∧ yL_type.cls ≠ "java/lang/invoke/VarHandle" ∧ (parseMethodDescriptor yL_type.desc).map (fun d => d.parameters.length) = some 2 := ⟨by decide +kernel, by decide +kernel, by decide +kernel⟩
def sO_type (w : Wl) (l1 : Int32) : Option (Int32 × Wl) := okS (sX12_type w l1)
def sL_type (w : Wl) (l1 : Int32) : Option (Int32 × Wl) := (sX12_type w l1).bind (lwW none (some (-90100)) (some (-90200)) w)
theorem kP_type {l : Launch} {Γ : Gl} {B : Bs} {w : Wl} {G : Gf} {sz : Nat} {l1 : Int32} {r : Int32 × Wl} (hC : GC Γ B) (hW : Wd Γ B w G) (h : sX12_type w l1 = some (Sum.inr r)) : CtL l Γ yL_type cL_type 3 (some .int) [(0, 5, 6, 15), (0, 5, 10, 18)] 8 [.ref (B.1 + 0), .int l1] G sz (WΨ Γ B (some (.int r.1)) r.2 sz) 0 0 := by
  refine CtL.of rfl (Nat.le_of_ble_eq_true rfl) fun X hx hr htb hl hΓ => ?_
  subst hl hΓ
  show J X 3 G sz 0 0 0 [some (.ref (B.1 + 0)), some (.int l1), none] []
  refine J_al4 hx rfl rfl dL_type_0 ?_
  refine J_il4 hx rfl rfl dL_type_1 ?_
  refine J_wrV hx (kO_type hC hW h) ml_L_103 lk_X12_type (ci := 10) rfl (hW.obj (rfl : kd 0 = 1) (by decide) (by decide)) (rest := []) rfl rfl (by decide) (by decide) (Nat.le_of_ble_eq_true rfl) (Nat.le_refl 0) (Nat.le_refl 0) dL_type_2 fun G1 hW1 => ?_
  show J X 3 G1 sz 0 0 5 [some (.ref (B.1 + 0)), some (.int l1), none] [.int r.1]
  exact J_iretW hx hr hW1 dL_type_5 (Nat.le_refl 0) (Nat.le_refl 0)
theorem kL_type {l : Launch} {Γ : Gl} {B : Bs} {w : Wl} {G : Gf} {sz : Nat} {l1 : Int32} {r : Int32 × Wl} (htr : l.stackTraces = false) (hC : GC Γ B) (hW : Wd Γ B w G) (h : sL_type w l1 = some r) : CtL l Γ yL_type cL_type 3 (some .int) [(0, 5, 6, 15), (0, 5, 10, 18)] 8 [.ref (B.1 + 0), .int l1] G sz (WX Γ B (some (.int r.1)) r.2) 1 6 := by
  refine CtL.of rfl (Nat.le_of_ble_eq_true rfl) fun X hx hr htb hl hΓ => ?_
  subst hl hΓ
  show J X 3 G sz 0 0 0 [some (.ref (B.1 + 0)), some (.int l1), none] []
  unfold sL_type at h
  obtain ⟨res, hres, h⟩ := bnd h
  refine J_al4 hx rfl rfl dL_type_0 ?_
  refine J_il4 hx rfl rfl dL_type_1 ?_
  refine J_callVX hx htb (kX12_type htr hC hW hres) ml_L_103 lk_X12_type (ci := 10) rfl (hW.obj (rfl : kd 0 = 1) (by decide) (by decide)) (rest := []) rfl rfl (by decide) (by decide) (Nat.le_of_ble_eq_true rfl) (by decide) (by decide) dL_type_2 (fun v G1 sz1 hΨ => ?_) (fun E q sz1 hE => ?_)
  · obtain ⟨p, rfl, hv, hG, hz⟩ := hΨ
    subst hv
    obtain rfl := Option.some.inj h
    show J X 3 _ _ 1 6 5 [some (.ref (B.1 + 0)), some (.int l1), none] [.int p.1]
    exact J_iret hx hr dL_type_5 (by decide) (by decide) ⟨rfl, hG⟩
  · cases res with
    | inr p => exact hE.elim
    | inl x =>
      rcases hE with ⟨rfl, rfl⟩ | ⟨rfl, rfl⟩ | ⟨rfl, rfl⟩
      · cases (show (none : Option (Int32 × Wl)) = some r from h)
      · obtain rfl := Option.some.inj (h : some _ = some r)
        refine ⟨[], ⟨0, 5, 6, 15⟩, [⟨0, 5, 10, 18⟩], rfl, (fun z hz => nomatch hz), rfl, by decide, cl_L_15, (hx.kc hC).thr.2.2.2.2.2 _ (by decide +kernel), ?_⟩
        show J X 3 _ _ 1 6 6 [some (.ref (B.1 + 0)), some (.int l1), none] [.ref q]
        refine J_as4 hx rfl (by decide) (hc_of rfl) rfl dL_type_6 ?_
        refine J_ldc hx cn_L_17 dL_type_7 ?_
        exact J_iret hx hr dL_type_9 (by decide) (by decide) ⟨rfl, hW⟩
      · obtain rfl := Option.some.inj (h : some _ = some r)
        refine ⟨[⟨0, 5, 6, 15⟩], ⟨0, 5, 10, 18⟩, [], rfl, (fun z hz => by
            rcases List.mem_cons.mp hz with rfl | hz
            · exact ⟨by decide, _, cl_L_15, (hx.kc hC).nc.2.2⟩
            cases hz), rfl, by decide, cl_L_18, (hx.kc hC).thr.2.2.2.2.2 _ (by decide +kernel), ?_⟩
        show J X 3 _ _ 1 6 10 [some (.ref (B.1 + 0)), some (.int l1), none] [.ref q]
        refine J_as4 hx rfl (by decide) (hc_of rfl) rfl dL_type_10 ?_
        refine J_ldc hx cn_L_20 dL_type_11 ?_
        exact J_iret hx hr dL_type_13 (by decide) (by decide) ⟨rfl, hW⟩
theorem dL_undo_0 : decode cL_undo 0 = .ok (.aload_n 0, 1) := by decide +kernel
theorem dL_undo_1 : decode cL_undo 1 = .ok (.invokevirtual 106, 3) := by decide +kernel
theorem dL_undo_4 : decode cL_undo 4 = .ok (.ireturn, 1) := by decide +kernel
theorem dL_undo_5 : decode cL_undo 5 = .ok (.astore_n 1, 1) := by decide +kernel
theorem dL_undo_6 : decode cL_undo 6 = .ok (.ldc 20, 2) := by decide +kernel
theorem dL_undo_8 : decode cL_undo 8 = .ok (.ireturn, 1) := by decide +kernel
theorem cw_undo : Cond.codeWith yL_undo cL_undo 2 (some .int) [(0, 4, 5, 18)] ∈ WT := (wtm_5 199 (by decide +kernel) (by decide +kernel))
theorem st_undo : Cond.static yL_undo ∈ WT := (wtm_5 198 (by decide +kernel) (by decide +kernel))
theorem hy_undo : yL_undo.cls ≠ "java/lang/invoke/MethodHandle" ∧ yL_undo.cls ≠ "java/lang/invoke/VarHandle" ∧ (parseMethodDescriptor yL_undo.desc).map (fun d => d.parameters.length) = some 1 := ⟨by decide +kernel, by decide +kernel, by decide +kernel⟩
def sO_undo (w : Wl) : Option (Int32 × Wl) := okS (sX12_undo w)
def sL_undo (w : Wl) : Option (Int32 × Wl) := (sX12_undo w).bind (lwW none none (some (-90200)) w)
theorem kP_undo {l : Launch} {Γ : Gl} {B : Bs} {w : Wl} {G : Gf} {sz : Nat} {r : Int32 × Wl} (hC : GC Γ B) (hW : Wd Γ B w G) (h : sX12_undo w = some (Sum.inr r)) : CtL l Γ yL_undo cL_undo 2 (some .int) [(0, 4, 5, 18)] 8 [.ref (B.1 + 0)] G sz (WΨ Γ B (some (.int r.1)) r.2 sz) 0 0 := by
  refine CtL.of rfl (Nat.le_of_ble_eq_true rfl) fun X hx hr htb hl hΓ => ?_
  subst hl hΓ
  show J X 2 G sz 0 0 0 [some (.ref (B.1 + 0)), none] []
  refine J_al4 hx rfl rfl dL_undo_0 ?_
  refine J_wrV hx (kO_undo hC hW h) ml_L_106 lk_X12_undo (ci := 10) rfl (hW.obj (rfl : kd 0 = 1) (by decide) (by decide)) (rest := []) rfl rfl (by decide) (by decide) (Nat.le_of_ble_eq_true rfl) (Nat.le_refl 0) (Nat.le_refl 0) dL_undo_1 fun G1 hW1 => ?_
  show J X 2 G1 sz 0 0 4 [some (.ref (B.1 + 0)), none] [.int r.1]
  exact J_iretW hx hr hW1 dL_undo_4 (Nat.le_refl 0) (Nat.le_refl 0)
theorem kL_undo {l : Launch} {Γ : Gl} {B : Bs} {w : Wl} {G : Gf} {sz : Nat} {r : Int32 × Wl} (htr : l.stackTraces = false) (hC : GC Γ B) (hW : Wd Γ B w G) (h : sL_undo w = some r) : CtL l Γ yL_undo cL_undo 2 (some .int) [(0, 4, 5, 18)] 8 [.ref (B.1 + 0)] G sz (WX Γ B (some (.int r.1)) r.2) 1 6 := by
  refine CtL.of rfl (Nat.le_of_ble_eq_true rfl) fun X hx hr htb hl hΓ => ?_
  subst hl hΓ
  show J X 2 G sz 0 0 0 [some (.ref (B.1 + 0)), none] []
  unfold sL_undo at h
  obtain ⟨res, hres, h⟩ := bnd h
  refine J_al4 hx rfl rfl dL_undo_0 ?_
  refine J_callVX hx htb (kX12_undo htr hC hW hres) ml_L_106 lk_X12_undo (ci := 10) rfl (hW.obj (rfl : kd 0 = 1) (by decide) (by decide)) (rest := []) rfl rfl (by decide) (by decide) (Nat.le_of_ble_eq_true rfl) (by decide) (by decide) dL_undo_1 (fun v G1 sz1 hΨ => ?_) (fun E q sz1 hE => ?_)
  · obtain ⟨p, rfl, hv, hG, hz⟩ := hΨ
    subst hv
    obtain rfl := Option.some.inj h
    show J X 2 _ _ 1 6 4 [some (.ref (B.1 + 0)), none] [.int p.1]
    exact J_iret hx hr dL_undo_4 (by decide) (by decide) ⟨rfl, hG⟩
  · cases res with
    | inr p => exact hE.elim
    | inl x =>
      rcases hE with ⟨rfl, rfl⟩ | ⟨rfl, rfl⟩ | ⟨rfl, rfl⟩
      · cases (show (none : Option (Int32 × Wl)) = some r from h)
      · cases (show (none : Option (Int32 × Wl)) = some r from h)
      · obtain rfl := Option.some.inj (h : some _ = some r)
        refine ⟨[], ⟨0, 4, 5, 18⟩, [], rfl, (fun z hz => nomatch hz), rfl, by decide, cl_L_18, (hx.kc hC).thr.2.2.2.2.2 _ (by decide +kernel), ?_⟩
        show J X 2 _ _ 1 6 5 [some (.ref (B.1 + 0)), none] [.ref q]
        refine J_as4 hx rfl (by decide) (hc_of rfl) rfl dL_undo_5 ?_
        refine J_ldc hx cn_L_20 dL_undo_6 ?_
        exact J_iret hx hr dL_undo_8 (by decide) (by decide) ⟨rfl, hW⟩
