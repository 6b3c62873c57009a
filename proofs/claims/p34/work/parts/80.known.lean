/-! WHAT IS KNOWN stays known: constants and what the constructors need -/
theorem KcU.mv {Γ : Gl} {ad : Nat → Nat} {u U : State} (hal : u.vm.Alike U.vm) (hnf : ∀ a i b n d h, va_Nw (.fieldLinkNest a i b n d h) u → va_Nw (.fieldLinkNest a i b n d h) U) (hnc : ∀ C T, va_Nw (.castable C T) u → va_Nw (.castable C T) U) (hnd : ∀ x, va_Nw (.declares x) u → va_Nw (.declares x) U) (hr : ∀ own k tx a, vk_R own k tx a u → vk_R own k tx a U) (h : KcU Γ ad u) : KcU Γ ad U := by
  obtain ⟨h1, h2, h3, h4, h5, h6, h7, h8, h9, h10, h11, h12, h13, h14, h15, h16, h17, h18, h19⟩ := h
  refine ⟨h1.moved hal, h2.moved hal, fun d hd => ?_, h4.moved hal, h5.moved hal, fun d hd => ?_, h7.moved hal, h8.moved hal, h9.moved hal, hnf _ _ _ _ _ _ h10, hr _ _ _ _ h11, hr _ _ _ _ h12, hr _ _ _ _ h13, h14.moved hal, h15.moved hal, fun w hw => ?_, h17.moved hal, h18.moved hal, h19.moved hal⟩
  · obtain ⟨a, b, c, e⟩ := h3 d hd
    exact ⟨a.moved hal, b.moved hal, c.moved hal, e.moved hal⟩
  · obtain ⟨a, b, c, e⟩ := h6 d hd
    exact ⟨a.moved hal, b.moved hal, c.moved hal, e.moved hal⟩
  · have hu := h16 w hw
    unfold thB at hw
    rcases List.mem_cons.mp hw with rfl | hw
    · exact hnc _ _ hu
    rcases List.mem_cons.mp hw with rfl | hw
    · exact hnc _ _ hu
    rcases List.mem_cons.mp hw with rfl | hw
    · exact hnc _ _ hu
    rcases List.mem_cons.mp hw with rfl | hw
    · exact hnd _ hu
    rcases List.mem_cons.mp hw with rfl | hw
    · exact hnd _ hu
    rcases List.mem_cons.mp hw with rfl | hw
    · exact hnd _ hu
    cases hw
theorem KcU.warm {Γ : Gl} {ad : Nat → Nat} {s U : State} (hW : s.WarmedH U.vm) (h : KcU Γ ad s) : KcU Γ ad U :=
  h.mv hW.alike (fun _ _ _ _ _ _ h => h.warmF hW) (fun _ _ h => h.warmC hW) (fun _ h => h.warmD hW) (fun _ _ _ _ h => h.warm hW)
theorem KcU.calling {Γ : Gl} {ad : Nat → Nat} {U : State} (g : JFrame) (mk : MethodId) (a : Array Value) (h : KcU Γ ad U) : KcU Γ ad (U.calling g mk a) :=
  KcU.mv (u := U) (U := U.calling g mk a) (by show U.vm.Alike U.vm; exact Vm.Alike.refl _) (fun _ _ _ _ _ _ h => h.same rfl rfl) (fun _ _ h => h.same rfl rfl) (fun _ h => h.same rfl rfl) (fun _ _ _ _ h => h.same rfl) h
theorem aoa_warm {ty : FieldType} {s U : State} (hal : s.vm.Alike U.vm) (h : va_AOA ty s) : va_AOA ty U := by
  obtain ⟨comp, c, k, h1, h2, h3, h4, h5⟩ := arrayOverA_spec h
  obtain ⟨k', hk', he⟩ := hal.2.2 _ _ h3
  have hi : (U.vm.classes.findIdx? fun (x : Class) => match x.kind with | .array component _ => component == comp | _ => false) = some c := by
    rw [hal.findIdx?_eq _ (fun _ => rfl)]; exact h2
  have hkind : k'.kind = .array comp (.array ty) := by rw [he]; exact h4
  have f1 : U.vm.findClass (FieldType.array ty).toString = some comp := by rw [hal.findClass]; exact h1
  have f2 : U.vm.findClass ("[" ++ (FieldType.array ty).toString) = some c := by rw [hal.findClass]; exact h5
  unfold va_AOA Cond.before Cond.holds
  simp only [Cond.value]
  simp only [f1, f2, Option.bind_some]
  erw [hi]
  simp [hk', hkind]
theorem KiU.warm {s U : State} (hW : s.WarmedH U.vm) (h : KiU s) : KiU U := by
  obtain ⟨h1, h2, h3, h4, h5, h6, h7, h8, h9⟩ := h
  exact ⟨h1.moved hW.alike, h2.moved hW.alike, h3.moved hW.alike, h4.moved hW.alike, aoa_warm hW.alike h5, h6.warmM hW, h7.warmM hW, h8.warmM hW, h9.warmM hW⟩
theorem KiU.calling {U : State} (g : JFrame) (mk : MethodId) (a : Array Value) (h : KiU U) : KiU (U.calling g mk a) := by
  have hal : U.vm.Alike (U.calling g mk a).vm := by show U.vm.Alike U.vm; exact Vm.Alike.refl _
  obtain ⟨h1, h2, h3, h4, h5, h6, h7, h8, h9⟩ := h
  exact ⟨h1.moved hal, h2.moved hal, h3.moved hal, h4.moved hal, aoa_warm hal h5, h6.same rfl rfl, h7.same rfl rfl, h8.same rfl rfl, h9.same rfl rfl⟩
theorem lt_1 {w : Cond} (i : Nat) (h : tables_1_1[i]? = some w) : w ∈ lw_tbl := List.mem_append_right _ (List.mem_append_left _ (List.mem_of_getElem? h))
theorem lt_2 {w : Cond} (i : Nat) (h : tables_1_2[i]? = some w) : w ∈ lw_tbl := List.mem_append_right _ (List.mem_append_right _ (List.mem_append_left _ (List.mem_of_getElem? h)))
theorem KiU.of {s : State} {A : Array Value} (hts : ∀ w ∈ lw_tbl, w.before A s = true) : KiU s :=
  ⟨va_AO.of (hts _ (lt_1 42 (by decide +kernel))), va_AO.of (hts _ (lt_1 44 (by decide +kernel))), va_AO.of (hts _ (lt_1 46 (by decide +kernel))), va_AO.of (hts _ (lt_2 120 (by decide +kernel))), (show (Cond.arrayOver (.array .int)).before #[] s = true from hts (Cond.arrayOver (.array .int)) (lt_1 48 (by decide +kernel))), va_Nw.of rfl (hts _ (lt_1 50 (by decide +kernel))), va_Nw.of rfl (hts _ (lt_1 92 (by decide +kernel))), va_Nw.of rfl (hts _ (lt_1 162 (by decide +kernel))), va_Nw.of rfl (hts _ (lt_2 132 (by decide +kernel)))⟩
theorem no_traces {l : Launch} (h : l.flags = flags0) : l.stackTraces = false := by
  unfold Launch.stackTraces
  rw [h]
  decide +kernel
