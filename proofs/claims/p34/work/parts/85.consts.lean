/-! THE CONSTANTS at the law's start, piece by piece -/
theorem lt_m {w : Cond} (h : w ∈ tables_1) : w ∈ lw_tbl := List.mem_append_right _ h
theorem kc_nest {s : State} {A : Array Value} (hts : ∀ w ∈ lw_tbl, w.before A s = true) : va_Nw (.fieldLinkNest "CrateTour$CommandText" 57 "CrateTour" "WORDS" "[LCrateTour$Word;" "CrateTour") s := va_Nw.of rfl (hts _ (lt_2 207 (by decide +kernel)))
theorem lt_4 {w : Cond} (i : Nat) (h : tables_1_4[i]? = some w) : w ∈ lw_tbl := lt_m (List.mem_append_right _ (List.mem_append_right _ (List.mem_append_right _ (List.mem_append_left _ (List.mem_of_getElem? h)))))
theorem lt_5 {w : Cond} (i : Nat) (h : tables_1_5[i]? = some w) : w ∈ lw_tbl := lt_m (List.mem_append_right _ (List.mem_append_right _ (List.mem_append_right _ (List.mem_append_right _ (List.mem_append_left _ (List.mem_of_getElem? h))))))
theorem kc_thB {s : State} {A : Array Value} (hts : ∀ w ∈ lw_tbl, w.before A s = true) : ∀ w ∈ thB, va_Nw w s := by
  intro w hw
  unfold thB at hw
  rcases List.mem_cons.mp hw with rfl | hw
  · exact va_Nw.of rfl (hts _ (lt_4 114 (by decide +kernel)))
  rcases List.mem_cons.mp hw with rfl | hw
  · exact va_Nw.of rfl (hts _ (lt_4 181 (by decide +kernel)))
  rcases List.mem_cons.mp hw with rfl | hw
  · exact va_Nw.of rfl (hts _ (lt_4 197 (by decide +kernel)))
  rcases List.mem_cons.mp hw with rfl | hw
  · exact va_Nw.of rfl (hts _ (lt_4 116 (by decide +kernel)))
  rcases List.mem_cons.mp hw with rfl | hw
  · exact va_Nw.of rfl (hts _ (lt_4 118 (by decide +kernel)))
  rcases List.mem_cons.mp hw with rfl | hw
  · exact va_Nw.of rfl (hts _ (lt_4 120 (by decide +kernel)))
  cases hw
theorem kc_nc {s : State} {A : Array Value} (h : (Jvm.Cond.and given_1 narrow_1).before A s = true) : va_Nc "java/lang/IllegalArgumentException" "java/lang/IndexOutOfBoundsException" s ∧ va_Nc "java/lang/IllegalStateException" "java/lang/IndexOutOfBoundsException" s ∧ va_Nc "java/lang/IllegalStateException" "java/lang/IllegalArgumentException" s := by
  have hs := flat_of_before _ h
  exact ⟨va_Nc.of (hs _ (by decide +kernel)), va_Nc.of (hs _ (by decide +kernel)), va_Nc.of (hs _ (by decide +kernel))⟩
