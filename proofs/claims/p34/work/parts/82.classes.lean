/-! THE CLASSES AND THE ARRAYS: their numbers -/
theorem WT_sub {w : Cond} (h : w ∈ WT) : w ∈ lw_tbl := (List.mem_filter.mp h).1
theorem kn_of {s : State} {A : Array Value} (hts : ∀ w ∈ lw_tbl, w.before A s = true) {C : String} {T : u_T} {N n : Nat} (hu : ∀ w ∈ u_ws C T N, w ∈ WT) (hi : Cond.instantiable C n ∈ WT) : ∃ (cC : ClassId) (iS : Nat → Nat), u_Kn s C T N cC iS :=
  u_known (ws := lw_tbl) hts (fun w hw => WT_sub (hu w hw)) (hts _ (WT_sub hi))
theorem kn_all {s : State} {A : Array Value} (hts : ∀ w ∈ lw_tbl, w.before A s = true) : ∀ (c : Nat) (q : vw_C), vwCl[c]? = some q → ∃ (cC : ClassId) (iS : Nat → Nat), u_Kn s q.1 q.2.1 q.2.2 cC iS := by
  intro c q hq
  have hc : c < 11 := (List.getElem?_eq_some_iff.mp hq).1
  rcases (by omega : c = 0 ∨ c = 1 ∨ c = 2 ∨ c = 3 ∨ c = 4 ∨ c = 5 ∨ c = 6 ∨ c = 7 ∨ c = 8 ∨ c = 9 ∨ c = 10) with rfl | rfl | rfl | rfl | rfl | rfl | rfl | rfl | rfl | rfl | rfl
  · obtain rfl := Option.some.inj hq; exact kn_of hts uws_X1 ins_X1
  · obtain rfl := Option.some.inj hq; exact kn_of hts uws_X2 ins_X2
  · obtain rfl := Option.some.inj hq; exact kn_of hts uws_X3 ins_X3
  · obtain rfl := Option.some.inj hq; exact kn_of hts uws_X4 ins_X4
  · obtain rfl := Option.some.inj hq; exact kn_of hts uws_X5 ins_X5
  · obtain rfl := Option.some.inj hq; exact kn_of hts uws_X6 ins_X6
  · obtain rfl := Option.some.inj hq; exact kn_of hts uws_X7 ins_X7
  · obtain rfl := Option.some.inj hq; exact kn_of hts uws_X8 ins_X8
  · obtain rfl := Option.some.inj hq; exact kn_of hts uws_X9 ins_X9
  · obtain rfl := Option.some.inj hq; exact kn_of hts uws_X11 ins_X11
  · obtain rfl := Option.some.inj hq; exact kn_of hts uws_X12 ins_X12
theorem D_of {s : State} {A : Array Value} (hts : ∀ w ∈ lw_tbl, w.before A s = true) : ∃ D : va_G, ∀ (c : Nat) (q : vw_C), vwCl[c]? = some q → u_Kn s q.1 q.2.1 q.2.2 (D.1 c) (D.2 c) := by
  have h : ∀ c : Nat, ∃ x : ClassId × (Nat → Nat), ∀ q : vw_C, vwCl[c]? = some q → u_Kn s q.1 q.2.1 q.2.2 x.1 x.2 := fun c => by
    cases hc : vwCl[c]? with
    | none => exact ⟨(default, fun _ => 0), fun q hq => nomatch hq⟩
    | some q =>
      obtain ⟨cC, iS, hk⟩ := kn_all hts c q hc
      exact ⟨(cC, iS), fun q' hq' => by obtain rfl := Option.some.inj hq'; exact hk⟩
  exact ⟨(fun c => (h c).choose.1, fun c => (h c).choose.2), fun c q hq => (h c).choose_spec q hq⟩
theorem ar_obj {s : State} {C : String} (h : va_AO C s) : ∃ cA, ArrOfT s cA (.object C) ∧ va_RA s cA (.object C) := by
  obtain ⟨comp, c, k, h1, h2, h3, h4, h5⟩ := Cond.arrayOver_spec h
  exact ⟨c, fun n z => ⟨fun q hq => (by cases hq), k, h3, comp, h4⟩, k, comp, h3, h4, h1, h5⟩
theorem ar_arr {s : State} {ty : FieldType} (h : va_AOA ty s) : ∃ cA, ArrOfT s cA (.array ty) ∧ va_RA s cA (.array ty) := by
  obtain ⟨comp, c, k, h1, h2, h3, h4, h5⟩ := arrayOverA_spec h
  exact ⟨c, fun n z => ⟨fun q hq => (by cases hq), k, h3, comp, h4⟩, h5⟩
