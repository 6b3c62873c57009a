/-! THE CLASSES AND THE ARRAYS: all of them -/
theorem K_of {s : State} {A : Array Value} (hts : ∀ w ∈ lw_tbl, w.before A s = true) : ∃ (D : va_G) (cf : Nat → ClassId), va_K D vwCl (gTys cf) s := by
  obtain ⟨D, hD⟩ := D_of hts
  have hki := KiU.of hts
  have prim : ∀ ty : FieldType, Cond.arrayClass ty ∈ WT → ∃ cA, ArrOfT s cA ty ∧ s.vm.findClass ("[" ++ ty.toString) = some cA := fun ty h => by
    obtain ⟨c, k, comp, h1, h2, h3⟩ := Cond.arrayClass_spec (hts _ (WT_sub h))
    exact ⟨c, fun n z => ⟨fun q hq => (by cases hq), k, h2, comp, h3⟩, h1⟩
  obtain ⟨c0, a0, r0⟩ := prim .byte arrc_byte
  obtain ⟨c1, a1, r1⟩ := prim .int arrc_int
  obtain ⟨c2, a2, r2⟩ := prim .long arrc_long
  obtain ⟨c3, a3, r3⟩ := ar_obj hki.2.1
  obtain ⟨c4, a4, r4⟩ := ar_obj hki.2.2.2.1
  obtain ⟨c5, a5, r5⟩ := ar_obj hki.1
  obtain ⟨c6, a6, r6⟩ := ar_obj hki.2.2.1
  obtain ⟨c7, a7, r7⟩ := ar_arr hki.2.2.2.2.1
  refine ⟨D, fun j => [c0, c1, c2, c3, c4, c5, c6, c7].getD j c0, hD, fun k q hq => ?_⟩
  have hk : k < 8 := (List.getElem?_eq_some_iff.mp hq).1
  rcases (by omega : k = 0 ∨ k = 1 ∨ k = 2 ∨ k = 3 ∨ k = 4 ∨ k = 5 ∨ k = 6 ∨ k = 7) with rfl | rfl | rfl | rfl | rfl | rfl | rfl | rfl
  · obtain rfl := Option.some.inj hq; exact ⟨a0, r0⟩
  · obtain rfl := Option.some.inj hq; exact ⟨a1, r1⟩
  · obtain rfl := Option.some.inj hq; exact ⟨a2, r2⟩
  · obtain rfl := Option.some.inj hq; exact ⟨a3, r3⟩
  · obtain rfl := Option.some.inj hq; exact ⟨a4, r4⟩
  · obtain rfl := Option.some.inj hq; exact ⟨a5, r5⟩
  · obtain rfl := Option.some.inj hq; exact ⟨a6, r6⟩
  · obtain rfl := Option.some.inj hq; exact ⟨a7, r7⟩
/-- the run's fixed data, once the constants are known -/
theorem G_of {s : State} {A : Array Value} (hts : ∀ w ∈ lw_tbl, w.before A s = true) {ad : Nat → Nat} (hc : ∀ (D : va_G) (cf : Nat → ClassId) (P : State → Prop), KcU (D, cf, s.heap, P) ad s) : ∃ Γ : Gl, Γ.2.2.1 = s.heap ∧ KV Γ s ∧ GC Γ (s.heap.size, ad) ∧ GI Γ := by
  obtain ⟨D, cf, hK⟩ := K_of hts
  have e : ∀ (P Q : State → Prop) (U : State), KcU (D, cf, s.heap, P) ad U → KcU (D, cf, s.heap, Q) ad U := fun _ _ _ h => h
  refine ⟨(D, cf, s.heap, fun U => KcU (D, cf, s.heap, fun _ => True) ad U ∧ KiU U), rfl, ⟨hK, ⟨hc D cf _, KiU.of hts⟩, ?_, ?_⟩, ?_, ?_⟩
  · exact fun s U hW h => ⟨h.1.warm hW, h.2.warm hW⟩
  · exact fun U g mk a h => ⟨h.1.calling g mk a, h.2.calling g mk a⟩
  · exact fun U h => e _ _ _ h.1
  · exact fun U h => h.2
