/-! THE CLASSES AND THE ARRAYS: all of them -/
theorem K_of {s : State} {A : Array Value} (hts : ∀ w ∈ lw_tbl, w.before A s = true) : ∃ (D : va_G) (cf : Nat → ClassId), va_K D vwCl (gTys cf) s := by
  obtain ⟨D, hD⟩ := D_of hts
  have hki := KiU.of hts
  have prim : ∀ ty : FieldType, Cond.arrayClass ty ∈ WT → ∃ cA, ArrOfT s cA ty ∧ s.vm.findClass ("[" ++ ty.toString) = some cA := fun ty h => by
    obtain ⟨c, k, comp, h1, h2, h3⟩ := Cond.arrayClass_spec (hts _ (WT_sub h))
    exact ⟨c, fun n z => ⟨fun q hq => (by cases hq), k, h2, comp, h3⟩, h1⟩
  obtain ⟨c0, a0, r0⟩ := prim .byte arrc_byte
  obtain ⟨c1, a1, r1⟩ := prim .int arrc_int
  obtain ⟨c2, a2, r2⟩ := prim .int arrc_int
  obtain ⟨c3, a3, r3⟩ := ar_obj hki.2.1
  obtain ⟨c4, a4, r4⟩ := ar_obj hki.2.2.2.1
  obtain ⟨c5, a5, r5⟩ := ar_obj hki.1
  obtain ⟨c6, a6, r6⟩ := ar_obj hki.2.2.1
  obtain ⟨c7, a7, r7⟩ := ar_arr hki.2.2.2.2.1
  refine ⟨D, fun j => [c0, c1, c2, c3, c4, c5, c6, c7].getD j c0, hD, fun k q hq => ?_⟩
  have hk : k < 8 := (List.getElem?_eq_some_iff.mp hq).1
  rcases (by omega : k = 0 ∨ k = 1 ∨ k = 2 ∨ k = 3 ∨ k = 4 ∨ k = 5 ∨ k = 6 ∨ k = 7) with rfl | rfl | rfl | rfl | rfl | rfl | rfl | rfl
  · obtain rfl := Option.some.inj hq; exact ⟨a0, r0⟩
  · obtain rfl := Option.some.inj hq; exact ⟨a1, r1⟩
  · obtain rfl := Option.some.inj hq; exact ⟨a2, r2⟩
  · obtain rfl := Option.some.inj hq; exact ⟨a3, r3⟩
  · obtain rfl := Option.some.inj hq; exact ⟨a4, r4⟩
  · obtain rfl := Option.some.inj hq; exact ⟨a5, r5⟩
  · obtain rfl := Option.some.inj hq; exact ⟨a6, r6⟩
  · obtain rfl := Option.some.inj hq; exact ⟨a7, r7⟩
/-- the script is known -/
def GX (Γ : Gl) (b L : Nat) (z : Nat → Int32) : Prop := ∀ U : State, Γ.2.2.2 U → va_T .int b L (fun j => .int (z j)) (aA Γ) U Γ.2.2.1
/-- the run's fixed data, once the constants are known -/
theorem G_of {s : State} {A : Array Value} (hts : ∀ w ∈ lw_tbl, w.before A s = true) {ad : Nat → Nat} (hc : ∀ (D : va_G) (cf : Nat → ClassId) (P : State → Prop), KcU (D, cf, s.heap, P) ad s) {b L : Nat} {z : Nat → Int32} (hX : va_X b L z s s.heap) (hb : b < s.heap.size) : ∃ Γ : Gl, Γ.2.2.1 = s.heap ∧ KV Γ s ∧ GC Γ (s.heap.size, ad) ∧ GI Γ ∧ GX Γ b L z := by
  obtain ⟨D, cf, hK⟩ := K_of hts
  have e : ∀ (P Q : State → Prop) (U : State), KcU (D, cf, s.heap, P) ad U → KcU (D, cf, s.heap, Q) ad U := fun _ _ _ h => h
  have hT : va_T .int b L (fun j => .int (z j)) (fun q => s.heap.size ≤ q) s s.heap := by
    obtain ⟨scr, h1, h2, h3, h4, h5⟩ := hX
    exact ⟨scr, h1, h2, h3, by omega, by rw [h4], h5, Nat.not_le.mpr hb⟩
  refine ⟨(D, cf, s.heap, fun U => (KcU (D, cf, s.heap, fun _ => True) ad U ∧ KiU U) ∧ va_T .int b L (fun j => .int (z j)) (fun q => s.heap.size ≤ q) U s.heap), rfl, ⟨hK, ⟨⟨hc D cf _, KiU.of hts⟩, hT⟩, ?_, ?_⟩, ?_, ?_, ?_⟩
  · exact fun s U hW h => ⟨⟨h.1.1.warm hW, h.1.2.warm hW⟩, h.2.moved hW.alike⟩
  · exact fun U g mk a h => ⟨⟨h.1.1.calling g mk a, h.1.2.calling g mk a⟩, h.2.moved (by show U.vm.Alike U.vm; exact Vm.Alike.refl _)⟩
  · exact fun U h => e _ _ _ h.1.1
  · exact fun U h => h.1.2
  · exact fun U h => h.2
