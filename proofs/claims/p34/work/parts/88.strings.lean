/-! THE CONSTANTS: the letters of the words, the three messages -/
def wSt : List Nat := [59, 65, 68, 71, 74, 77, 80, 83, 86]
theorem kc_str1 {s : State} {A : Array Value} {t : Term} {N : Nat} {f : Nat → Value} (hN : N < 2 ^ 31) (h1 : (Cond.exactly t "java/lang/String").before A s = true) (h2 : (Cond.eq (.field t "java/lang/String" "coder" "B") (.int 0)).before A s = true) (h3 : (Cond.arrayOf (.field t "java/lang/String" "value" "[B") .byte).before A s = true) (h4 : (Cond.eq (.length (.field t "java/lang/String" "value" "[B")) (.int (Int32.ofNat N))).before A s = true)
    (h5 : ∀ j, j < N → (Term.elem (.field t "java/lang/String" "value" "[B") (.int (Int32.ofNat j))).eval A s none [] s = some (f j)) :
    ∃ q : Nat × Nat, t.eval A s none [] s = some (.ref q.1) ∧ va_O "java/lang/String" q.1 (fun q => s.heap.size ≤ q) s s.heap ∧ va_OF "java/lang/String" "coder" "B" (.int 0) q.1 (fun q => s.heap.size ≤ q) s s.heap ∧ va_OF "java/lang/String" "value" "[B" (.ref q.2) q.1 (fun q => s.heap.size ≤ q) s s.heap ∧ va_T .byte q.2 N f (fun q => s.heap.size ≤ q) s s.heap := by
  obtain ⟨a, c, cA, kA, q1, q2, q3, q4, q5, q6, -⟩ := Cond.exactly_spec (args := A) (first := s) (o := none) (s := s) (idx := []) (t := t) (cls := "java/lang/String") h1
  obtain ⟨b, hb, hT⟩ := va_Tof (A := fun q => s.heap.size ≤ q) hN h3 (va_eqt h4) h5 kc_ge
  exact ⟨(a, b), q1, ⟨cA, q3, q5, by rw [q6]; exact q2, kc_ge a (Array.getElem?_eq_some_iff.mp q3).1⟩, vk_OFof q1 (va_eqt h2) kc_ge, vk_OFof q1 hb kc_ge, hT⟩
theorem kc_strings {s : State} {A : Array Value} (h : (Jvm.Cond.and given_1 narrow_1).before A s = true) : ∃ ak : Nat → Nat × Nat, ∀ d : Nat, d < 9 → (Term.string "CrateTour$Word" (wSt.getD d 0)).eval A s none [] s = some (.ref (ak d).1) ∧ va_O "java/lang/String" (ak d).1 (fun q => s.heap.size ≤ q) s s.heap ∧ va_OF "java/lang/String" "coder" "B" (.int 0) (ak d).1 (fun q => s.heap.size ≤ q) s s.heap ∧ va_OF "java/lang/String" "value" "[B" (.ref (ak d).2) (ak d).1 (fun q => s.heap.size ≤ q) s s.heap ∧ va_T .byte (ak d).2 (slen d) (fun j => .int (sby d j)) (fun q => s.heap.size ≤ q) s s.heap := by
  have hs := flat_of_before _ h
  have h0 : ∀ d : Nat, ∃ q : Nat × Nat, d < 9 → (Term.string "CrateTour$Word" (wSt.getD d 0)).eval A s none [] s = some (.ref q.1) ∧ va_O "java/lang/String" q.1 (fun q => s.heap.size ≤ q) s s.heap ∧ va_OF "java/lang/String" "coder" "B" (.int 0) q.1 (fun q => s.heap.size ≤ q) s s.heap ∧ va_OF "java/lang/String" "value" "[B" (.ref q.2) q.1 (fun q => s.heap.size ≤ q) s s.heap ∧ va_T .byte q.2 (slen d) (fun j => .int (sby d j)) (fun q => s.heap.size ≤ q) s s.heap := by
    intro i
    by_cases hi : i < 9
    · obtain ⟨q, hq⟩ := kc_str1 (s := s) (A := A) (t := .string "CrateTour$Word" (wSt.getD i 0)) (N := slen i) (f := fun j => .int (sby i j)) ((by decide +kernel : ∀ i, i < 9 → slen i < 2 ^ 31) i hi)
        (hs _ ((by decide +kernel : ∀ i, i < 9 → Cond.exactly (.string "CrateTour$Word" (wSt.getD i 0)) "java/lang/String" ∈ flatC (Jvm.Cond.and given_1 narrow_1)) i hi))
        (hs _ ((by decide +kernel : ∀ i, i < 9 → Cond.eq (.field (.string "CrateTour$Word" (wSt.getD i 0)) "java/lang/String" "coder" "B") (.int 0) ∈ flatC (Jvm.Cond.and given_1 narrow_1)) i hi))
        (hs _ ((by decide +kernel : ∀ i, i < 9 → Cond.arrayOf (.field (.string "CrateTour$Word" (wSt.getD i 0)) "java/lang/String" "value" "[B") .byte ∈ flatC (Jvm.Cond.and given_1 narrow_1)) i hi))
        (hs _ ((by decide +kernel : ∀ i, i < 9 → Cond.eq (.length (.field (.string "CrateTour$Word" (wSt.getD i 0)) "java/lang/String" "value" "[B")) (.int (Int32.ofNat (slen i))) ∈ flatC (Jvm.Cond.and given_1 narrow_1)) i hi))
        (fun j hj => va_eqt (hs _ ((by decide +kernel : ∀ i, i < 9 → ∀ j, j < slen i → Cond.eq (.elem (.field (.string "CrateTour$Word" (wSt.getD i 0)) "java/lang/String" "value" "[B") (.int (Int32.ofNat j))) (.int (sby i j)) ∈ flatC (Jvm.Cond.and given_1 narrow_1)) i hi j hj)))
      exact ⟨q, fun _ => hq⟩
    · exact ⟨(0, 0), fun h => absurd h hi⟩
  exact ⟨fun d => Classical.choose (h0 d), fun d hd => Classical.choose_spec (h0 d) hd⟩
