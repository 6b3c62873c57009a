/-! THE CONSTANTS: the three messages, the letters of the words -/
theorem kc_text {s : State} {A : Array Value} {k : Nat} {tx : String} (h1 : (Cond.stringRef RX12 k tx).before A s = true) (h2 : (Cond.exactly (.string RX12 k) "java/lang/String").before A s = true) : ∃ a, vk_R RX12 k tx a s := by
  obtain ⟨a, c, cA, kA, q1, q2, q3, q4, q5, q6, -⟩ := Cond.exactly_spec (args := A) (first := s) (o := none) (s := s) (idx := []) (t := .string RX12 k) (cls := "java/lang/String") h2
  exact ⟨a, vk_R.of h1 q1⟩
theorem kc_texts {s : State} {A : Array Value} (hts : ∀ w ∈ lw_tbl, w.before A s = true) (h : (Jvm.Cond.and given_1 narrow_1).before A s = true) : (∃ a, vk_R RX12 314 "there is nothing with this number" a s) ∧ (∃ a, vk_R RX12 321 "an argument is out of its range" a s) ∧ (∃ a, vk_R RX12 326 "this cannot be done as things stand" a s) := by
  have hs := flat_of_before _ h
  exact ⟨kc_text (hts _ (by decide +kernel)) (hs _ (by decide +kernel)), kc_text (hts _ (by decide +kernel)) (hs _ (by decide +kernel)), kc_text (hts _ (by decide +kernel)) (hs _ (by decide +kernel))⟩
theorem kc_letters {s : State} {A : Array Value} {ad : Nat → Nat} {ak : Nat → Nat × Nat} (h : (Jvm.Cond.and given_1 narrow_1).before A s = true) (hev : ∀ i, i < wNm.length → (Term.static "CrateTour$Word" (wNm.getD i "") "LCrateTour$Word;").eval A s none [] s = some (.ref (ad i))) (hst : ∀ i : Nat, i < 9 → (Term.string "CrateTour$Word" (wSt.getD i 0)).eval A s none [] s = some (.ref (ak i).1)) (d : Nat) (hd : d < 9) : va_OF "CrateTour$Word" "letters" "Ljava/lang/String;" (.ref (ak d).1) (ad d) (fun q => s.heap.size ≤ q) s s.heap := by
  have hs := flat_of_before _ h
  exact vk_OFof (hev d hd) (kc_eqr (hs _ ((by decide +kernel : ∀ i, i < 9 → Cond.eq (.field (.static "CrateTour$Word" (wNm.getD i "") "LCrateTour$Word;") "CrateTour$Word" "letters" "Ljava/lang/String;") (.string "CrateTour$Word" (wSt.getD i 0)) ∈ flatC (Jvm.Cond.and given_1 narrow_1)) d hd)) (hst d hd)) kc_ge
