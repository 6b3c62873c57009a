/-! THE CONSTANTS: the words -/
def wNm : List String := ["OPEN", "CLOSE", "NEST", "OUT", "PACK", "UNPACK", "SEND", "ESCORT", "WAIT"]
def wF : List (String × String × String × List Int32) := [("java/lang/Enum", "ordinal", "I", [0, 1, 2, 3, 4, 5, 6, 7, 8]), ("CrateTour$Word", "numberCount", "I", [1, 1, 2, 1, 2, 1, 2, 3, 1])]
theorem kc_words {s : State} {A : Array Value} (hts : ∀ w ∈ lw_tbl, w.before A s = true) (h : (Jvm.Cond.and given_1 narrow_1).before A s = true) : ∃ ad : Nat → Nat, va_En "CrateTour$Word" "LCrateTour$Word;" wNm wF ad (fun q => s.heap.size ≤ q) s s.heap ∧ ∀ i, i < wNm.length → (Term.static "CrateTour$Word" (wNm.getD i "") "LCrateTour$Word;").eval A s none [] s = some (.ref (ad i)) := by
  have hs := flat_of_before _ h
  refine va_Enof2 (args := A) (fun i hi => ?_) (hts _ (by decide +kernel)) (fun i hi => ?_) (fun q hq i hi => ?_) (fun i j hi hj hn => ?_) (fun a ha => Nat.not_le.mpr ha)
  · exact hts _ ((by decide +kernel : ∀ i, i < wNm.length → Cond.laysStatic "CrateTour$Word" (wNm.getD i "") "LCrateTour$Word;" ∈ lw_tbl) i hi)
  · exact hs _ ((by decide +kernel : ∀ i, i < wNm.length → Cond.exactly (.static "CrateTour$Word" (wNm.getD i "") "LCrateTour$Word;") "CrateTour$Word" ∈ flatC (Jvm.Cond.and given_1 narrow_1)) i hi)
  · exact hs _ ((by decide +kernel : ∀ q ∈ wF, ∀ i, i < wNm.length → Cond.eq (.field (.static "CrateTour$Word" (wNm.getD i "") "LCrateTour$Word;") q.1 q.2.1 q.2.2.1) (.int (q.2.2.2.getD i 0)) ∈ flatC (Jvm.Cond.and given_1 narrow_1)) q hq i hi)
  · rcases (by decide +kernel : ∀ i, i < wNm.length → ∀ j, j < wNm.length → i ≠ j → Cond.not (.eq (.static "CrateTour$Word" (wNm.getD i "") "LCrateTour$Word;") (.static "CrateTour$Word" (wNm.getD j "") "LCrateTour$Word;")) ∈ flatC (Jvm.Cond.and given_1 narrow_1) ∨ Cond.not (.eq (.static "CrateTour$Word" (wNm.getD j "") "LCrateTour$Word;") (.static "CrateTour$Word" (wNm.getD i "") "LCrateTour$Word;")) ∈ flatC (Jvm.Cond.and given_1 narrow_1)) i hi j hj hn with g | g
    · exact Or.inl (hs _ g)
    · exact Or.inr (hs _ g)
