/-! THE CONSTANTS: the table WORDS, the map of the switches, the single statics -/
theorem kc_eqr {args : Array Value} {s : State} {t u : Term} {q : Nat} (h : (Cond.eq t u).before args s = true) (hu : u.eval args s none [] s = some (.ref q)) : t.eval args s none [] s = some (.ref q) := by
  cases hv : t.eval args s none [] s with
  | none => simp [Cond.before, Cond.holds, Cond.value, hv] at h
  | some w =>
    simp only [Cond.before, Cond.holds, Cond.value, hv, hu] at h
    cases w <;> simp_all
theorem kc_ge {s : State} : ∀ a : Nat, a < s.heap.size → ¬ (fun q => s.heap.size ≤ q) a := fun a ha => Nat.not_le.mpr ha
theorem kc_tcg {ty : FieldType} {t N : Nat} {f g : Nat → Value} {A : Nat → Prop} {U : State} {H : Heap} (h : va_T ty t N f A U H) (hfg : ∀ j, j < N → f j = g j) : va_T ty t N g A U H := by
  obtain ⟨cell, h1, h2, h3, h4, h5, h6, h7⟩ := h
  exact ⟨cell, h1, h2, h3, h4, h5, fun j hj => (h6 j hj).trans (congrArg some (hfg j hj)), h7⟩
theorem kc_WORDS {s : State} {A : Array Value} {ad : Nat → Nat} (hts : ∀ w ∈ lw_tbl, w.before A s = true) (h : (Jvm.Cond.and given_1 narrow_1).before A s = true) (hev : ∀ i, i < wNm.length → (Term.static "CrateTour$Word" (wNm.getD i "") "LCrateTour$Word;").eval A s none [] s = some (.ref (ad i))) : ∃ t, va_Z "CrateTour" "WORDS" "[LCrateTour$Word;" (.ref t) (fun q => s.heap.size ≤ q) s s.heap ∧ va_T (.object "CrateTour$Word") t 9 (fun j => .ref (ad j)) (fun q => s.heap.size ≤ q) s s.heap := by
  have hs := flat_of_before _ h
  obtain ⟨t, ht, hT⟩ := va_Tof (args := A) (s := s) (tm := Term.static "CrateTour" "WORDS" "[LCrateTour$Word;") (ty := .object "CrateTour$Word") (N := 9) (f := fun j => .ref (ad j)) (A := fun q => s.heap.size ≤ q) (by decide) (hs _ (by decide +kernel)) (va_eqt (hs _ (by decide +kernel))) (fun j hj => kc_eqr (hs _ ((by decide +kernel : ∀ j, j < 9 → Cond.eq (.elem (.static "CrateTour" "WORDS" "[LCrateTour$Word;") (.int (Int32.ofNat j))) (.static "CrateTour$Word" (wNm.getD j "") "LCrateTour$Word;") ∈ flatC (Jvm.Cond.and given_1 narrow_1)) j hj)) (hev j hj)) kc_ge
  exact ⟨t, va_Zof (hts _ (by decide +kernel)) (hts _ (by decide +kernel)) ht kc_ge, hT⟩
theorem kc_SW {s : State} {A : Array Value} (hts : ∀ w ∈ lw_tbl, w.before A s = true) (h : (Jvm.Cond.and given_1 narrow_1).before A s = true) : ∃ t, va_Z "CrateTour$1" "$SwitchMap$CrateTour$Word" "[I" (.ref t) (fun q => s.heap.size ≤ q) s s.heap ∧ va_T .int t 9 (fun j => .int (smv j)) (fun q => s.heap.size ≤ q) s s.heap := by
  have hs := flat_of_before _ h
  obtain ⟨t, ht, hT⟩ := va_Tof (args := A) (s := s) (tm := Term.static "CrateTour$1" "$SwitchMap$CrateTour$Word" "[I") (ty := .int) (N := 9) (f := fun j => .int (smv j)) (A := fun q => s.heap.size ≤ q) (by decide) (hs _ (by decide +kernel)) (va_eqt (hs _ (by decide +kernel))) (fun j hj => va_eqt (hs _ ((by decide +kernel : ∀ j, j < 9 → Cond.eq (.elem (.static "CrateTour$1" "$SwitchMap$CrateTour$Word" "[I") (.int (Int32.ofNat j))) (.int (smv j)) ∈ flatC (Jvm.Cond.and given_1 narrow_1)) j hj))) kc_ge
  exact ⟨t, va_Zof (hts _ (by decide +kernel)) (hts _ (by decide +kernel)) ht kc_ge, hT⟩
theorem kc_single {s : State} {A : Array Value} (hts : ∀ w ∈ lw_tbl, w.before A s = true) (h : (Jvm.Cond.and given_1 narrow_1).before A s = true) : va_Z "java/lang/String" "COMPACT_STRINGS" "Z" (.int 1) (fun q => s.heap.size ≤ q) s s.heap ∧ va_Zq "jdk/internal/util/Preconditions" "SIOOBE_FORMATTER" "Ljava/util/function/BiFunction;" (fun q => s.heap.size ≤ q) s s.heap ∧ vx_Zq Bundle.tN "UNASSIGNED_STACK" Bundle.steD (fun q => s.heap.size ≤ q) s s.heap ∧ vx_Zq Bundle.tN "SUPPRESSED_SENTINEL" Bundle.listD (fun q => s.heap.size ≤ q) s s.heap := by
  have hs := flat_of_before _ h
  exact ⟨va_Zof (hts _ (by decide +kernel)) (hts _ (by decide +kernel)) (va_eqi (hs _ (by decide +kernel))) kc_ge,
    va_Zqof (hts _ (by decide +kernel)) (hts _ (by decide +kernel)) (hs _ (by decide +kernel)) kc_ge,
    vx_Zqof (hts _ (by decide +kernel)) (hts _ (by decide +kernel)) (hs _ (by decide +kernel)) kc_ge,
    vx_Zqof (hts _ (by decide +kernel)) (hts _ (by decide +kernel)) (hs _ (by decide +kernel)) kc_ge⟩
