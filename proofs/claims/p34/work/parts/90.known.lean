/-! THE CONSTANTS: all of them, at the law's start -/
def adF (a0 aK aV : Nat → Nat) (t1 t2 x0 x1 x2 : Nat) (i : Nat) : Nat :=
  if i < 9 then a0 i else if i = 10 then t1 else if i = 11 then t2 else if i < 29 then aK (i - 20) else if i < 39 then aV (i - 30) else if i = 40 then x0 else if i = 41 then x1 else x2
theorem adF_w {a0 aK aV : Nat → Nat} {t1 t2 x0 x1 x2 d : Nat} (h : d < 9) : adF a0 aK aV t1 t2 x0 x1 x2 d = a0 d := if_pos h
theorem adF_k {a0 aK aV : Nat → Nat} {t1 t2 x0 x1 x2 d : Nat} (h : d < 9) : adF a0 aK aV t1 t2 x0 x1 x2 (20 + d) = aK d := by
  unfold adF
  rw [if_neg (by omega), if_neg (by omega), if_neg (by omega), if_pos (by omega), Nat.add_sub_cancel_left]
theorem adF_v {a0 aK aV : Nat → Nat} {t1 t2 x0 x1 x2 d : Nat} (h : d < 9) : adF a0 aK aV t1 t2 x0 x1 x2 (30 + d) = aV d := by
  unfold adF
  rw [if_neg (by omega), if_neg (by omega), if_neg (by omega), if_neg (by omega), if_pos (by omega), Nat.add_sub_cancel_left]
theorem kc_all {s : State} {A : Array Value} (hts : ∀ w ∈ lw_tbl, w.before A s = true) (h : (Jvm.Cond.and given_1 narrow_1).before A s = true) : ∃ ad : Nat → Nat, ∀ (D : va_G) (cf : Nat → ClassId) (P : State → Prop), KcU (D, cf, s.heap, P) ad s := by
  obtain ⟨a0, hE, hev⟩ := kc_words hts h
  obtain ⟨t1, hz1, ht1⟩ := kc_WORDS hts h hev
  obtain ⟨t2, hz2, ht2⟩ := kc_SW hts h
  obtain ⟨ak, hS⟩ := kc_strings h
  obtain ⟨⟨x0, h0⟩, ⟨x1, h1⟩, ⟨x2, h2⟩⟩ := kc_texts hts h
  obtain ⟨s1, s2, s3, s4⟩ := kc_single hts h
  have hL := kc_letters h hev fun i hi => (hS i hi).1
  refine ⟨adF a0 (fun d => (ak d).1) (fun d => (ak d).2) t1 t2 x0 x1 x2, fun D cf P => ⟨hz1, ?_, fun d hd => ?_, hz2, ht2, fun d hd => ?_, s1, s2, ?_, kc_nest hts, h0, h1, h2, s3, s4, kc_thB hts, kc_nc h⟩⟩
  · exact kc_tcg ht1 fun j hj => congrArg Value.ref (adF_w hj).symm
  · rw [adF_w hd, adF_k hd]
    have e := hE.1 d hd
    have e1 := e.2.2 ("java/lang/Enum", "ordinal", "I", [0, 1, 2, 3, 4, 5, 6, 7, 8]) (List.mem_cons_self ..)
    have e2 := e.2.2 ("CrateTour$Word", "numberCount", "I", [1, 1, 2, 1, 2, 1, 2, 3, 1]) (List.mem_cons_of_mem _ (List.mem_cons_self ..))
    refine ⟨e.2.1, ?_, e2, hL d hd⟩
    have q : ([0, 1, 2, 3, 4, 5, 6, 7, 8] : List Int32).getD d 0 = Int32.ofNat d := (by decide : ∀ d, d < 9 → ([0, 1, 2, 3, 4, 5, 6, 7, 8] : List Int32).getD d 0 = Int32.ofNat d) d hd
    rw [← q]
    exact e1
  · rw [adF_k hd, adF_v hd]
    exact (hS d hd).2
  · exact (hE.1 0 (by decide)).1
