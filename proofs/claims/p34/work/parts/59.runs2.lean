/-! COMMANDS: runCommands on both sides -/
section RV
variable {w : Wl} {T n nu : Nat} {t : Nat → Nat} {m : Nat → Int32} {P : Nat → Nat → Int32}
theorem UC.fr {w' : Wl} {p : Nat → Nat} (h : UC w nu p P) (hw : ∀ r, 78 ≤ r → r < 368 → w' r = w r) (hP : ∀ j, j < nu → nC (P j) ≤ 12 ∧ nW (P j) ≤ 16) : UC w' nu p P := by
  obtain ⟨h1, h2, h3, h4, h5⟩ := h
  refine ⟨h1, by rw [hw 78 (by decide) (by decide)]; exact h2, fun j hj => ⟨(h3 j hj).1, by rw [hw 79 (by decide) (by decide)]; exact (h3 j hj).2⟩, h4, fun j hj => ?_⟩
  have := (h3 j (by omega)).1
  exact (h5 j hj).same (fun r g1 g2 => hw r (by omega) (by omega)) (hP j hj).1 (hP j hj).2
theorem UM.fr {w' : Wl} (h : UM w nu P) (h1 : w' 371 2 = w 371 2) (h3 : w' 373 = w 373) : UM w' nu P := by
  obtain ⟨a, b, c⟩ := h
  refine ⟨a, h1.trans b, fun j hj i g1 g2 => ?_⟩
  show w' 373 (541 * j + i) = P j i
  rw [h3]
  exact c j hj i g1 g2
theorem pushN_le {n : Nat} (h : n ≤ 4) : pushN n ≤ 4 := by unfold pushN; split <;> omega
theorem push_all {Q : (Nat → Int32) → Prop} (hn : nu ≤ 4) (hP : ∀ j, j < nu → Q (P j)) (hm : Q m) : ∀ j, j < pushN nu → Q (pushP nu P m j) := by
  intro j hj
  unfold pushN at hj
  unfold pushP
  by_cases h : nu = 4
  · rw [if_pos h] at hj ⊢
    show Q (if j = 3 then m else P (j + 1))
    by_cases e : j = 3
    · rw [if_pos e]; exact hm
    · rw [if_neg e]; exact hP (j + 1) (by omega)
  · rw [if_neg h] at hj ⊢
    show Q (if j = nu then m else P j)
    by_cases e : j = nu
    · rw [if_pos e]; exact hm
    · rw [if_neg e]; exact hP j (by omega)
theorem cw_rw : wst (wst w 368 2 (0 : Int32)) 368 3 (-1 : Int32) = cw w (iN 0) (-1) (w 368 4) (w 370) := by
  have e : wst w 368 2 (0 : Int32) = wst (cw w (w 368 2) (w 368 3) (w 368 4) (w 370)) 368 2 (0 : Int32) := by rw [cw_id]
  rw [e, cw_s2, cw_s3]
  rfl
theorem c_fault (hT : TC w n t) {D : Nat} (hD : D < 9) (h4 : w 368 4 = iN D) : ∃ w' D', sX2_findFault w = some (fo (flt n t 150 0), w') ∧ outr w w' ∧ (∀ r, r ≠ 368 → r ≠ 370 → w' r = w r) ∧ D' < 9 ∧ w' 368 4 = iN D' := by
  unfold sX2_findFault sX2_rewind
  rw [ob, cw_rw, h4]
  obtain ⟨p', D', v', h1, h2, h3⟩ := l2_fault hT 150 0 0 FU D (w 370) (Nat.zero_add _) (by have := hT.1; omega) (Nat.zero_le _) hD (by decide)
  exact ⟨_, D', h3, outr.cw, fun r a b => cw_o a b, h2, cw_4⟩
theorem fo_m1 (hn : n ≤ 150) : (fo (flt n t 150 0) = -1) = (flt n t 150 0 = none) := by
  apply propext
  cases h : flt n t 150 0 with
  | none => exact ⟨fun _ => rfl, fun _ => rfl⟩
  | some x =>
    have := flt_le 150 0 x (Nat.zero_le _) h
    constructor
    · intro q; exact (iN_m1 (a := x) (by omega) q).elim
    · intro q; cases q
/-- the class runs a text -/
theorem c_runCommands {p : Nat → Nat} (hT : TC w n t) {D : Nat} (hD : D < 9) (h4 : w 368 4 = iN D) (hR : Rl w 1 m) (hI : Iv T 12 m) (hTT : T + 36000 ≤ 1000000000) (hU : UC w nu p P) (hP : ∀ j, j < nu → Iv T 12 (P j)) :
    (∀ x, flt n t 150 0 = some x → ∃ w' D', sX12_runCommands w = some (-10 - iN x, w') ∧ outr w w' ∧ (∀ r, r ≠ 368 → r ≠ 370 → w' r = w r) ∧ D' < 9 ∧ w' 368 4 = iN D') ∧
    (flt n t 150 0 = none → ∃ w' D' p', sX12_runCommands w = some (iN (rn n t 150 0 m).1, w') ∧ Rl w' 1 (rn n t 150 0 m).2 ∧ Iv (T + 36000) 12 (rn n t 150 0 m).2 ∧ UC w' (pushN nu) p' (pushP nu P m) ∧ (∀ r, 369 ≤ r → r ≠ 370 → w' r = w r) ∧ w' 0 = w 0 ∧ w' 368 1 = w 368 1 ∧ D' < 9 ∧ w' 368 4 = iN D') := by
  have h12 := hI.ic12
  have h16 := hI.iw16
  have hn := hT.1
  have hPP : ∀ j, j < nu → nC (P j) ≤ 12 ∧ nW (P j) ≤ 16 := fun j hj => ⟨(hP j hj).ic12, (hP j hj).iw16⟩
  obtain ⟨w1, D1, a1, a2, a3, a4, a5⟩ := c_fault hT hD h4
  unfold sX12_runCommands
  rw [a1, ob]
  constructor
  · intro x hx
    rw [if_neg (show ¬ fo (flt n t 150 0) = -1 by rw [fo_m1 hn, hx]; intro q; cases q), hx]
    exact ⟨w1, D1, rfl, a2, a3, a4, a5⟩
  · intro hx
    rw [if_pos (show fo (flt n t 150 0) = -1 by rw [fo_m1 hn]; exact hx)]
    have R1 : Rl w1 1 m := hR.same (fun r g1 g2 => a3 r (by omega) (by omega)) h12 h16
    have U1 : UC w1 nu p P := hU.fr (fun r g1 g2 => a3 r (by omega) (by omega)) hPP
    obtain ⟨w2, p', b1, b2, b3⟩ := c_keep U1 R1 h12 h16 hPP
    have R2 : Rl w2 1 m := R1.same (fun r g1 g2 => b3 r (Or.inl (by omega))) h12 h16
    have e8 : w2 368 = w1 368 := b3 368 (Or.inr (by decide))
    have T2 : TC w2 n t := ⟨hT.1, by rw [e8, a2.2]; exact hT.2.1, fun j hj => by rw [b3 369 (Or.inr (by decide)), a3 369 (by decide) (by decide)]; exact hT.2.2 j hj⟩
    rw [b1, ob]
    unfold sX2_rewind
    rw [ob, cw_rw]
    have o : outr w2 (cw w2 (iN 0) (-1) (w2 368 4) (w2 370)) := outr.cw
    obtain ⟨w3, D3, c1, c2, c3, c4, c5, c6⟩ := c_run 150 0 0 FU D1 T (cw w2 (iN 0) (-1) (w2 368 4) (w2 370)) m (Nat.zero_add _) (by omega) (Nat.zero_le _) a4 (by decide) hTT (T2.outr o) cw_2 (by rw [cw_4, e8]; exact a5) (R2.cw h12 h16) hI
    have o3 := o.tr c4
    refine ⟨w3, D3, p', ?_, c2, c3, ?_, fun r g1 g2 => ?_, ?_, ?_, c5, c6⟩
    · rw [Nat.zero_add] at c1
      exact c1
    · refine b2.fr (fun r g1 g2 => o3.1 r (Or.inr (by omega)) (by omega) (by omega)) ?_
      exact push_all (Q := fun m => nC m ≤ 12 ∧ nW m ≤ 16) hU.1 hPP ⟨h12, h16⟩
    · rw [o3.1 r (Or.inr (by omega)) (by omega) g2, b3 r (Or.inr (by omega)), a3 r (by omega) g2]
    · rw [o3.1 0 (Or.inl (by decide)) (by decide) (by decide), b3 0 (Or.inl (by decide)), a3 0 (by decide) (by decide)]
    · rw [o3.2, e8, a2.2]
theorem mw_rw : wst w 371 7 (0 : Int32) = mw w (iN 0) (w 371 8) (w 376) := by
  have e : wst w 371 7 (0 : Int32) = wst (mw w (w 371 7) (w 371 8) (w 376)) 371 7 (0 : Int32) := by rw [mw_id]
  rw [e, mw_s7]
  rfl
theorem sk2 {p' q : Nat} {d : Int32} {v : Nat → Int32} : (if p' < q then (true, mw w (iN q) d v) else (false, mw w (iN q) d v)).2 = mw w (iN q) d v := by
  by_cases h : p' < q
  · rw [if_pos h]
  · rw [if_neg h]
end RV
