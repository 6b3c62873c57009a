/-! COMMANDS: whole texts -/
section RU
variable {w : Wl} {T n : Nat} {t : Nat → Nat} {m : Nat → Int32}
def cm (n : Nat) (t : Nat → Nat) (q : Nat) : Sum Nat (Nat × Nat × (Nat → Int32)) := cmd n t q (fun _ => 0)
def sameR (n q : Nat) : Sum Nat (Nat × Nat × (Nat → Int32)) → Sum Nat (Nat × Nat × (Nat → Int32)) → Prop
  | .inl x, .inl y => x = y ∧ x ≤ n
  | .inr a, .inr b => a.1 = b.1 ∧ a.2.1 = b.2.1 ∧ a.2.1 < 9 ∧ q < a.1 ∧ a.1 ≤ n ∧ ∀ j, j < (wnc a.2.1).toNatClampNeg → a.2.2 j = b.2.2 j
  | _, _ => False
theorem cmd_v {q : Nat} (hq : q ≤ n) (v v' : Nat → Int32) : sameR n q (cmd n t q v) (cmd n t q v') := by
  unfold cmd
  obtain ⟨w1, w2, -⟩ := wen_ge (n := n) (t := t) (n - q) q (Nat.le_refl _)
  have w2 := w2 hq
  generalize wen n t q = e at w1 w2
  rcases fst9_lt (W := wmt t q (e - q)) with hk | hk
  · simp only [if_neg (show ¬ fst9 (wmt t q (e - q)) = 9 by omega)]
    generalize fst9 (wmt t q (e - q)) = D at hk
    obtain ⟨a, b, c⟩ := rdN_v (n := n) (t := t) (wnc D).toNatClampNeg 0 e v v'
    obtain ⟨r1, r2⟩ := rdN_ge (n := n) (t := t) (wnc D).toNatClampNeg 0 e v
    have r2 := r2 w2
    have c := c (fun j hj => by omega)
    generalize rdN n t (wnc D).toNatClampNeg 0 e v = R at a b c r1 r2
    generalize rdN n t (wnc D).toNatClampNeg 0 e v' = R' at a b c
    obtain ⟨Rb, Rp, Rv⟩ := R
    obtain ⟨Rb', Rp', Rv'⟩ := R'
    have a : Rb = Rb' := a
    have b : Rp = Rp' := b
    subst a b
    cases Rb
    · simp only [iF]
      exact ⟨rfl, r2⟩
    · simp only [iT]
      have hq2 := skp_n (n := n) (p := Rp) (t := t) r2
      have hq3 := skp_le (n := n) (p := Rp) (t := t)
      have r1 : e ≤ Rp := r1
      by_cases hs : skp n t Rp < n ∧ t (skp n t Rp) = 59
      · simp only [if_pos hs]
        refine ⟨rfl, rfl, hk, show q < skp n t Rp + 1 by omega, show skp n t Rp + 1 ≤ n by omega, fun j hj => c rfl j ?_⟩
        have hj : j < (wnc D).toNatClampNeg := hj
        omega
      · simp only [if_neg hs]
        exact ⟨rfl, hq2⟩
  · simp only [if_pos hk]
    exact ⟨rfl, hq⟩
/-- where a text is at fault -/
def flt (n : Nat) (t : Nat → Nat) : Nat → Nat → Option Nat
  | 0, _ => none
  | k + 1, p => if n ≤ skp n t p then none else match cm n t (skp n t p) with
    | .inl x => some x
    | .inr r => flt n t k r.1
def fo : Option Nat → Int32
  | none => -1
  | some x => iN x
theorem flt_sk {k p : Nat} : flt n t k (skp n t p) = flt n t k p := by
  cases k
  · rfl
  · unfold flt
    rw [skp_st (n - p) p (Nat.le_refl _)]
theorem flt_le : ∀ (k p x : Nat), p ≤ n → flt n t k p = some x → x ≤ n
  | 0, _, _, _, h => by cases h
  | k + 1, p, x, hp, h => by
    unfold flt at h
    by_cases h1 : n ≤ skp n t p
    · rw [if_pos h1] at h; cases h
    · rw [if_neg h1] at h
      have hv := cmd_v (t := t) (show skp n t p ≤ n by omega) (fun _ => 0) (fun _ => 0)
      have e : cmd n t (skp n t p) (fun _ => 0) = cm n t (skp n t p) := rfl
      rw [e] at hv
      generalize cm n t (skp n t p) = C at h hv
      cases C with
      | inl y => cases h; exact hv.2
      | inr r => exact flt_le k r.1 x hv.2.2.2.2.1 h
theorem l2_fault (hT : TC w n t) : ∀ (k i p fu D : Nat) (v : Nat → Int32), i + k = 150 → n - p ≤ k → p ≤ n → D < 9 → k < fu → ∃ p' D' v', p' ≤ n ∧ D' < 9 ∧ sX2_findFault_6 fu (cw w (iN p) (-1) (iN D) v) (iN i) = some (fo (flt n t k p), cw w (iN p') (fo (flt n t k p)) (iN D') v') := by
  intro k
  induction k with
  | zero =>
    intro i p fu D v hi hk hp hD hf
    obtain ⟨fu, rfl⟩ : ∃ m, fu = m + 1 := ⟨fu - 1, by omega⟩
    refine ⟨p, D, v, hp, hD, ?_⟩
    rw [sX2_findFault_6.eq_2, if_pos (show (150 : Int32) ≤ iN i from (iN_le (a := 150) (by decide) (by omega)).mpr (by omega)), cw_3]
    rfl
  | succ k ih =>
    intro i p fu D v hi hk hp hD hf
    obtain ⟨fu, rfl⟩ : ∃ m, fu = m + 1 := ⟨fu - 1, by omega⟩
    have hq := skp_n (n := n) (p := p) (t := t) hp
    have hq2 := skp_le (n := n) (p := p) (t := t)
    obtain ⟨a, b⟩ := e2_readNext (f := -1) (v := v) hT hp hD
    rw [sX2_findFault_6.eq_2, if_neg (show ¬ (150 : Int32) ≤ iN i from fun q => by have := (iN_le (a := 150) (by decide) (by omega)).mp q; omega)]
    unfold flt
    by_cases h1 : n ≤ skp n t p
    · refine ⟨skp n t p, D, v, hq, hD, ?_⟩
      rw [a h1, ob, if_pos h1]
      simp only [iF]
      rw [cw_3]
      rfl
    · obtain ⟨b1, b2⟩ := b (by omega)
      rw [if_neg h1]
      have hv := cmd_v (t := t) hq (zr3 v) (fun _ => 0)
      have e : cmd n t (skp n t p) (fun _ => 0) = cm n t (skp n t p) := rfl
      rw [e] at hv
      generalize cm n t (skp n t p) = C at hv
      cases hc : cmd n t (skp n t p) (zr3 v) with
      | inl x =>
        rw [hc] at hv
        cases C with
        | inr r => exact hv.elim
        | inl y =>
          obtain ⟨p', D', v', g1, g2, g3⟩ := b1 x hc
          refine ⟨p', D', v', g1, g2, ?_⟩
          rw [g3, ob]
          simp only [iF]
          rw [cw_3]
          obtain rfl : x = y := hv.1
          rfl
      | inr s =>
        rw [hc] at hv
        cases C with
        | inl y => exact hv.elim
        | inr r =>
          obtain ⟨p', D', v'⟩ := s
          obtain ⟨h2, -, h3, h4, h5, -⟩ := hv
          have h2 : p' = r.1 := h2
          subst h2
          have h4 : skp n t p < r.1 := h4
          have h5 : r.1 ≤ n := h5
          rw [b2 _ _ _ hc, ob, iN_s]
          exact ih (i + 1) r.1 fu D' v' (by omega) (by omega) h5 h3 (by omega)
/-- what a good text does: how many commands, and what state is left -/
def rn (n : Nat) (t : Nat → Nat) : Nat → Nat → (Nat → Int32) → Nat × (Nat → Int32)
  | 0, _, m => (0, m)
  | k + 1, p, m => if n ≤ skp n t p then (0, m) else match cm n t (skp n t p) with
    | .inl _ => (0, m)
    | .inr r => if chk m r.2.1 r.2.2 = true then ((rn n t k r.1 (act m r.2.1 r.2.2)).1 + 1, (rn n t k r.1 (act m r.2.1 r.2.2)).2) else (0, m)
theorem rn_sk {k p : Nat} : rn n t k (skp n t p) m = rn n t k p m := by
  cases k
  · rfl
  · unfold rn
    rw [skp_st (n - p) p (Nat.le_refl _)]
theorem rn_le : ∀ (k p : Nat) (m : Nat → Int32), (rn n t k p m).1 ≤ k
  | 0, _, _ => Nat.le_refl _
  | k + 1, p, m => by
    unfold rn
    by_cases h1 : n ≤ skp n t p
    · rw [if_pos h1]; exact Nat.zero_le _
    · rw [if_neg h1]
      generalize cm n t (skp n t p) = C
      cases C with
      | inl y => exact Nat.zero_le _
      | inr r =>
        by_cases h2 : chk m r.2.1 r.2.2 = true
        · simp only [if_pos h2]
          exact Nat.succ_le_succ (rn_le k r.1 _)
        · simp only [if_neg h2]
          exact Nat.zero_le _
/-- what the class's text and state leave as they were -/
def outr (w w' : Wl) : Prop := (∀ r, r < 1 ∨ 73 ≤ r → r ≠ 368 → r ≠ 370 → w' r = w r) ∧ w' 368 1 = w 368 1
theorem outr.tr {w w' w'' : Wl} (h : outr w w') (h' : outr w' w'') : outr w w'' := ⟨fun r h1 h2 h3 => (h'.1 r h1 h2 h3).trans (h.1 r h1 h2 h3), h'.2.trans h.2⟩
theorem outr.cw {p f d : Int32} {v : Nat → Int32} : outr w (cw w p f d v) := ⟨fun r _ h2 h3 => cw_o h2 h3, cw_1⟩
theorem TC.outr {w' : Wl} (hT : TC w n t) (h : outr w w') : TC w' n t := ⟨hT.1, h.2.trans hT.2.1, fun j hj => by rw [h.1 369 (by decide) (by decide) (by decide)]; exact hT.2.2 j hj⟩
theorem Rl.cw {p f d : Int32} {v : Nat → Int32} (hR : Rl w 1 m) (h12 : nC m ≤ 12) (h16 : nW m ≤ 16) : Rl (cw w p f d v) 1 m := hR.same (fun r h1 h2 => cw_o (by omega) (by omega)) h12 h16
theorem c_run : ∀ (k i p fu D T : Nat) (w : Wl) (m : Nat → Int32), i + k = 150 → n - p ≤ k → p ≤ n → D < 9 → k < fu → T + 240 * k ≤ 1000000000 → TC w n t → w 368 2 = iN p → w 368 4 = iN D → Rl w 1 m → Iv T 12 m →
    ∃ w' D', sX12_runCommands_38 fu w (iN i) = some (iN (i + (rn n t k p m).1), w') ∧ Rl w' 1 (rn n t k p m).2 ∧ Iv (T + 240 * k) 12 (rn n t k p m).2 ∧ outr w w' ∧ D' < 9 ∧ w' 368 4 = iN D' := by
  intro k
  induction k with
  | zero =>
    intro i p fu D T w m hi hk hp hD hf hTT hT h2 h4 hR hI
    obtain ⟨fu, rfl⟩ : ∃ m, fu = m + 1 := ⟨fu - 1, by omega⟩
    refine ⟨w, D, ?_, hR, hI, ⟨fun _ _ _ _ => rfl, rfl⟩, hD, h4⟩
    rw [sX12_runCommands_38.eq_2, if_pos (show (150 : Int32) ≤ iN i from (iN_le (a := 150) (by decide) (by omega)).mpr (by omega))]
    rfl
  | succ k ih =>
    intro i p fu D T w m hi hk hp hD hf hTT hT h2 h4 hR hI
    obtain ⟨fu, rfl⟩ : ∃ m, fu = m + 1 := ⟨fu - 1, by omega⟩
    have h12 := hI.ic12
    have h16 := hI.iw16
    have hT2 : T + 240 ≤ 1000000000 := by clear hR hI hT hf ih; omega
    have hq := skp_n (n := n) (p := p) (t := t) hp
    have hq2 := skp_le (n := n) (p := p) (t := t)
    obtain ⟨a, b⟩ := e2_readNext (f := w 368 3) (v := w 370) hT hp hD
    rw [← h2, ← h4, cw_id] at a b
    rw [sX12_runCommands_38.eq_2, if_neg (show ¬ (150 : Int32) ≤ iN i from fun q => by have := (iN_le (a := 150) (by decide) (by omega)).mp q; omega)]
    unfold rn
    by_cases h1 : n ≤ skp n t p
    · rw [a h1, ob, if_pos h1]
      exact ⟨cw w (iN (skp n t p)) (w 368 3) (w 368 4) (w 370), D, rfl, hR.cw h12 h16, hI.mT (by omega) hTT, outr.cw, hD, cw_4.trans h4⟩
    · obtain ⟨b1, b2⟩ := b (by omega)
      rw [if_neg h1]
      have hv := cmd_v (t := t) hq (zr3 (w 370)) (fun _ => 0)
      have e : cmd n t (skp n t p) (fun _ => 0) = cm n t (skp n t p) := rfl
      rw [e] at hv
      generalize cm n t (skp n t p) = C at hv
      cases hc : cmd n t (skp n t p) (zr3 (w 370)) with
      | inl x =>
        rw [hc] at hv
        cases C with
        | inr r => exact hv.elim
        | inl y =>
          obtain ⟨p', D', v', g1, g2, g3⟩ := b1 x hc
          rw [g3, ob]
          exact ⟨cw w (iN p') (iN x) (iN D') v', D', rfl, hR.cw h12 h16, hI.mT (by omega) hTT, outr.cw, g2, cw_4⟩
      | inr s =>
        rw [hc] at hv
        cases C with
        | inl y => exact hv.elim
        | inr r =>
          obtain ⟨p', D', v'⟩ := s
          obtain ⟨g2, g3, g4, g5, g6, g7⟩ := hv
          have g2 : p' = r.1 := g2
          have g3 : D' = r.2.1 := g3
          have g4 : D' < 9 := g4
          have g5 : skp n t p < p' := g5
          have g6 : p' ≤ n := g6
          have g7 : ∀ j, j < (wnc D').toNatClampNeg → v' j = r.2.2 j := g7
          have R1 : Rl (cw w (iN p') (w 368 3) (iN D') v') 1 m := hR.cw h12 h16
          obtain ⟨c1, c2⟩ := chk_v (m := m) g4 g7
          obtain ⟨x, x1, x2⟩ := e12_wrong R1 hI g4
          have x2 : x = 0 ↔ chk m D' v' = true := x2
          rw [b2 _ _ _ hc, ob]
          simp only [if_true]
          rw [cw_4, idx_iN g4 (by decide), ob, x1, ob, ← g3]
          by_cases hx : chk m D' v' = true
          · rw [if_pos (x2.mpr hx), ← c1, if_pos hx]
            obtain ⟨y, w2, y1, y2, y3, y4⟩ := c_perform (T := T) R1 hI hT2 g4 hx
            have y2 : Rl w2 1 (act m D' v') := y2
            have y4 : Iv (T + 240) 12 (act m D' v') := y4
            rw [y1, ob, iN_s, ← c2, ← g2]
            have o1 : outr w (cw w (iN p') (w 368 3) (iN D') v') := outr.cw
            have o2 : outr (cw w (iN p') (w 368 3) (iN D') v') w2 := ⟨fun r h _ _ => y3 r h, by rw [y3 368 (by decide)]⟩
            obtain ⟨w', D2, z1, z2, z3, z4, z5, z6⟩ := ih (i + 1) p' fu D' (T + 240) w2 (act m D' v') (by omega) (by omega) g6 g4 (by omega) (by omega) (hT.outr (o1.tr o2)) (by rw [y3 368 (by decide), cw_2]) (by rw [y3 368 (by decide), cw_4]) y2 y4
            refine ⟨w', D2, ?_, z2, ?_, (o1.tr o2).tr z4, z5, z6⟩
            · rw [z1, show i + 1 + (rn n t k p' (act m D' v')).1 = i + ((rn n t k p' (act m D' v')).1 + 1) by omega]
            · rw [show T + 240 * (k + 1) = T + 240 + 240 * k by omega]; exact z3
          · rw [if_neg (fun q => hx (x2.mp q)), ← c1, if_neg hx]
            exact ⟨cw w (iN p') (w 368 3) (iN D') v', D', rfl, R1, hI.mT (by omega) hTT, outr.cw, g4, cw_4⟩
/-- what the model's reader and memory leave as they were -/
def outm (w w' : Wl) : Prop := (∀ r, r ≠ 371 → r ≠ 372 → r ≠ 376 → w' r = w r) ∧ ∀ j, j ≠ 7 → j ≠ 8 → w' 371 j = w 371 j
theorem outm.tr {w w' w'' : Wl} (h : outm w w') (h' : outm w' w'') : outm w w'' := ⟨fun r h1 h2 h3 => (h'.1 r h1 h2 h3).trans (h.1 r h1 h2 h3), fun j h1 h2 => (h'.2 j h1 h2).trans (h.2 j h1 h2)⟩
theorem outm.mw {p d : Int32} {v : Nat → Int32} : outm w (mw w p d v) := ⟨fun r h1 _ h3 => mw_o h1 h3, fun j h1 h2 => by rw [mw_1, uN h2, uN h1]⟩
theorem TM.outm {w' : Wl} (hT : TM w n t) (h : outm w w') : TM w' n t := ⟨hT.1, (h.2 4 (by decide) (by decide)).trans hT.2.1, fun j hj => by rw [h.1 374 (by decide) (by decide) (by decide)]; exact hT.2.2 j hj⟩
end RU
