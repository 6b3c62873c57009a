/-! THE WORLD AT THE START -/
def sr (r : Nat) : Nat → Int32 := if r = 0 then upd (fun _ => 0) 1 100 else if 6 ≤ r ∧ r < 12 then lnd else fun _ => 0
def w0 : Wl := fun q => if q = 0 then (fun _ => 0) else if q < 73 then sr (q - 1) else if q < 79 then (fun _ => 0) else if q = 79 then (fun j => iN j) else if q < 368 then sr ((q - 80) % 72) else if q = 368 then upd (fun _ => 0) 3 (-1) else fun _ => 0
theorem n0 : nV (mI 6) = 0 ∧ nC (mI 6) = 0 ∧ nW (mI 6) = 0 ∧ nK (mI 6) = 0 ∧ tm (mI 6) = 0 := by decide +kernel
theorem rl0 : Rl w0 1 (mI 6) := by
  obtain ⟨a1, a2, a3, a4, a5⟩ := n0
  refine ⟨?_, by decide +kernel, fun c hc => ?_, fun c hc => ?_, by decide +kernel, fun i hi => ?_, fun i _ hi => ?_, by decide +kernel, by decide +kernel⟩
  · unfold RlS; decide +kernel
  · revert c; unfold RlA; decide +kernel
  · rw [a2] at hc; exact absurd hc (Nat.not_lt_zero c)
  · rw [a3] at hi; exact absurd hi (Nat.not_lt_zero i)
  · exact (by decide +kernel : ∀ i, i < 16 → w0 (1 + 40 + 2 * i) 6 = 0 ∧ w0 (1 + 40 + 2 * i) 7 = 0) i hi
theorem iv0 : Iv 0 12 (mI 6) := by
  obtain ⟨a1, a2, a3, a4, a5⟩ := n0
  refine ⟨by decide +kernel, by decide +kernel, by decide +kernel, by decide +kernel, by decide +kernel, fun v hv => ?_, fun v hv j hj => ⟨0, by decide, ?_⟩, by decide +kernel, fun c hc => ?_, fun c hc => ?_, fun i hi => ?_, fun k hk => ?_⟩
  · rw [a1] at hv; exact absurd hv (Nat.not_lt_zero v)
  · revert v j; decide +kernel
  · rw [a2] at hc; exact absurd hc (Nat.not_lt_zero c)
  · rw [a2] at hc; exact absurd hc (Nat.not_lt_zero c)
  · rw [a3] at hi; exact absurd hi (Nat.not_lt_zero i)
  · rw [a4] at hk; exact absurd hk (Nat.not_lt_zero k)
/-- told otherwise, but the same cell -/
def eqv (Γ : Gl) (e e' : va_E) : Prop := ∀ (x : Nat) (H : Heap), va_at Γ.1 vwCl (x, e) H → va_at Γ.1 vwCl (x, e') H
theorem eqv.rf {Γ : Gl} {e : va_E} : eqv Γ e e := fun _ _ h => h
theorem eqv.refs {Γ : Gl} {c : ClassId} {N : Nat} {f g : Nat → Option Nat} (h : ∀ j, j < N → f j = g j) : eqv Γ (.inl (c, N, refsE f)) (.inl (c, N, refsE g)) := fun x H hx => by
  have e : vp_cell c (N, refsE f) = vp_cell c (N, refsE g) := by
    rw [vp_cell_q, vp_cell_q]
    unfold arrV
    congr 1
    congr 1
    funext j
    show va_rf (f j.val) = va_rf (g j.val)
    rw [h j.val j.isLt]
  show H[x]? = some (vp_cell c (N, refsE g))
  rw [← e]
  exact hx
theorem eqv.eq {Γ : Gl} {e e' : va_E} (h : e = e') : eqv Γ e e' := h ▸ eqv.rf
theorem J_weak {X : Cx} {G G' : Gf} {nL sz k n pc : Nat} {ls : List (Option Value)} {st : List Value} (h : ∀ x e', G' x = some e' → ∃ e, G x = some e ∧ eqv (xΓ X) e e') (kk : J X nL G' sz k n pc ls st) : J X nL G sz k n pc ls st := fun H locs lsA hH hlc hv2 =>
  kk H locs lsA ⟨hH.1, hH.2.1, hH.2.2.1, fun x e' he => by
    obtain ⟨e, h1, h2⟩ := h x e' he
    exact ⟨h2 x H (hH.2.2.2 x e h1).1, (hH.2.2.2 x e h1).2⟩⟩ hlc hv2
section IW
variable {Γ : Gl} {B : Bs} {G : Gf}
theorem SB.ent {q0 : Nat} (h : SB Γ (B.1 + q0) G) {r : Nat} (hr : r < 72) : ∃ e, G (B.1 + q0 + r) = some e ∧ eqv Γ e (ent Γ B (blk r) (q0 + r) (sr r)) := by
  obtain ⟨-, h2, ⟨f3, h3, g3⟩, ⟨f4, h4, g4⟩, ⟨f5, h5, g5⟩, h6, ⟨f7, h7, g7⟩, h8, h9, h10, h11⟩ := h
  have a : ∀ m : Nat, B.1 + q0 + m = B.1 + (q0 + m) := fun m => Nat.add_assoc _ _ _
  by_cases e0 : r = 0
  · subst e0
    exact ⟨_, h2, eqv.eq rfl⟩
  by_cases e1 : r = 1
  · subst e1
    refine ⟨_, h3, ?_⟩
    exact eqv.refs (N := 8) (g := fun j => some (B.1 + (q0 + 1 + 11 + 2 * j))) (fun j hj => by rw [g3 j hj]; congr 1; omega)
  by_cases e2 : r = 2
  · subst e2
    refine ⟨_, h4, ?_⟩
    exact eqv.refs (N := 12) (g := fun j => some (B.1 + (q0 + 2 + 26 + j))) (fun j hj => by rw [g4 j hj]; congr 1; omega)
  by_cases e3 : r = 3
  · subst e3
    refine ⟨_, h5, ?_⟩
    exact eqv.refs (N := 16) (g := fun j => some (B.1 + (q0 + 3 + 37 + 2 * j))) (fun j hj => by rw [g5 j hj]; congr 1; omega)
  by_cases e4 : r = 4
  · subst e4
    exact ⟨_, h6, eqv.eq rfl⟩
  by_cases e5 : r = 5
  · subst e5
    refine ⟨_, h7, ?_⟩
    exact eqv.refs (N := 6) (g := fun j => some (B.1 + (q0 + 5 + 1 + j))) (fun j hj => by rw [g7 j hj]; congr 1; omega)
  by_cases e6 : r < 12
  · have := h8 (r - 6) (by omega)
    rw [if_pos (show r - 6 < 6 by omega), show B.1 + q0 + 6 + (r - 6) = B.1 + q0 + r by omega] at this
    refine ⟨_, this, eqv.eq ?_⟩
    rw [show blk r = 4 + 100 from (by decide +kernel : ∀ r, r < 12 → 6 ≤ r → blk r = 4 + 100) r e6 (by omega), ent_I]
    unfold sr
    rw [if_neg e0, if_pos (by omega)]
  have es : sr r = fun _ => 0 := by unfold sr; rw [if_neg e0, if_neg (by omega)]
  rw [es]
  by_cases e7 : r < 28
  · by_cases e8 : r % 2 = 0
    · have := (h9 ((r - 12) / 2) (by omega)).1
      rw [show B.1 + q0 + 12 + 2 * ((r - 12) / 2) = B.1 + q0 + r by omega] at this
      refine ⟨_, this, eqv.eq ?_⟩
      rw [(by decide +kernel : ∀ r, r < 28 → 12 ≤ r → r % 2 = 0 → blk r = 8) r e7 (by omega) e8, ent_O (by decide), show B.1 + q0 + r + 1 = B.1 + (q0 + r + 1) by omega]
      rfl
    · have := (h9 ((r - 12) / 2) (by omega)).2
      rw [show B.1 + q0 + 12 + 2 * ((r - 12) / 2) + 1 = B.1 + q0 + r by omega] at this
      refine ⟨_, this, eqv.eq ?_⟩
      rw [show blk r = 8 + 100 from (by decide +kernel : ∀ r, r < 28 → 12 ≤ r → ¬ r % 2 = 0 → blk r = 8 + 100) r e7 (by omega) e8, ent_I]
  by_cases e9 : r < 40
  · have := h10 (r - 28) (by omega)
    rw [show B.1 + q0 + 28 + (r - 28) = B.1 + q0 + r by omega] at this
    refine ⟨_, this, eqv.eq ?_⟩
    rw [(by decide +kernel : ∀ r, r < 40 → 28 ≤ r → blk r = 9) r e9 (by omega), ent_O (by decide)]
    rfl
  · by_cases e8 : r % 2 = 0
    · have := (h11 ((r - 40) / 2) (by omega)).1
      rw [show B.1 + q0 + 40 + 2 * ((r - 40) / 2) = B.1 + q0 + r by omega] at this
      refine ⟨_, this, eqv.eq ?_⟩
      rw [(by decide +kernel : ∀ r, r < 72 → 40 ≤ r → r % 2 = 0 → blk r = 10) r hr (by omega) e8, ent_O (by decide), show B.1 + q0 + r + 1 = B.1 + (q0 + r + 1) by omega]
      rfl
    · have := (h11 ((r - 40) / 2) (by omega)).2
      rw [show B.1 + q0 + 40 + 2 * ((r - 40) / 2) + 1 = B.1 + q0 + r by omega] at this
      refine ⟨_, this, eqv.eq ?_⟩
      rw [show blk r = 10 + 100 from (by decide +kernel : ∀ r, r < 72 → 40 ≤ r → ¬ r % 2 = 0 → blk r = 10 + 100) r hr (by omega) e8, ent_I]
/-- all that is made, told as the world -/
theorem wd0 (hT : TS Γ B B.1 G) {q : Nat} (hq : kd q ≠ 0) : ∃ e, G (B.1 + q) = some e ∧ eqv Γ e (ent Γ B (kd q) q (w0 q)) := by
  obtain ⟨t1, t2, t3, t4, t5, t6, t7, t8, ⟨f, t9, t9'⟩, t10, t11, t12, t13⟩ := hT
  have hl := kd_lt hq
  by_cases h0 : q = 0
  · subst h0; exact ⟨_, t1, eqv.eq rfl⟩
  by_cases h1 : q < 73
  · obtain ⟨e, e1, e2⟩ := t2.ent (r := q - 1) (by omega)
    rw [show B.1 + 1 + (q - 1) = B.1 + q by omega, show 1 + (q - 1) = q by omega] at *
    refine ⟨e, e1, ?_⟩
    have k : kd q = blk (q - 1) := by unfold kd; rw [if_neg h0, if_pos h1]
    have kw : w0 q = sr (q - 1) := by unfold w0; rw [if_neg h0, if_pos h1]
    rw [k, kw]; exact e2
  by_cases h73 : q = 73
  · subst h73; exact ⟨_, t3, eqv.eq rfl⟩
  by_cases h74 : q = 74
  · subst h74; exact ⟨_, t4, eqv.eq rfl⟩
  by_cases h75 : q = 75
  · subst h75; exact ⟨_, t5, eqv.eq rfl⟩
  by_cases h76 : q = 76
  · subst h76; exact ⟨_, t6, eqv.eq rfl⟩
  by_cases h77 : q = 77
  · subst h77; exact ⟨_, t7, eqv.eq rfl⟩
  by_cases h78 : q = 78
  · subst h78; exact ⟨_, t8, eqv.eq rfl⟩
  by_cases h79 : q = 79
  · subst h79
    refine ⟨_, t9, ?_⟩
    exact eqv.refs (N := 4) (g := fun j => some (B.1 + (80 + 72 * (w0 79 j).toNatClampNeg))) (fun j hj => by
      rw [t9' j hj]
      have : (w0 79 j).toNatClampNeg = j := iN_nat (by omega)
      rw [this]; congr 1; omega)
  by_cases h368 : q < 368
  · have hj := t10 ((q - 80) / 72) (by omega)
    rw [Nat.add_assoc] at hj
    obtain ⟨e, e1, e2⟩ := hj.ent (r := (q - 80) % 72) (Nat.mod_lt _ (by decide))
    rw [show B.1 + (80 + 72 * ((q - 80) / 72)) + (q - 80) % 72 = B.1 + q by omega] at e1
    rw [show 80 + 72 * ((q - 80) / 72) + (q - 80) % 72 = q by omega] at e2
    refine ⟨e, e1, ?_⟩
    have k : kd q = blk ((q - 80) % 72) := by
      unfold kd
      rw [if_neg h0, if_neg h1, if_neg h73, if_neg h74, if_neg h75, if_neg h76, if_neg h77, if_neg h78, if_neg h79, if_pos h368]
    have kw : w0 q = sr ((q - 80) % 72) := by
      unfold w0
      rw [if_neg h0, if_neg h1, if_neg (by omega), if_neg h79, if_pos h368]
    rw [k, kw]; exact e2
  rcases (by omega : q = 368 ∨ q = 369 ∨ q = 370) with rfl | rfl | rfl
  · exact ⟨_, t11, eqv.eq rfl⟩
  · exact ⟨_, t12, eqv.eq rfl⟩
  · exact ⟨_, t13, eqv.eq rfl⟩
/-- the world at the start, told so -/
def gW (Γ : Gl) (B : Bs) : Gf := fun x => if B.1 ≤ x ∧ kd (x - B.1) ≠ 0 then some (ent Γ B (kd (x - B.1)) (x - B.1) (w0 (x - B.1))) else none
theorem gW_Wd : Wd Γ B w0 (gW Γ B) := fun q hq => by
  unfold gW
  rw [Nat.add_sub_cancel_left, if_pos ⟨Nat.le_add_right _ _, hq⟩]
end IW
theorem J_world {X : Cx} {G : Gf} {B : Bs} {nL sz k n pc : Nat} {ls : List (Option Value)} {st : List Value} (hT : TS (xΓ X) B B.1 G) (kk : ∀ G', Wd (xΓ X) B w0 G' → J X nL G' sz k n pc ls st) : J X nL G sz k n pc ls st := by
  refine J_weak (G' := gW (xΓ X) B) (fun x e' he => ?_) (kk _ gW_Wd)
  unfold gW at he
  by_cases h : B.1 ≤ x ∧ kd (x - B.1) ≠ 0
  · rw [if_pos h] at he
    cases he
    have := wd0 hT h.2
    rw [show B.1 + (x - B.1) = x by omega] at this
    exact this
  · rw [if_neg h] at he; cases he
