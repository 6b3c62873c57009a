/-! CONSTRUCTORS: makings that the logic lacks -/
section IM
variable {X : Cx} {cc : ByteArray} {nL : Nat} {own : String} {t mc ms : Nat} {G : Gf} {sz k n pc : Nat} {ls : List (Option Value)} {st : List Value}
theorem cell_new {cA : ClassId} {N : Nat} : vp_cell cA (N, .inl fun _ => (0 : Int32)) = arrV cA N (fun _ => defaultValue .int) := rfl
theorem J_newI (hx : Fx X cc nL own t mc ms) {c : Int32} (N : Nat) (h0 : ¬ c < 0) (hN : c.toNatClampNeg = N) (hby : N ≤ 3000) (hk : k + 1 ≤ mc) (hn : n + N ≤ ms) (hd : decode cc pc = .ok (.newarray .int, 2)) (kk : G sz = none → J X nL (updG G sz (.inl ((xΓ X).2.1 1, N, .inl fun _ => 0))) (sz + 1) (k + 1) (n + N) (pc + 2) ls (.ref sz :: st)) : J X nL G sz k n pc ls (.int c :: st) :=
  J_newa hx 1 (ty := .int) rfl (fun _ _ h => h) rfl arrc_int N (.inl fun _ => 0) (fun _ => cell_new) h0 hN (by show N * 4 ≤ 536870912; omega) hk hn hd kk
theorem J_newB (hx : Fx X cc nL own t mc ms) {c : Int32} (N : Nat) (h0 : ¬ c < 0) (hN : c.toNatClampNeg = N) (hby : N ≤ 3000) (hk : k + 1 ≤ mc) (hn : n + N ≤ ms) (hd : decode cc pc = .ok (.newarray .byte, 2)) (kk : G sz = none → J X nL (updG G sz (.inl ((xΓ X).2.1 0, N, .inl fun _ => 0))) (sz + 1) (k + 1) (n + N) (pc + 2) ls (.ref sz :: st)) : J X nL G sz k n pc ls (.int c :: st) :=
  J_newa hx 0 (ty := .byte) rfl (fun _ _ h => h) rfl arrc_byte N (.inl fun _ => 0) (fun _ => cell_new) h0 hN (by show N * 1 ≤ 536870912; omega) hk hn hd kk
/-- what new int[6][4] leaves -/
def g64 (c : Nat → ClassId) (G : Gf) (sz : Nat) : Gf := fun b => if b = sz then some (.inl (c 7, 6, .inr (.inr (.inr (.inr fun j => if j < 6 then some (sz + 1 + j) else none))))) else if sz < b ∧ b < sz + 7 then some (.inl (c 1, 4, .inl fun _ => 0)) else G b
theorem J_mnew (hx : Fx X cc nL own t mc ms) {idx : Nat} (hcl : Cond.classLink own idx "[[I" ∈ WT) (hover : va_AOA .int (xs X)) (hk : k + 7 ≤ mc) (hn : n + 30 ≤ ms) (hd : decode cc pc = .ok (.multianewarray idx 2, 4)) (kk : J X nL (g64 (xΓ X).2.1 G sz) (sz + 7) (k + 7) (n + 30) (pc + 4) ls (.ref sz :: st)) : J X nL G sz k n pc ls (.int 4 :: .int 6 :: st) := fun H locs lsA hH hlc hv2 => by
  have hR := hx.2.2.2.2.2.2.1
  have hK := hx.2.2.2.2.2.1.1
  intro T hT Xs
  obtain ⟨vm₁, cA, comp, -, fA, fC, -, -, X', step⟩ := Xs.multianewarray2F (own := own) (index := idx) (ty := .int) hx.1 hx.2.2.2.1 (hx.2.2.2.2.1 _ hcl) (va_AOA.use hover) (hx.2.2.2.2.1 _ arrc_int) (g := F0 (xm X) pc lsA (.int 4 :: .int 6 :: st)) rfl (by rw [hx.2.1]; exact hd) rfl (by decide) (by decide) (by decide) (by decide) (by decide) (by decide) (by decide) (by rw [hR]; exact hk) (by rw [hR]; exact hn)
  have e6 : (6 : Int32).toNatClampNeg = 6 := rfl
  have e4 : (4 : Int32).toNatClampNeg = 4 := rfl
  rw [e6, e4] at X' step
  have eA : cA = (xΓ X).2.1 7 := Option.some.inj (fA.symm.trans (hK.2 7 _ rfl).2)
  have eC : comp = (xΓ X).2.1 1 := Option.some.inj (fC.symm.trans (hK.2 1 _ rfl).2)
  subst eA eC
  obtain ⟨f1, f2, -, -⟩ := Jvm.Free.Multi.fill_facts (T.setVm vm₁) ((xΓ X).2.1 7) ((xΓ X).2.1 1) 6 4 (defaultValue .int) 6
  have hTh : (T.setVm vm₁).heap = H := hT
  have hold : ∀ x : Nat, x < H.size → (Jvm.Free.Multi.fill (T.setVm vm₁) ((xΓ X).2.1 7) ((xΓ X).2.1 1) 6 4 (defaultValue .int) 6).heap[x]? = H[x]? := fun x hx => by
    have := Jvm.Free.Multi.fill_old (T.setVm vm₁) ((xΓ X).2.1 7) ((xΓ X).2.1 1) 6 4 (defaultValue .int) (a := x) (by rw [hTh]; exact hx) 6
    rw [hTh] at this
    exact this
  have hrow : ∀ j : Nat, j < 6 → (Jvm.Free.Multi.fill (T.setVm vm₁) ((xΓ X).2.1 7) ((xΓ X).2.1 1) 6 4 (defaultValue .int) 6).heap[H.size + 1 + j]? = some (vp_cell ((xΓ X).2.1 1) (4, .inl fun _ => (0 : Int32))) := fun j hj => by
    have := Jvm.Free.Multi.fill_inner (T.setVm vm₁) ((xΓ X).2.1 7) ((xΓ X).2.1 1) 6 4 (defaultValue .int) 6 j hj
    rw [hTh] at this
    rw [this]
    exact congrArg some (arrV_new _ _ _)
  have hout : Jvm.Free.Multi.outerC ((xΓ X).2.1 7) 6 H.size 6 = vp_cell ((xΓ X).2.1 7) (6, .inr (.inr (.inr (.inr (fun i => if i < 6 then some (H.size + 1 + i) else none))))) := by
    rw [vp_cell_q]
    exact vr_outer ((xΓ X).2.1 7) 6 H.size 6
  rw [hTh] at f1 f2
  rw [hout] at f2
  generalize Jvm.Free.Multi.fill (T.setVm vm₁) ((xΓ X).2.1 7) ((xΓ X).2.1 1) 6 4 (defaultValue .int) 6 = F at X' step f1 f2 hold hrow
  obtain ⟨h1, h2, h3, h4⟩ := id hH
  have hHp : Hp (xΓ X) (g64 (xΓ X).2.1 G sz) (sz + 7) F.heap := by
    subst h1
    refine ⟨by rw [f1], by rw [f1]; omega, fun q hq => (hold q (by omega)).trans (h3 q hq), fun b e hb => ?_⟩
    unfold g64 at hb
    by_cases e1 : b = H.size
    · rw [if_pos e1] at hb
      cases hb
      subst e1
      exact ⟨f2, h2⟩
    · rw [if_neg e1] at hb
      by_cases e2 : H.size < b ∧ b < H.size + 7
      · rw [if_pos e2] at hb
        cases hb
        refine ⟨?_, show (xΓ X).2.2.1.size ≤ b by omega⟩
        have := hrow (b - H.size - 1) (by omega)
        rw [show H.size + 1 + (b - H.size - 1) = b by omega] at this
        exact this
      · rw [if_neg e2] at hb
        have hlt := h4.lt hb
        exact ⟨(h4 b e hb).1.kept (hold b hlt), (h4 b e hb).2⟩
  obtain ⟨t2, a1, b1⟩ := kk F.heap locs lsA hHp hlc hv2 F rfl X'
  refine ⟨t2, step t2 ?_, b1⟩
  have hT2 : T.heap.size = sz := by rw [hT]; exact h1
  rw [hT2]
  exact a1
end IM
