/-! THE LAW: what its frame needs -/
theorem GoodIn_wyW {own : String} {idx : Nat} {y : MethodName} {cc : ByteArray} {nL : Nat} {ret : Option FieldType} {hh : List (Nat × Nat × Nat × Nat)} (h : Cond.codeWith y cc nL ret hh ∈ WT) (h1 : Cond.methodLink own idx y ∈ WT) (h2 : Cond.static y ∈ WT) (h3 : Cond.initialized y.cls ∈ WT) : GoodIn WT (va_wsS own idx y (wyW y cc nL ret hh)) := fun w hw => by
  have : w ∈ WT := by
    unfold va_wsS wyW at hw
    rcases List.mem_append.mp hw with e | e
    · rcases List.mem_cons.mp e with e | e
      · rw [e]; exact h1
      rcases List.mem_cons.mp e with e | e
      · rw [e]; exact h2
      rcases List.mem_cons.mp e with e | e
      · rw [e]; exact h3
      · cases e
    · rcases List.mem_cons.mp e with e | e
      · rw [e]; exact h
      · exact e
  exact ⟨this, WT_good this⟩
section JLL
variable {X : Cx} {cc : ByteArray} {nL : Nat} {own : String} {t mc ms : Nat} {G : Gf} {sz k n pc : Nat} {ls : List (Option Value)} {st : List Value}
theorem J_callSW (hx : Fx X cc nL own t mc ms) {idx : Nat} {y : MethodName} {bytes : ByteArray} {maxL : Nat} {ret : Option FieldType} {hh : List (Nat × Nat × Nat × Nat)} {nA t' mc' ms' : Nat} {As rest : List Value} {Ψ : Option Value → Gf → Nat → Prop}
    (ct : CtL (xl X) (xΓ X) y bytes maxL ret hh t' As G sz Ψ mc' ms') (hml : Cond.methodLink own idx y ∈ WT) (hcw : Cond.codeWith y bytes maxL ret hh ∈ WT) (hsta : Cond.static y ∈ WT) (hini : Cond.initialized y.cls ∈ WT) (hy : y.cls ≠ "java/lang/invoke/MethodHandle" ∧ y.cls ≠ "java/lang/invoke/VarHandle" ∧ (parseMethodDescriptor y.desc).map (fun d => d.parameters.length) = some nA)
    (hst : st = As.reverse ++ rest) (hn : As.length = nA) (ht : t' + 1 ≤ t) (hlo : 19 + maxL + 30 * t' ≤ 30 * t) (hw : (rest.map fun v => v.category).sum ≤ 8) (hk : k + mc' ≤ mc) (hs : n + ms' ≤ ms) (hd : decode cc pc = .ok (.invokestatic idx, 3))
    (kk : ∀ (r : Option Value) (G' : Gf) (sz' : Nat), Ψ r G' sz' → J X nL G' sz' (k + mc') (n + ms') (pc + 3) ls (r.toList ++ rest)) : J X nL G sz k n pc ls st := by
  have hts := hx.2.2.2.2.1
  have hK := hx.2.2.2.2.2.1
  have hR := hx.2.2.2.2.2.2.1
  refine J_back As.toArray (fun H locs lsA hH hlc hv2 => ?_) kk
  exact vx_runSW (As := As) (fix_of hx) ct (vx_cwSW (ws' := WT) nA hts (GoodIn_wyW hcw hml hsta hini) rfl rfl rfl hy (by rw [hR]; exact ⟨ht, by show 8 + (maxL + 11) + 30 * t' ≤ 30 * t; omega⟩)) ⟨Pc_blind, fun U hU hW => ⟨rfl, hK.warm hW, by rw [hU]; exact hH⟩⟩ rfl hn hv2.1 hst (by show 2 * 0 + _ ≤ 8; omega) hd (by rw [hR]; exact ⟨hk, hs⟩)
/-- the script -/
def XS (X : Cx) (b L : Nat) (z : Nat → Int32) : Prop := va_X b L z (xs X) (xΓ X).2.2.1 ∧ b < (xΓ X).2.2.1.size ∧ L ≤ 3072
theorem J_xs (hx : Fx X cc nL own t mc ms) {b L : Nat} {z : Nat → Int32} (hX : XS X b L z) {i : Int32} (hin : vp_in i L) (hd : decode cc pc = .ok (.iaload, 1)) (kk : J X nL G sz k n (pc + 1) ls (.int (z i.toNatClampNeg) :: st)) : J X nL G sz k n pc ls (.int i :: .ref b :: st) := fun H locs lsA hH hlc hv2 =>
  va_sld (A := aA (xΓ X)) hx.1 hx.2.1 hX.1 hX.2.1 (Nat.not_le.mpr hX.2.1) ⟨hH.2.1, fun q h1 _ => hH.2.2.1 q h1, hlc⟩ hin hd (kk H locs lsA hH hlc hv2)
theorem J_xlen (hx : Fx X cc nL own t mc ms) {b L : Nat} {z : Nat → Int32} (hX : XS X b L z) (hd : decode cc pc = .ok (.arraylength, 1)) (kk : J X nL G sz k n (pc + 1) ls (.int (iN L) :: st)) : J X nL G sz k n pc ls (.ref b :: st) := fun H locs lsA hH hlc hv2 =>
  va_slen (A := aA (xΓ X)) hx.1 hx.2.1 hX.1 hX.2.1 (Nat.not_le.mpr hX.2.1) ⟨hH.2.1, fun q h1 _ => hH.2.2.1 q h1, hlc⟩ hd (kk H locs lsA hH hlc hv2)
end JLL
theorem room_less {s : State} {pl : Platform} {r r' : Room} (hf : r.frames ≤ r'.frames) (hl : r.locals ≤ r'.locals) (hc : r.cells ≤ r'.cells) (hs : r.slots ≤ r'.slots) (h : s.hasRoom pl r' = true) : s.hasRoom pl r = true := by
  simp only [State.hasRoom, Bool.and_eq_true, decide_eq_true_eq] at h ⊢
  obtain ⟨⟨⟨⟨h1, h2, h3, h4, h5, h6⟩, h7⟩, h8⟩, h9⟩ := h
  exact ⟨⟨⟨⟨by omega, by omega, by omega, by omega, by omega, h6⟩, by omega⟩, by omega⟩, h9⟩
theorem W_room {p : Program} {l : Launch} {e : Env} {R R' : Room} {s : State} {m : MethodId} {args : Array Value} {below : List Frame} {meth : Method} {c : Code} {H : Heap} {locs : List Loc} {cells slots : Nat} {Q : State → Prop} {g : JFrame} (hf : R'.frames ≤ R.frames) (hl : R'.locals ≤ R.locals) (hc : R'.cells ≤ R.cells) (hs : R'.slots ≤ R.slots) (h : W p l e R' s m args below meth c H locs cells slots Q g) : W p l e R s m args below meth c H locs cells slots Q g := fun T hT Xs =>
  h T hT { Xs with room := room_less hf hl hc hs Xs.room }
/-- an index into the script -/
theorem vp_iN {i L : Nat} (h : i < L) (hL : L ≤ 3072) : vp_in (iN i) L := idx_in (idx_iN h (by omega))
