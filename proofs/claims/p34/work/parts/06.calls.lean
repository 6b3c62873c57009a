/-! THE LOGIC, calls -/
def lsOk (ls : List (Option Value)) : Nat → Bool
  | 0 => true
  | i + 1 => match ls[i]? with
    | some (some v) => v.category == 1
    | _ => true
theorem hc_of {ls : List (Option Value)} {i : Nat} (h : lsOk ls i = true) : ∀ w : Value, i ≠ 0 → ls[i - 1]? = some (some w) → w.category = 1 := by
  intro w h0 hw
  match i, h0 with
  | i + 1, _ =>
    rw [Nat.add_sub_cancel] at hw
    simp only [lsOk, hw] at h
    simpa using h
theorem WT_good {w : Cond} (h : w ∈ WT) : (w.onTables && w.keeps) = true ∨ ∃ ty, w = .arrayClass ty := good_of_word (List.mem_filter.mp h).2
theorem wy_in {y : MethodName} {cc : ByteArray} {nL : Nat} {ret : Option FieldType} (h : Cond.code y cc nL ret ∈ WT) : GoodIn WT (wy y cc nL ret) := fun w hw => by
  have : w ∈ WT := by
    rcases List.mem_cons.mp hw with e | e
    · rw [e]; exact h
    · exact e
  exact ⟨this, WT_good this⟩
theorem KV.warm {Γ : Gl} {s U : State} (hW : s.WarmedH U.vm) (h : KV Γ s) : KV Γ U := ⟨h.1.moved hW.alike, h.2.2.1 s U hW h.2.1, h.2.2⟩
theorem KV.calling {Γ : Gl} {U : State} {g : JFrame} {mk : MethodId} {a : Array Value} (h : KV Γ U) : KV Γ (U.calling g mk a) := ⟨h.1.moved (by show U.vm.Alike U.vm; exact Vm.Alike.refl _), h.2.2.2 U g mk a h.2.1, h.2.2⟩
/-- what the tables say of a method: 1 of all, 2 of an instance's, 3 of a static one, 4 of a constructor -/
def Lk (y : MethodName) (cc : ByteArray) (nL : Nat) (ret : Option FieldType) (n : Nat) : Prop := Cond.code y cc nL ret ∈ WT ∧ Cond.initialized y.cls ∈ WT ∧ y.cls ≠ "java/lang/invoke/MethodHandle" ∧ y.cls ≠ "java/lang/invoke/VarHandle" ∧ (parseMethodDescriptor y.desc).map (fun d => d.parameters.length) = some n
def LkV (y : MethodName) (cc : ByteArray) (nL : Nat) (ret : Option FieldType) (n : Nat) : Prop := Lk y cc nL ret n ∧ Cond.instanceMethod y ∈ WT ∧ Cond.selects y.cls y y ∈ WT
def LkS (y : MethodName) (cc : ByteArray) (nL : Nat) (ret : Option FieldType) (n : Nat) : Prop := Lk y cc nL ret n ∧ Cond.static y ∈ WT
def LkI (y : MethodName) (cc : ByteArray) (nL : Nat) (n : Nat) : Prop := Lk y cc nL none n ∧ Cond.instanceMethod y ∈ WT ∧ y.name = "<init>"
theorem Pc_blind {Γ : Gl} {av : List Value} {G : Gf} {sz : Nat} : FrameBlind (va_Pc av (fun U => KV Γ U ∧ Hp Γ G sz U.heap)) := fun a U g mk h => ⟨h.1, h.2.1.calling, h.2.2⟩
section JC
variable {X : Cx} {cc : ByteArray} {nL : Nat} {own : String} {t mc ms : Nat} {G : Gf} {sz k n pc : Nat} {ls : List (Option Value)} {st : List Value}
theorem fix_of (hx : Fx X cc nL own t mc ms) : CallFix (xp X) (xm X) (xc X) cc nL (xs X) (xa X) WT own := ⟨hx.1, hx.2.1, hx.2.2.1, hx.2.2.2.1, hx.2.2.2.2.1⟩
theorem callB_J (hx : Fx X cc nL own t mc ms) {idx : Nat} {y : MethodName} {bytes : ByteArray} {maxL : Nat} {ret : Option FieldType} {nA t' mc' ms' : Nat} (hml : Cond.methodLink own idx y ∈ WT) (hm : Lk y bytes maxL ret nA) (ht : t' + 1 ≤ t) (hlo : 19 + maxL + 30 * t' ≤ 30 * t) :
    CallB (xR X) (xs X) (xa X) own idx y bytes maxL ret (wy y bytes maxL ret) (rmL t' mc' ms') mc' ms' nA := by
  have hts := hx.2.2.2.2.1
  have hR := hx.2.2.2.2.2.2.1
  refine callB_of nA hts (wy_in hm.1) rfl rfl rfl (hts _ hm.2.1) (hts _ hml) ⟨hm.2.2.1, hm.2.2.2.1, hm.2.2.2.2⟩ ?_
  rw [hR]
  exact ⟨ht, by show 8 + (maxL + 11) + 30 * t' ≤ 30 * t; omega⟩
/-- behind a call -/
theorem J_back (av : Array Value) {mc' ms' : Nat} {rest : List Value} {Ψ : Option Value → Gf → Nat → Prop}
    (hr : ∀ (H : Heap) (locs : List Loc) (lsA : Array Slot), Hp (xΓ X) G sz H → (∀ q ∈ locs, aA (xΓ X) q.base) → lvO lsA nL ls → va_Run (xp X) (xl X) (xe X) (xR X) (xs X) (xm X) (xa X) (xb X) (xM X) (xc X) H locs k n mc' ms' (F0 (xm X) pc lsA st) rest (QcO (xΓ X) Ψ av) (aA (xΓ X)))
    (kk : ∀ (r : Option Value) (G' : Gf) (sz' : Nat), Ψ r G' sz' → J X nL G' sz' (k + mc') (n + ms') (pc + 3) ls (r.toList ++ rest)) : J X nL G sz k n pc ls st := fun H locs lsA hH hlc hv2 => by
  intro T hT Xs
  obtain ⟨v, st₀, t, T', L, h0, X', hL, e1, e2, ⟨r, G', sz', hv, hΨ, hH'⟩, stp⟩ := hr H locs lsA hH hlc hv2 T hT Xs
  cases hv
  obtain ⟨t2, a1, b1⟩ := kk _ G' sz' hΨ T'.heap (locs ++ L) lsA (by rw [e1]; exact hH') (fun q hq => by
      rcases List.mem_append.mp hq with h | h
      · exact hlc q h
      · exact hL q h) hv2 T' rfl X'
  exact ⟨t2, stp t2 a1, b1⟩
theorem J_callV (hx : Fx X cc nL own t mc ms) {idx : Nat} {y : MethodName} {bytes : ByteArray} {maxL : Nat} {ret : Option FieldType} {nA t' mc' ms' b : Nat} {As rest : List Value} {Ψ : Option Value → Gf → Nat → Prop} {ci : Nat} {T : u_T} {N : Nat} {fs : List Value}
    (ct : Ct (xl X) (xΓ X) y bytes maxL ret t' (.ref b :: As) G sz Ψ mc' ms') (hml : Cond.methodLink own idx y ∈ WT) (hm : LkV y bytes maxL ret nA) (hC : vwCl[ci]? = some (y.cls, T, N)) (hG : G b = some (.inr (ci, fs)))
    (hst : st = As.reverse ++ .ref b :: rest) (hn : As.length = nA) (ht : t' + 1 ≤ t) (hlo : 19 + maxL + 30 * t' ≤ 30 * t) (hw : (rest.map fun v => v.category).sum ≤ 8) (hk : k + mc' ≤ mc) (hs : n + ms' ≤ ms) (hd : decode cc pc = .ok (.invokevirtual idx, 3))
    (kk : ∀ (r : Option Value) (G' : Gf) (sz' : Nat), Ψ r G' sz' → J X nL G' sz' (k + mc') (n + ms') (pc + 3) ls (r.toList ++ rest)) : J X nL G sz k n pc ls st := by
  have hts := hx.2.2.2.2.1
  have hK := hx.2.2.2.2.2.1
  have hR := hx.2.2.2.2.2.2.1
  refine J_back (Value.ref b :: As).toArray (fun H locs lsA hH hlc hv2 => ?_) kk
  refine va_runV (C := y.cls) (b := b) (As := As) (fix_of hx) ct ⟨callB_J hx hml hm.1 ht hlo, hts _ hm.2.1, hts _ hm.2.2⟩ ⟨Pc_blind, ?_, fun U hU hW => ⟨rfl, hK.warm hW, by rw [hU]; exact hH⟩⟩ rfl hn hv2.1 hst (by show 2 * 0 + _ ≤ 8; omega) hd (by rw [hR]; exact ⟨hk, hs⟩)
  obtain ⟨r, h1, cell, q1, q2, q3, -⟩ := (hH.2.2.2 b _ hG).1
  have hr : r = (y.cls, T, N) := Option.some.inj (h1.symm.trans hC)
  subst hr
  refine ⟨cell, q1, by rw [q3]; rfl, ?_⟩
  rw [q2]
  exact (hK.1.1 ci _ hC).2.1
theorem J_callS (hx : Fx X cc nL own t mc ms) {idx : Nat} {y : MethodName} {bytes : ByteArray} {maxL : Nat} {ret : Option FieldType} {nA t' mc' ms' : Nat} {As rest : List Value} {Ψ : Option Value → Gf → Nat → Prop}
    (ct : Ct (xl X) (xΓ X) y bytes maxL ret t' As G sz Ψ mc' ms') (hml : Cond.methodLink own idx y ∈ WT) (hm : LkS y bytes maxL ret nA)
    (hst : st = As.reverse ++ rest) (hn : As.length = nA) (ht : t' + 1 ≤ t) (hlo : 19 + maxL + 30 * t' ≤ 30 * t) (hw : (rest.map fun v => v.category).sum ≤ 8) (hk : k + mc' ≤ mc) (hs : n + ms' ≤ ms) (hd : decode cc pc = .ok (.invokestatic idx, 3))
    (kk : ∀ (r : Option Value) (G' : Gf) (sz' : Nat), Ψ r G' sz' → J X nL G' sz' (k + mc') (n + ms') (pc + 3) ls (r.toList ++ rest)) : J X nL G sz k n pc ls st := by
  have hts := hx.2.2.2.2.1
  have hK := hx.2.2.2.2.2.1
  have hR := hx.2.2.2.2.2.2.1
  refine J_back As.toArray (fun H locs lsA hH hlc hv2 => ?_) kk
  exact va_runS (As := As) (fix_of hx) ct ⟨callB_J hx hml hm.1 ht hlo, hts _ hm.2⟩ ⟨Pc_blind, fun U hU hW => ⟨rfl, hK.warm hW, by rw [hU]; exact hH⟩⟩ rfl hn hv2.1 hst (by show 2 * 0 + _ ≤ 8; omega) hd (by rw [hR]; exact ⟨hk, hs⟩)
theorem J_callI (hx : Fx X cc nL own t mc ms) {idx : Nat} {y : MethodName} {bytes : ByteArray} {maxL : Nat} {nA t' mc' ms' b : Nat} {As rest : List Value} {Ψ : Option Value → Gf → Nat → Prop}
    (ct : Ct (xl X) (xΓ X) y bytes maxL none t' (.ref b :: As) G sz Ψ mc' ms') (hml : Cond.methodLink own idx y ∈ WT) (hm : LkI y bytes maxL nA)
    (hst : st = As.reverse ++ .ref b :: rest) (hn : As.length = nA) (ht : t' + 1 ≤ t) (hlo : 19 + maxL + 30 * t' ≤ 30 * t) (hw : (rest.map fun v => v.category).sum ≤ 8) (hk : k + mc' ≤ mc) (hs : n + ms' ≤ ms) (hd : decode cc pc = .ok (.invokespecial idx, 3))
    (kk : ∀ (r : Option Value) (G' : Gf) (sz' : Nat), Ψ r G' sz' → J X nL G' sz' (k + mc') (n + ms') (pc + 3) ls (r.toList ++ rest)) : J X nL G sz k n pc ls st := by
  have hts := hx.2.2.2.2.1
  have hK := hx.2.2.2.2.2.1
  have hR := hx.2.2.2.2.2.2.1
  refine J_back (Value.ref b :: As).toArray (fun H locs lsA hH hlc hv2 => ?_) kk
  exact va_runI (b := b) (As := As) (fix_of hx) ct ⟨callB_J hx hml hm.1 ht hlo, hm.2.2, hts _ hm.2.1⟩ ⟨Pc_blind, fun U hU hW => ⟨rfl, hK.warm hW, by rw [hU]; exact hH⟩⟩ rfl hn hv2.1 hst (by show 2 * 0 + _ ≤ 8; omega) hd (by rw [hR]; exact ⟨hk, hs⟩)
theorem J_callIN (hx : Fx X cc nL own t mc ms) {idx : Nat} {y : MethodName} {bytes : ByteArray} {maxL : Nat} {nA t' mc' ms' b : Nat} {As rest : List Value} {Ψ : Option Value → Gf → Nat → Prop} {host : String}
    (ct : Ct (xl X) (xΓ X) y bytes maxL none t' (.ref b :: As) G sz Ψ mc' ms') (hnw : va_Nw (.methodLinkNest own idx y host) (xs X)) (hm : LkI y bytes maxL nA)
    (hst : st = As.reverse ++ .ref b :: rest) (hn : As.length = nA) (ht : t' + 1 ≤ t) (hlo : 19 + maxL + 30 * t' ≤ 30 * t) (hw : (rest.map fun v => v.category).sum ≤ 8) (hk : k + mc' ≤ mc) (hs : n + ms' ≤ ms) (hd : decode cc pc = .ok (.invokespecial idx, 3))
    (kk : ∀ (r : Option Value) (G' : Gf) (sz' : Nat), Ψ r G' sz' → J X nL G' sz' (k + mc') (n + ms') (pc + 3) ls (r.toList ++ rest)) : J X nL G sz k n pc ls st := by
  have hts := hx.2.2.2.2.1
  have hK := hx.2.2.2.2.2.1
  have hR := hx.2.2.2.2.2.2.1
  refine J_back (Value.ref b :: As).toArray (fun H locs lsA hH hlc hv2 => ?_) kk
  exact va_runIN (b := b) (As := As) (fix_of hx) ct ⟨va_cnB (ws' := WT) nA hts (wy_in hm.1.1) rfl rfl rfl hnw (hts _ hm.1.2.1) ⟨hm.1.2.2.1, hm.1.2.2.2.1, hm.1.2.2.2.2⟩ (by rw [hR]; exact ⟨ht, by show 8 + (maxL + 11) + 30 * t' ≤ 30 * t; omega⟩), hm.2.2, hts _ hm.2.1⟩ ⟨Pc_blind, fun U hU hW => ⟨rfl, hK.warm hW, by rw [hU]; exact hH⟩⟩ rfl hn hv2.1 hst (by show 2 * 0 + _ ≤ 8; omega) hd (by rw [hR]; exact ⟨hk, hs⟩)
end JC
/-- a contract of one that only reads -/
def RdΨ (v : Value) (G : Gf) (sz : Nat) : Option Value → Gf → Nat → Prop := fun r G' sz' => r = some v ∧ G' = G ∧ sz' = sz
abbrev CtR (l : Launch) (Γ : Gl) (y : MethodName) (cc : ByteArray) (nL : Nat) (ret : Option FieldType) (t : Nat) (av : List Value) (G : Gf) (sz : Nat) (v : Value) : Prop := Ct l Γ y cc nL ret t av G sz (RdΨ v G sz) 0 0
section JCR
variable {X : Cx} {cc : ByteArray} {nL : Nat} {own : String} {t mc ms : Nat} {G : Gf} {sz k n pc : Nat} {ls : List (Option Value)} {st : List Value}
theorem J_rdV (hx : Fx X cc nL own t mc ms) {idx : Nat} {y : MethodName} {bytes : ByteArray} {maxL : Nat} {ret : Option FieldType} {nA t' b : Nat} {As rest : List Value} {v : Value} {ci : Nat} {T : u_T} {N : Nat} {fs : List Value}
    (ct : CtR (xl X) (xΓ X) y bytes maxL ret t' (.ref b :: As) G sz v) (hml : Cond.methodLink own idx y ∈ WT) (hm : LkV y bytes maxL ret nA) (hC : vwCl[ci]? = some (y.cls, T, N)) (hG : G b = some (.inr (ci, fs)))
    (hst : st = As.reverse ++ .ref b :: rest) (hn : As.length = nA) (ht : t' + 1 ≤ t) (hlo : 19 + maxL + 30 * t' ≤ 30 * t) (hw : (rest.map fun v => v.category).sum ≤ 8) (hk : k ≤ mc) (hs : n ≤ ms) (hd : decode cc pc = .ok (.invokevirtual idx, 3))
    (kk : J X nL G sz k n (pc + 3) ls (v :: rest)) : J X nL G sz k n pc ls st :=
  J_callV hx ct hml hm hC hG hst hn ht hlo hw hk hs hd (fun r G' sz' h => by obtain ⟨rfl, rfl, rfl⟩ := h; exact kk)
theorem J_rdS (hx : Fx X cc nL own t mc ms) {idx : Nat} {y : MethodName} {bytes : ByteArray} {maxL : Nat} {ret : Option FieldType} {nA t' : Nat} {As rest : List Value} {v : Value}
    (ct : CtR (xl X) (xΓ X) y bytes maxL ret t' As G sz v) (hml : Cond.methodLink own idx y ∈ WT) (hm : LkS y bytes maxL ret nA)
    (hst : st = As.reverse ++ rest) (hn : As.length = nA) (ht : t' + 1 ≤ t) (hlo : 19 + maxL + 30 * t' ≤ 30 * t) (hw : (rest.map fun v => v.category).sum ≤ 8) (hk : k ≤ mc) (hs : n ≤ ms) (hd : decode cc pc = .ok (.invokestatic idx, 3))
    (kk : J X nL G sz k n (pc + 3) ls (v :: rest)) : J X nL G sz k n pc ls st :=
  J_callS hx ct hml hm hst hn ht hlo hw hk hs hd (fun r G' sz' h => by obtain ⟨rfl, rfl, rfl⟩ := h; exact kk)
/-- an end of one that only reads -/
theorem J_iretR (hx : Fx X cc nL own t mc ms) {v w : Int32} (hr : Rt X (some .int) mc ms (RdΨ (.int w) G sz)) (hd : decode cc pc = .ok (.ireturn, 1)) (hk : k ≤ mc) (hn : n ≤ ms) (e : v = w) : J X nL G sz k n pc ls [.int v] :=
  J_iret hx hr hd hk hn ⟨by rw [e], rfl, rfl⟩
/-- a truth as an int -/
def bI (b : Bool) : Int32 := if b = true then 1 else 0
theorem bI_nar (b : Bool) : narrow .boolean (.int (bI b)) = .int (bI b) := by cases b <;> rfl
theorem bI0 {b : Bool} : bI b = 0 ↔ b = false := by cases b <;> decide
theorem bI1 {b : Bool} : ¬ bI b = 0 ↔ b = true := by cases b <;> decide
theorem bI_t : bI true = 1 := rfl
theorem bI_f : bI false = 0 := rfl
theorem bI_d (p : Prop) [Decidable p] : bI (decide p) = if p then 1 else 0 := by unfold bI; by_cases h : p <;> simp [h]
theorem J_zretR (hx : Fx X cc nL own t mc ms) {v : Int32} {b : Bool} (hr : Rt X (some .boolean) mc ms (RdΨ (.int (bI b)) G sz)) (hd : decode cc pc = .ok (.ireturn, 1)) (hk : k ≤ mc) (hn : n ≤ ms) (e : v = bI b) : J X nL G sz k n pc ls [.int v] := by
  subst e
  exact J_zret hx hr hd (bI_nar b) hk hn ⟨rfl, rfl, rfl⟩
theorem J_bif_eq (hx : Fx X cc nL own t mc ms) {b : Bool} {off : Int} (tgt : Nat) (hd : decode cc pc = .ok (.ifCond .eq off, 3)) (ht : (pc : Int) + off = (tgt : Int)) (kt : b = false → J X nL G sz k n tgt ls st) (kf : b = true → J X nL G sz k n (pc + 3) ls st) : J X nL G sz k n pc ls (.int (bI b) :: st) :=
  J_if_eq hx tgt hd ht (fun h => kt (bI0.mp h)) (fun h => kf (bI1.mp h))
theorem J_bif_ne (hx : Fx X cc nL own t mc ms) {b : Bool} {off : Int} (tgt : Nat) (hd : decode cc pc = .ok (.ifCond .ne off, 3)) (ht : (pc : Int) + off = (tgt : Int)) (kt : b = true → J X nL G sz k n tgt ls st) (kf : b = false → J X nL G sz k n (pc + 3) ls st) : J X nL G sz k n pc ls (.int (bI b) :: st) :=
  J_if_ne hx tgt hd ht (fun h => kt (bI1.mp h)) (fun h => kf (bI0.mp h))
/-- a value told otherwise -/
theorem J_val {v w : Int32} (e : v = w) (kk : J X nL G sz k n pc ls (.int w :: st)) : J X nL G sz k n pc ls (.int v :: st) := by rw [e]; exact kk
end JCR
