/-! THE LAW'S WRAPPERS: methods with a table of handlers. Written by wip/p34/lawgen.py -/
def wyW (y : MethodName) (cc : ByteArray) (nL : Nat) (ret : Option FieldType) (hh : List (Nat × Nat × Nat × Nat)) : List Cond := .codeWith y cc nL ret hh :: WT
def CtL (l : Launch) (Γ : Gl) (y : MethodName) (cc : ByteArray) (nL : Nat) (ret : Option FieldType) (hh : List (Nat × Nat × Nat × Nat)) (t : Nat) (av : List Value) (G : Gf) (sz : Nat) (Ψ : Option Value → Gf → Nat → Prop) (mc ms : Nat) : Prop :=
  Met l y (wyW y cc nL ret hh) (rmL t mc ms) (va_Pc av (fun U => KV Γ U ∧ Hp Γ G sz U.heap)) (QcO Γ Ψ) mc ms (aA Γ)
theorem CtL.of {l : Launch} {Γ : Gl} {y : MethodName} {cc : ByteArray} {nL : Nat} {ret : Option FieldType} {hh : List (Nat × Nat × Nat × Nat)} {t : Nat} {av : List Value} {G : Gf} {sz : Nat} {Ψ : Option Value → Gf → Nat → Prop} {mc ms : Nat} (hy : plainName y.cls = true) (hlen : (lg_sl av).length ≤ nL)
    (body : ∀ X : Cx, Fx X cc nL y.cls t mc ms → Rt X ret mc ms Ψ → (xc X).exceptionTable.toList = tableOf hh → xl X = l → xΓ X = Γ → J X nL G sz 0 0 0 (initO av nL) []) : CtL l Γ y cc nL ret hh t av G sz Ψ mc ms := by
  refine va_MetW (cc := cc) (maxL := nL) (ret := ret) (hh := hh) hy rfl ?_
  intro p e s m args below meth c s₁ B hml hv
  obtain ⟨rfl, hK, hH⟩ := hv
  have hts := atoms_spec (ws := wyW y cc nL ret hh) B.pre
  have htab := vx_table (x := y) B (hts _ List.mem_cons_self)
  have hown : s.vm.findClass y.cls = some m.cls := findClass_of_methodNamed B.named
  have hl := lv_entry av (n := nL) hlen
  have key := body (p, l, e, rmL t mc ms, s, m, av.toArray, below, meth, c, MQ below (QcO Γ Ψ) av.toArray s mc ms (aA Γ), Γ) ⟨B.exec, B.bytes, hml, hown, (fun w hw => hts w (List.mem_cons_of_mem _ hw)), hK, rfl, B.notSynchronized⟩ ⟨B.returns, fun H locs g h => h⟩ htab rfl rfl s.heap [] _ hH (fun q hq => nomatch hq) ⟨hl.1, hl.2.1, fun i v h => hl.2.2 (i, v) (by have := initO_get av nL i 0 v h; rwa [Nat.zero_add] at this)⟩
  rw [lg_entry_eq]
  exact key
section JL
variable {X : Cx} {cc : ByteArray} {nL : Nat} {own : String} {t mc ms : Nat} {G : Gf} {sz k n pc : Nat} {ls : List (Option Value)} {st : List Value} {B : Bs} {w : Wl}
theorem J_callVX (hx : Fx X cc nL own t mc ms) {hh : List (Nat × Nat × Nat × Nat)} (htb : (xc X).exceptionTable.toList = tableOf hh) {idx : Nat} {y : MethodName} {bytes : ByteArray} {maxL : Nat} {ret : Option FieldType} {nA t' mc' ms' b : Nat} {As rest : List Value} {Ψ' : Option Value → Gf → Nat → Prop} {EX' : String → Prop} {ci : Nat} {T : u_T} {N : Nat} {fs : List Value}
    (ct : CtX (xl X) (xΓ X) y bytes maxL ret t' (.ref b :: As) G sz Ψ' EX' mc' ms') (hml : Cond.methodLink own idx y ∈ WT) (hm : LkV y bytes maxL ret nA) (hC : vwCl[ci]? = some (y.cls, T, N)) (hG : G b = some (.inr (ci, fs)))
    (hst : st = As.reverse ++ .ref b :: rest) (hn : As.length = nA) (ht : t' + 1 ≤ t) (hlo : 19 + maxL + 30 * t' ≤ 30 * t) (hw : (rest.map fun v => v.category).sum ≤ 8) (hk : k + mc' ≤ mc) (hs : n + ms' ≤ ms) (hd : decode cc pc = .ok (.invokevirtual idx, 3))
    (kk : ∀ (r : Option Value) (G' : Gf) (sz' : Nat), Ψ' r G' sz' → J X nL G' sz' (k + mc') (n + ms') (pc + 3) ls (r.toList ++ rest))
    (kx : ∀ (E : String) (q sz' : Nat), EX' E → ∃ (pre : List ExceptionTableEntry) (x : ExceptionTableEntry) (suf : List ExceptionTableEntry), tableOf hh = pre ++ x :: suf ∧ (∀ z ∈ pre, z.catchType ≠ 0 ∧ ∃ nm : String, Cond.classLink own z.catchType nm ∈ WT ∧ va_Nc E nm (xs X)) ∧ covers x pc = true ∧ x.catchType ≠ 0 ∧ Cond.classLink own x.catchType E ∈ WT ∧ va_Nw (.castable E E) (xs X) ∧ J X nL G sz' (k + mc') (n + ms') x.handlerPc ls [.ref q]) : J X nL G sz k n pc ls st := fun H locs lsA hH hlc hv2 => by
  have hts := hx.2.2.2.2.1
  have hK := hx.2.2.2.2.2.1
  have hR := hx.2.2.2.2.2.2.1
  obtain ⟨r9, h1, cell, q1, q2, q3, -⟩ := (hH.2.2.2 b _ hG).1
  have hr9 : r9 = (y.cls, T, N) := Option.some.inj (h1.symm.trans hC)
  subst hr9
  intro T hT Xs
  rcases vx_runV (C := y.cls) (b := b) (As := As) (fix_of hx) ct ⟨callB_J hx hml hm.1 ht hlo, hts _ hm.2.1, hts _ hm.2.2⟩ ⟨Pc_blind, ⟨cell, q1, by rw [q3]; rfl, by rw [q2]; exact (hK.1.1 ci _ hC).2.1⟩, fun U hU hW => ⟨rfl, hK.warm hW, by rw [hU]; exact hH⟩⟩ (H := H) (locs := locs) (cells := k) (slots := n) (g := F0 (xm X) pc lsA st) rfl hn hv2.1 hst (by show 2 * 0 + _ ≤ 8; omega) hd (by rw [hR]; exact ⟨hk, hs⟩) T hT Xs with ⟨v, st₀, U, T', L, h0, X', hL, e1, e2, ⟨r, G', sz', hv, hΨ, hH'⟩, stp⟩ | ⟨q, st₀, U, T', L, E, ce, h0, X', hL, e1, e2, ⟨hE, sz', hH'⟩, hce, hcv, hcl, stp⟩
  · cases hv
    obtain ⟨t2, a1, b1⟩ := kk _ G' sz' hΨ T'.heap (locs ++ L) lsA (by rw [e1]; exact hH') (fun q hq => by
      rcases List.mem_append.mp hq with h | h
      · exact hlc q h
      · exact hL q h) hv2 T' rfl X'
    exact ⟨t2, stp t2 a1, b1⟩
  · obtain ⟨pre, x, suf, hsp, hpass, hcov, h0', hlk, hca, hj⟩ := kx E q sz' hE
    have := vx_catch (Q := xQ X) (pc := pc) (ls := lsA) (rest := rest) (E := E) (ce := ce) (q := q) (H := T'.heap) (locs := locs ++ L) (cells := k + mc') (slots := n + ms') (p := xp X) (l := xl X) (e := xe X) (R := xR X) (s := xs X) (m := xm X) (args := xa X) (below := xb X) (meth := xM X) (c := xc X) hx.2.2.2.1 pre x suf (htb.trans hsp) (fun z hz => Or.inr ⟨(hpass z hz).1, (hpass z hz).2.choose, hts _ (hpass z hz).2.choose_spec.1, (hpass z hz).2.choose_spec.2⟩) hcov h0' (hts _ hlk) (va_Nw.use rfl hca) (by rw [e1]; exact hce) hcv hcl (hj T'.heap (locs ++ L) lsA (by rw [e1]; exact hH') (fun z hz => by
      rcases List.mem_append.mp hz with h | h
      · exact hlc z h
      · exact hL z h) hv2)
    obtain ⟨t2, a1, b1⟩ := this T' rfl X'
    exact ⟨t2, stp.trans a1, b1⟩
end JL
theorem GoodIn_wyW {own : String} {idx : Nat} {y : MethodName} {cc : ByteArray} {nL : Nat} {ret : Option FieldType} {hh : List (Nat × Nat × Nat × Nat)} (h : Cond.codeWith y cc nL ret hh ∈ WT) (h1 : Cond.methodLink own idx y ∈ WT) (h2 : Cond.static y ∈ WT) (h3 : Cond.initialized y.cls ∈ WT) : GoodIn WT (va_wsS own idx y (wyW y cc nL ret hh)) := fun w hw => by
  have : w ∈ WT := by
    unfold va_wsS wyW at hw
    rcases List.mem_append.mp hw with e | e
    · rcases List.mem_cons.mp e with e | e
      · rw [e]; exact h1
      rcases List.mem_cons.mp e with e | e
      · rw [e]; exact h2
      rcases List.mem_cons.mp e with e | e
      · rw [e]; exact h3
      · cases e
    · rcases List.mem_cons.mp e with e | e
      · rw [e]; exact h
      · exact e
  exact ⟨this, WT_good this⟩
section JLL
variable {X : Cx} {cc : ByteArray} {nL : Nat} {own : String} {t mc ms : Nat} {G : Gf} {sz k n pc : Nat} {ls : List (Option Value)} {st : List Value}
theorem J_callSW (hx : Fx X cc nL own t mc ms) {idx : Nat} {y : MethodName} {bytes : ByteArray} {maxL : Nat} {ret : Option FieldType} {hh : List (Nat × Nat × Nat × Nat)} {nA t' mc' ms' : Nat} {As rest : List Value} {Ψ : Option Value → Gf → Nat → Prop}
    (ct : CtL (xl X) (xΓ X) y bytes maxL ret hh t' As G sz Ψ mc' ms') (hml : Cond.methodLink own idx y ∈ WT) (hcw : Cond.codeWith y bytes maxL ret hh ∈ WT) (hsta : Cond.static y ∈ WT) (hini : Cond.initialized y.cls ∈ WT) (hy : y.cls ≠ "java/lang/invoke/MethodHandle" ∧ y.cls ≠ "java/lang/invoke/VarHandle" ∧ (parseMethodDescriptor y.desc).map (fun d => d.parameters.length) = some nA)
    (hst : st = As.reverse ++ rest) (hn : As.length = nA) (ht : t' + 1 ≤ t) (hlo : 19 + maxL + 30 * t' ≤ 30 * t) (hw : (rest.map fun v => v.category).sum ≤ 8) (hk : k + mc' ≤ mc) (hs : n + ms' ≤ ms) (hd : decode cc pc = .ok (.invokestatic idx, 3))
    (kk : ∀ (r : Option Value) (G' : Gf) (sz' : Nat), Ψ r G' sz' → J X nL G' sz' (k + mc') (n + ms') (pc + 3) ls (r.toList ++ rest)) : J X nL G sz k n pc ls st := by
  have hts := hx.2.2.2.2.1
  have hK := hx.2.2.2.2.2.1
  have hR := hx.2.2.2.2.2.2.1
  refine J_back As.toArray (fun H locs lsA hH hlc hv2 => ?_) kk
  exact vx_runSW (As := As) (fix_of hx) ct (vx_cwSW (ws' := WT) nA hts (GoodIn_wyW hcw hml hsta hini) rfl rfl rfl hy (by rw [hR]; exact ⟨ht, by show 8 + (maxL + 11) + 30 * t' ≤ 30 * t; omega⟩)) ⟨Pc_blind, fun U hU hW => ⟨rfl, hK.warm hW, by rw [hU]; exact hH⟩⟩ rfl hn hv2.1 hst (by show 2 * 0 + _ ≤ 8; omega) hd (by rw [hR]; exact ⟨hk, hs⟩)
end JLL
theorem room_less {s : State} {pl : Platform} {r r' : Room} (hf : r.frames ≤ r'.frames) (hl : r.locals ≤ r'.locals) (hc : r.cells ≤ r'.cells) (hs : r.slots ≤ r'.slots) (h : s.hasRoom pl r' = true) : s.hasRoom pl r = true := by
  simp only [State.hasRoom, Bool.and_eq_true, decide_eq_true_eq] at h ⊢
  obtain ⟨⟨⟨⟨h1, h2, h3, h4, h5, h6⟩, h7⟩, h8⟩, h9⟩ := h
  exact ⟨⟨⟨⟨by omega, by omega, by omega, by omega, by omega, h6⟩, by omega⟩, by omega⟩, h9⟩
theorem W_room {p : Program} {l : Launch} {e : Env} {R R' : Room} {s : State} {m : MethodId} {args : Array Value} {below : List Frame} {meth : Method} {c : Code} {H : Heap} {locs : List Loc} {cells slots : Nat} {Q : State → Prop} {g : JFrame} (hf : R'.frames ≤ R.frames) (hl : R'.locals ≤ R.locals) (hc : R'.cells ≤ R.cells) (hs : R'.slots ≤ R.slots) (h : W p l e R' s m args below meth c H locs cells slots Q g) : W p l e R s m args below meth c H locs cells slots Q g := fun T hT Xs =>
  h T hT { Xs with room := room_less hf hl hc hs Xs.room }
/-- what a wrapper makes of an answer or a throw -/
def lwW (c1 c2 c3 : Option Int32) (w : Wl) : Sum Int32 (Int32 × Wl) → Option (Int32 × Wl)
  | .inl k => if k = 1 then c1.map (fun c => (c, w)) else if k = 2 then c2.map (fun c => (c, w)) else if k = 3 then c3.map (fun c => (c, w)) else none
  | .inr p => some p
def lwR (c1 c2 c3 : Option Int32) (w : Wl) : Sum Int32 Int32 → Option (Int32 × Wl)
  | .inl k => if k = 1 then c1.map (fun c => (c, w)) else if k = 2 then c2.map (fun c => (c, w)) else if k = 3 then c3.map (fun c => (c, w)) else none
  | .inr p => some (p, w)
/-- an answer without a throw -/
def okS {β : Type} : Option (Sum Int32 β) → Option β
  | some (.inr v) => some v
  | _ => none
theorem okS_e {β : Type} {x : Option (Sum Int32 β)} {v : β} (h : okS x = some v) : x = some (.inr v) := by
  match x, h with
  | some (.inr u), h => cases (show some u = some v from h); rfl
theorem tiw_o {β : Type} {x : Int32} {A : Option (Sum Int32 β)} {v : β} (h : tiw x A = some (.inr v)) : tiF x ∧ A = some (.inr v) := by
  unfold tiw at h
  by_cases h1 : x = 1
  · rw [if_pos h1] at h; cases h
  rw [if_neg h1] at h
  by_cases h2 : x = 2
  · rw [if_pos h2] at h; cases h
  rw [if_neg h2] at h
  by_cases h3 : x = 3
  · rw [if_pos h3] at h; cases h
  rw [if_neg h3] at h
  exact ⟨⟨h1, h2, h3⟩, h⟩
/-- behind one that changes the world and may have made an exception -/
def WX (Γ : Gl) (B : Bs) (v : Option Value) (w : Wl) : Option Value → Gf → Nat → Prop := fun r G' _ => r = v ∧ Wd Γ B w G'
theorem kO_throwIfWrong {l : Launch} {Γ : Gl} {G : Gf} {sz : Nat} {l0 : Int32} (hh : tiF l0) : Ct l Γ yX12_throwIfWrong cX12_throwIfWrong 1 none 6 [.int l0] G sz (fun r G' sz' => r = none ∧ G' = G ∧ sz' = sz) 0 0 := by
  refine Ct.of rfl (Nat.le_of_ble_eq_true rfl) fun X hx hr hl hΓ hnm => ?_
  subst hl hΓ
  show J X 1 G sz 0 0 0 [some (.int l0)] []
  refine J_il4 hx rfl rfl dX12_throwIfWrong_0 ?_
  refine J_iconst hx (1 : Int32) dX12_throwIfWrong_1 rfl ?_
  refine J_icmp_ne hx 16 dX12_throwIfWrong_2 rfl (fun h1 => ?_) (fun h1 => absurd h1 hh.1)
  refine J_il4 hx rfl rfl dX12_throwIfWrong_16 ?_
  refine J_iconst hx (2 : Int32) dX12_throwIfWrong_17 rfl ?_
  refine J_icmp_ne hx 32 dX12_throwIfWrong_18 rfl (fun h2 => ?_) (fun h2 => absurd h2 hh.2.1)
  refine J_il4 hx rfl rfl dX12_throwIfWrong_32 ?_
  refine J_iconst hx (3 : Int32) dX12_throwIfWrong_33 rfl ?_
  refine J_icmp_ne hx 48 dX12_throwIfWrong_34 rfl (fun h3 => ?_) (fun h3 => absurd h3 hh.2.2)
  exact J_vret hx hr dX12_throwIfWrong_48 (Nat.zero_le _) (Nat.zero_le _) ⟨rfl, rfl, rfl⟩
section JLM
variable {X : Cx} {cc : ByteArray} {nL : Nat} {own : String} {t mc ms : Nat} {G : Gf} {sz k n pc : Nat} {ls : List (Option Value)} {st : List Value} {B : Bs} {w : Wl}
theorem J_wide {k' n' : Nat} (hk : k ≤ k') (hn : n ≤ n') (kk : J X nL G sz k' n' pc ls st) : J X nL G sz k n pc ls st :=
  fun H locs lsA hH hl hv2 => W.widen hk hn (kk H locs lsA hH hl hv2)
theorem J_ishl (hx : Fx X cc nL own t mc ms) {x y : Int32} (hd : decode cc pc = .ok (.ishl, 1)) (kk : J X nL G sz k n (pc + 1) ls (.int (x <<< (y &&& 31)) :: st)) : J X nL G sz k n pc ls (.int y :: .int x :: st) :=
  fun H locs lsA hH hl hv2 => lv_ishl hx.1 hx.2.1 hd (kk H locs lsA hH hl hv2)
theorem J_zretX (hx : Fx X cc nL own t mc ms) {b : Bool} (hr : Rt X (some .boolean) mc ms (WX (xΓ X) B (some (.int (bI b))) w)) (hW : Wd (xΓ X) B w G) (hd : decode cc pc = .ok (.ireturn, 1)) (hk : k ≤ mc) (hn : n ≤ ms) : J X nL G sz k n pc ls [.int (bI b)] :=
  J_zret hx hr hd (bI_nar b) hk hn ⟨rfl, hW⟩
theorem J_rdL (hx : Fx X cc nL own t mc ms) {idx : Nat} {y : MethodName} {bytes : ByteArray} {maxL : Nat} {ret : Option FieldType} {hh : List (Nat × Nat × Nat × Nat)} {nA t' : Nat} {As rest : List Value} {v : Value}
    (ct : CtL (xl X) (xΓ X) y bytes maxL ret hh t' As G sz (RdΨ v G sz) 0 0) (hml : Cond.methodLink own idx y ∈ WT) (hcw : Cond.codeWith y bytes maxL ret hh ∈ WT) (hsta : Cond.static y ∈ WT) (hini : Cond.initialized y.cls ∈ WT) (hy : y.cls ≠ "java/lang/invoke/MethodHandle" ∧ y.cls ≠ "java/lang/invoke/VarHandle" ∧ (parseMethodDescriptor y.desc).map (fun d => d.parameters.length) = some nA)
    (hst : st = As.reverse ++ rest) (hn : As.length = nA) (ht : t' + 1 ≤ t) (hlo : 19 + maxL + 30 * t' ≤ 30 * t) (hw : (rest.map fun v => v.category).sum ≤ 8) (hk : k ≤ mc) (hs : n ≤ ms) (hd : decode cc pc = .ok (.invokestatic idx, 3))
    (kk : J X nL G sz k n (pc + 3) ls (v :: rest)) : J X nL G sz k n pc ls st :=
  J_callSW hx ct hml hcw hsta hini hy hst hn ht hlo hw hk hs hd (fun r G' sz' h => by obtain ⟨rfl, rfl, rfl⟩ := h; exact kk)
theorem J_wrL (hx : Fx X cc nL own t mc ms) {idx : Nat} {y : MethodName} {bytes : ByteArray} {maxL : Nat} {ret : Option FieldType} {hh : List (Nat × Nat × Nat × Nat)} {nA t' : Nat} {As rest : List Value} {v : Option Value} {w' : Wl}
    (ct : CtL (xl X) (xΓ X) y bytes maxL ret hh t' As G sz (WΨ (xΓ X) B v w' sz) 0 0) (hml : Cond.methodLink own idx y ∈ WT) (hcw : Cond.codeWith y bytes maxL ret hh ∈ WT) (hsta : Cond.static y ∈ WT) (hini : Cond.initialized y.cls ∈ WT) (hy : y.cls ≠ "java/lang/invoke/MethodHandle" ∧ y.cls ≠ "java/lang/invoke/VarHandle" ∧ (parseMethodDescriptor y.desc).map (fun d => d.parameters.length) = some nA)
    (hst : st = As.reverse ++ rest) (hn : As.length = nA) (ht : t' + 1 ≤ t) (hlo : 19 + maxL + 30 * t' ≤ 30 * t) (hw : (rest.map fun v => v.category).sum ≤ 8) (hk : k ≤ mc) (hs : n ≤ ms) (hd : decode cc pc = .ok (.invokestatic idx, 3))
    (kk : ∀ G', Wd (xΓ X) B w' G' → J X nL G' sz k n (pc + 3) ls (v.toList ++ rest)) : J X nL G sz k n pc ls st :=
  J_callSW hx ct hml hcw hsta hini hy hst hn ht hlo hw hk hs hd (fun r G' sz' h => by obtain ⟨rfl, hW, rfl⟩ := h; exact kk G' hW)
end JLM
theorem kO_addVenue {l : Launch} {Γ : Gl} {B : Bs} {w : Wl} {G : Gf} {sz : Nat} {l1 : Int32} {l2 : Int32} {l3 : Int32} {l4 : Int32} {r : Int32 × Wl} (hC : GC Γ B) (hW : Wd Γ B w G) (h : sX12_addVenue w l1 l2 l3 l4 = some (Sum.inr r)) : CtW l Γ yX12_addVenue cX12_addVenue 5 (some .int) 7 [.ref (B.1 + 0), .int l1, .int l2, .int l3, .int l4] G sz B (some (.int r.1)) r.2 := by
  refine Ct.of rfl (Nat.le_of_ble_eq_true rfl) fun X hx hr hl hΓ hnm => ?_
  subst hl hΓ
  show J X 5 G sz 0 0 0 [some (.ref (B.1 + 0)), some (.int l1), some (.int l2), some (.int l3), some (.int l4)] []
  unfold sX12_addVenue at h
  refine J_al4 hx rfl rfl dX12_addVenue_0 ?_
  refine g12_1 hx hW 73 (rfl : kd 0 = 1) fl_X12_21 rfl dX12_addVenue_1 ?_
  refine J_il4 hx rfl rfl dX12_addVenue_4 ?_
  refine J_il4 hx rfl rfl dX12_addVenue_5 ?_
  refine J_il4 hx rfl rfl dX12_addVenue_6 ?_
  refine J_il hx rfl dX12_addVenue_7 ?_
  obtain ⟨r1, hr2, h⟩ := bnd h
  refine J_rdV hx (kX1_ofNewVenue  hW hr2) ml_X12_62 lk_X1_ofNewVenue (ci := 0) rfl (hW.obj (rfl : kd 73 = 11) (by decide) (by decide)) (rest := []) rfl rfl (by decide) (by decide) (Nat.le_of_ble_eq_true rfl) (Nat.le_refl 0) (Nat.le_refl 0) dX12_addVenue_9 ?_
  obtain ⟨hti, h⟩ := tiw_o h
  refine J_callS hx (kO_throwIfWrong hti) ml_X12_66 lk_X12_throwIfWrong (rest := []) rfl rfl (by decide) (by decide) (Nat.le_of_ble_eq_true rfl) (Nat.le_refl 0) (Nat.le_refl 0) dX12_addVenue_12 fun r1 G1 sz1 hh => ?_
  obtain ⟨rfl, hG0, hz0⟩ := hh
  rw [hG0, hz0]
  show J X 5 _ _ 0 0 15 [some (.ref (B.1 + 0)), some (.int l1), some (.int l2), some (.int l3), some (.int l4)] []
  refine J_al4 hx rfl rfl dX12_addVenue_15 ?_
  refine g12_5 hx hW 78 (rfl : kd 0 = 1) fl_X12_51 rfl dX12_addVenue_16 ?_
  refine J_al4 hx rfl rfl dX12_addVenue_19 ?_
  refine g12_0 hx hW 1 (rfl : kd 0 = 1) fl_X12_10 rfl dX12_addVenue_20 ?_
  obtain ⟨r3, hr4, h⟩ := bnd h
  refine J_wrV hx (kX7_keep (rfl : kd 1 = 2) hW hr4) ml_X12_70 lk_X7_keep (ci := 6) rfl (hW.obj (rfl : kd 78 = 15) (by decide) (by decide)) (rest := []) rfl rfl (by decide) (by decide) (Nat.le_of_ble_eq_true rfl) (Nat.le_refl 0) (Nat.le_refl 0) dX12_addVenue_23 fun G5 hW6 => ?_
  show J X 5 G5 sz 0 0 26 [some (.ref (B.1 + 0)), some (.int l1), some (.int l2), some (.int l3), some (.int l4)] []
  refine J_al4 hx rfl rfl dX12_addVenue_26 ?_
  refine g12_2 hx hW6 74 (rfl : kd 0 = 1) fl_X12_28 rfl dX12_addVenue_27 ?_
  refine J_il4 hx rfl rfl dX12_addVenue_30 ?_
  refine J_il4 hx rfl rfl dX12_addVenue_31 ?_
  refine J_il4 hx rfl rfl dX12_addVenue_32 ?_
  refine J_il hx rfl dX12_addVenue_33 ?_
  obtain ⟨r7, hr8, h⟩ := bnd h
  refine J_wrV hx (kX4_makeVenue  hW6 hr8) ml_X12_73 lk_X4_makeVenue (ci := 3) rfl (hW6.obj (rfl : kd 74 = 12) (by decide) (by decide)) (rest := []) rfl rfl (by decide) (by decide) (Nat.le_of_ble_eq_true rfl) (Nat.le_refl 0) (Nat.le_refl 0) dX12_addVenue_35 fun G9 hW10 => ?_
  show J X 5 G9 sz 0 0 38 [some (.ref (B.1 + 0)), some (.int l1), some (.int l2), some (.int l3), some (.int l4)] [.int r7.1]
  obtain rfl := Sum.inr.inj (Option.some.inj h)
  exact J_iretW hx hr hW10 dX12_addVenue_38 (Nat.le_refl 0) (Nat.le_refl 0)
theorem kO_setClimate {l : Launch} {Γ : Gl} {B : Bs} {w : Wl} {G : Gf} {sz : Nat} {l1 : Int32} {l2 : Int32} {l3 : Int32} {r : Int32 × Wl} (hC : GC Γ B) (hW : Wd Γ B w G) (h : sX12_setClimate w l1 l2 l3 = some (Sum.inr r)) : CtW l Γ yX12_setClimate cX12_setClimate 4 (some .int) 7 [.ref (B.1 + 0), .int l1, .int l2, .int l3] G sz B (some (.int r.1)) r.2 := by
  refine Ct.of rfl (Nat.le_of_ble_eq_true rfl) fun X hx hr hl hΓ hnm => ?_
  subst hl hΓ
  show J X 4 G sz 0 0 0 [some (.ref (B.1 + 0)), some (.int l1), some (.int l2), some (.int l3)] []
  unfold sX12_setClimate at h
  refine J_al4 hx rfl rfl dX12_setClimate_0 ?_
  refine g12_1 hx hW 73 (rfl : kd 0 = 1) fl_X12_21 rfl dX12_setClimate_1 ?_
  refine J_il4 hx rfl rfl dX12_setClimate_4 ?_
  refine J_il4 hx rfl rfl dX12_setClimate_5 ?_
  refine J_il4 hx rfl rfl dX12_setClimate_6 ?_
  obtain ⟨r1, hr2, h⟩ := bnd h
  refine J_rdV hx (kX1_ofClimate  hW hr2) ml_X12_76 lk_X1_ofClimate (ci := 0) rfl (hW.obj (rfl : kd 73 = 11) (by decide) (by decide)) (rest := []) rfl rfl (by decide) (by decide) (Nat.le_of_ble_eq_true rfl) (Nat.le_refl 0) (Nat.le_refl 0) dX12_setClimate_7 ?_
  obtain ⟨hti, h⟩ := tiw_o h
  refine J_callS hx (kO_throwIfWrong hti) ml_X12_66 lk_X12_throwIfWrong (rest := []) rfl rfl (by decide) (by decide) (Nat.le_of_ble_eq_true rfl) (Nat.le_refl 0) (Nat.le_refl 0) dX12_setClimate_10 fun r1 G1 sz1 hh => ?_
  obtain ⟨rfl, hG0, hz0⟩ := hh
  rw [hG0, hz0]
  show J X 4 _ _ 0 0 13 [some (.ref (B.1 + 0)), some (.int l1), some (.int l2), some (.int l3)] []
  refine J_al4 hx rfl rfl dX12_setClimate_13 ?_
  refine g12_5 hx hW 78 (rfl : kd 0 = 1) fl_X12_51 rfl dX12_setClimate_14 ?_
  refine J_al4 hx rfl rfl dX12_setClimate_17 ?_
  refine g12_0 hx hW 1 (rfl : kd 0 = 1) fl_X12_10 rfl dX12_setClimate_18 ?_
  obtain ⟨r3, hr4, h⟩ := bnd h
  refine J_wrV hx (kX7_keep (rfl : kd 1 = 2) hW hr4) ml_X12_70 lk_X7_keep (ci := 6) rfl (hW.obj (rfl : kd 78 = 15) (by decide) (by decide)) (rest := []) rfl rfl (by decide) (by decide) (Nat.le_of_ble_eq_true rfl) (Nat.le_refl 0) (Nat.le_refl 0) dX12_setClimate_21 fun G5 hW6 => ?_
  show J X 4 G5 sz 0 0 24 [some (.ref (B.1 + 0)), some (.int l1), some (.int l2), some (.int l3)] []
  refine J_al4 hx rfl rfl dX12_setClimate_24 ?_
  refine g12_2 hx hW6 74 (rfl : kd 0 = 1) fl_X12_28 rfl dX12_setClimate_25 ?_
  refine J_il4 hx rfl rfl dX12_setClimate_28 ?_
  refine J_il4 hx rfl rfl dX12_setClimate_29 ?_
  refine J_il4 hx rfl rfl dX12_setClimate_30 ?_
  obtain ⟨r7, hr8, h⟩ := bnd h
  refine J_wrV hx (kX4_changeClimate  hW6 hr8) ml_X12_80 lk_X4_changeClimate (ci := 3) rfl (hW6.obj (rfl : kd 74 = 12) (by decide) (by decide)) (rest := []) rfl rfl (by decide) (by decide) (Nat.le_of_ble_eq_true rfl) (Nat.le_refl 0) (Nat.le_refl 0) dX12_setClimate_31 fun G9 hW10 => ?_
  show J X 4 G9 sz 0 0 34 [some (.ref (B.1 + 0)), some (.int l1), some (.int l2), some (.int l3)] [.int r7.1]
  obtain rfl := Sum.inr.inj (Option.some.inj h)
  exact J_iretW hx hr hW10 dX12_setClimate_34 (Nat.le_refl 0) (Nat.le_refl 0)
theorem kO_setWay {l : Launch} {Γ : Gl} {B : Bs} {w : Wl} {G : Gf} {sz : Nat} {l1 : Int32} {l2 : Int32} {l3 : Int32} {r : Int32 × Wl} (hC : GC Γ B) (hW : Wd Γ B w G) (h : sX12_setWay w l1 l2 l3 = some (Sum.inr r)) : CtW l Γ yX12_setWay cX12_setWay 4 (some .int) 7 [.ref (B.1 + 0), .int l1, .int l2, .int l3] G sz B (some (.int r.1)) r.2 := by
  refine Ct.of rfl (Nat.le_of_ble_eq_true rfl) fun X hx hr hl hΓ hnm => ?_
  subst hl hΓ
  show J X 4 G sz 0 0 0 [some (.ref (B.1 + 0)), some (.int l1), some (.int l2), some (.int l3)] []
  unfold sX12_setWay at h
  refine J_al4 hx rfl rfl dX12_setWay_0 ?_
  refine g12_1 hx hW 73 (rfl : kd 0 = 1) fl_X12_21 rfl dX12_setWay_1 ?_
  refine J_il4 hx rfl rfl dX12_setWay_4 ?_
  refine J_il4 hx rfl rfl dX12_setWay_5 ?_
  refine J_il4 hx rfl rfl dX12_setWay_6 ?_
  obtain ⟨r1, hr2, h⟩ := bnd h
  refine J_rdV hx (kX1_ofWay  hW hr2) ml_X12_83 lk_X1_ofWay (ci := 0) rfl (hW.obj (rfl : kd 73 = 11) (by decide) (by decide)) (rest := []) rfl rfl (by decide) (by decide) (Nat.le_of_ble_eq_true rfl) (Nat.le_refl 0) (Nat.le_refl 0) dX12_setWay_7 ?_
  obtain ⟨hti, h⟩ := tiw_o h
  refine J_callS hx (kO_throwIfWrong hti) ml_X12_66 lk_X12_throwIfWrong (rest := []) rfl rfl (by decide) (by decide) (Nat.le_of_ble_eq_true rfl) (Nat.le_refl 0) (Nat.le_refl 0) dX12_setWay_10 fun r1 G1 sz1 hh => ?_
  obtain ⟨rfl, hG0, hz0⟩ := hh
  rw [hG0, hz0]
  show J X 4 _ _ 0 0 13 [some (.ref (B.1 + 0)), some (.int l1), some (.int l2), some (.int l3)] []
  refine J_al4 hx rfl rfl dX12_setWay_13 ?_
  refine g12_5 hx hW 78 (rfl : kd 0 = 1) fl_X12_51 rfl dX12_setWay_14 ?_
  refine J_al4 hx rfl rfl dX12_setWay_17 ?_
  refine g12_0 hx hW 1 (rfl : kd 0 = 1) fl_X12_10 rfl dX12_setWay_18 ?_
  obtain ⟨r3, hr4, h⟩ := bnd h
  refine J_wrV hx (kX7_keep (rfl : kd 1 = 2) hW hr4) ml_X12_70 lk_X7_keep (ci := 6) rfl (hW.obj (rfl : kd 78 = 15) (by decide) (by decide)) (rest := []) rfl rfl (by decide) (by decide) (Nat.le_of_ble_eq_true rfl) (Nat.le_refl 0) (Nat.le_refl 0) dX12_setWay_21 fun G5 hW6 => ?_
  show J X 4 G5 sz 0 0 24 [some (.ref (B.1 + 0)), some (.int l1), some (.int l2), some (.int l3)] []
  refine J_al4 hx rfl rfl dX12_setWay_24 ?_
  refine g12_2 hx hW6 74 (rfl : kd 0 = 1) fl_X12_28 rfl dX12_setWay_25 ?_
  refine J_il4 hx rfl rfl dX12_setWay_28 ?_
  refine J_il4 hx rfl rfl dX12_setWay_29 ?_
  refine J_il4 hx rfl rfl dX12_setWay_30 ?_
  obtain ⟨r7, hr8, h⟩ := bnd h
  refine J_wrV hx (kX4_changeWay  hW6 hr8) ml_X12_86 lk_X4_changeWay (ci := 3) rfl (hW6.obj (rfl : kd 74 = 12) (by decide) (by decide)) (rest := []) rfl rfl (by decide) (by decide) (Nat.le_of_ble_eq_true rfl) (Nat.le_refl 0) (Nat.le_refl 0) dX12_setWay_31 fun G9 hW10 => ?_
  show J X 4 G9 sz 0 0 34 [some (.ref (B.1 + 0)), some (.int l1), some (.int l2), some (.int l3)] [.int r7.1]
  obtain rfl := Sum.inr.inj (Option.some.inj h)
  exact J_iretW hx hr hW10 dX12_setWay_34 (Nat.le_refl 0) (Nat.le_refl 0)
theorem kO_setLender {l : Launch} {Γ : Gl} {B : Bs} {w : Wl} {G : Gf} {sz : Nat} {l1 : Int32} {l2 : Int32} {l3 : Int32} {r : Int32 × Wl} (hC : GC Γ B) (hW : Wd Γ B w G) (h : sX12_setLender w l1 l2 l3 = some (Sum.inr r)) : CtW l Γ yX12_setLender cX12_setLender 4 (some .int) 7 [.ref (B.1 + 0), .int l1, .int l2, .int l3] G sz B (some (.int r.1)) r.2 := by
  refine Ct.of rfl (Nat.le_of_ble_eq_true rfl) fun X hx hr hl hΓ hnm => ?_
  subst hl hΓ
  show J X 4 G sz 0 0 0 [some (.ref (B.1 + 0)), some (.int l1), some (.int l2), some (.int l3)] []
  unfold sX12_setLender at h
  refine J_al4 hx rfl rfl dX12_setLender_0 ?_
  refine g12_1 hx hW 73 (rfl : kd 0 = 1) fl_X12_21 rfl dX12_setLender_1 ?_
  refine J_il4 hx rfl rfl dX12_setLender_4 ?_
  refine J_il4 hx rfl rfl dX12_setLender_5 ?_
  refine J_il4 hx rfl rfl dX12_setLender_6 ?_
  obtain ⟨r1, hr2, h⟩ := bnd h
  refine J_rdV hx (kX1_ofLenderValue  hW hr2) ml_X12_89 lk_X1_ofLenderValue (ci := 0) rfl (hW.obj (rfl : kd 73 = 11) (by decide) (by decide)) (rest := []) rfl rfl (by decide) (by decide) (Nat.le_of_ble_eq_true rfl) (Nat.le_refl 0) (Nat.le_refl 0) dX12_setLender_7 ?_
  obtain ⟨hti, h⟩ := tiw_o h
  refine J_callS hx (kO_throwIfWrong hti) ml_X12_66 lk_X12_throwIfWrong (rest := []) rfl rfl (by decide) (by decide) (Nat.le_of_ble_eq_true rfl) (Nat.le_refl 0) (Nat.le_refl 0) dX12_setLender_10 fun r1 G1 sz1 hh => ?_
  obtain ⟨rfl, hG0, hz0⟩ := hh
  rw [hG0, hz0]
  show J X 4 _ _ 0 0 13 [some (.ref (B.1 + 0)), some (.int l1), some (.int l2), some (.int l3)] []
  refine J_al4 hx rfl rfl dX12_setLender_13 ?_
  refine g12_5 hx hW 78 (rfl : kd 0 = 1) fl_X12_51 rfl dX12_setLender_14 ?_
  refine J_al4 hx rfl rfl dX12_setLender_17 ?_
  refine g12_0 hx hW 1 (rfl : kd 0 = 1) fl_X12_10 rfl dX12_setLender_18 ?_
  obtain ⟨r3, hr4, h⟩ := bnd h
  refine J_wrV hx (kX7_keep (rfl : kd 1 = 2) hW hr4) ml_X12_70 lk_X7_keep (ci := 6) rfl (hW.obj (rfl : kd 78 = 15) (by decide) (by decide)) (rest := []) rfl rfl (by decide) (by decide) (Nat.le_of_ble_eq_true rfl) (Nat.le_refl 0) (Nat.le_refl 0) dX12_setLender_21 fun G5 hW6 => ?_
  show J X 4 G5 sz 0 0 24 [some (.ref (B.1 + 0)), some (.int l1), some (.int l2), some (.int l3)] []
  refine J_al4 hx rfl rfl dX12_setLender_24 ?_
  refine g12_2 hx hW6 74 (rfl : kd 0 = 1) fl_X12_28 rfl dX12_setLender_25 ?_
  refine J_il4 hx rfl rfl dX12_setLender_28 ?_
  refine J_il4 hx rfl rfl dX12_setLender_29 ?_
  refine J_il4 hx rfl rfl dX12_setLender_30 ?_
  obtain ⟨r7, hr8, h⟩ := bnd h
  refine J_wrV hx (kX4_changeLender  hW6 hr8) ml_X12_92 lk_X4_changeLender (ci := 3) rfl (hW6.obj (rfl : kd 74 = 12) (by decide) (by decide)) (rest := []) rfl rfl (by decide) (by decide) (Nat.le_of_ble_eq_true rfl) (Nat.le_refl 0) (Nat.le_refl 0) dX12_setLender_31 fun G9 hW10 => ?_
  show J X 4 G9 sz 0 0 34 [some (.ref (B.1 + 0)), some (.int l1), some (.int l2), some (.int l3)] [.int r7.1]
  obtain rfl := Sum.inr.inj (Option.some.inj h)
  exact J_iretW hx hr hW10 dX12_setLender_34 (Nat.le_refl 0) (Nat.le_refl 0)
theorem kO_setWayRate {l : Launch} {Γ : Gl} {B : Bs} {w : Wl} {G : Gf} {sz : Nat} {l1 : Int32} {r : Int32 × Wl} (hC : GC Γ B) (hW : Wd Γ B w G) (h : sX12_setWayRate w l1 = some (Sum.inr r)) : CtW l Γ yX12_setWayRate cX12_setWayRate 2 (some .int) 7 [.ref (B.1 + 0), .int l1] G sz B (some (.int r.1)) r.2 := by
  refine Ct.of rfl (Nat.le_of_ble_eq_true rfl) fun X hx hr hl hΓ hnm => ?_
  subst hl hΓ
  show J X 2 G sz 0 0 0 [some (.ref (B.1 + 0)), some (.int l1)] []
  unfold sX12_setWayRate at h
  refine J_al4 hx rfl rfl dX12_setWayRate_0 ?_
  refine g12_1 hx hW 73 (rfl : kd 0 = 1) fl_X12_21 rfl dX12_setWayRate_1 ?_
  refine J_il4 hx rfl rfl dX12_setWayRate_4 ?_
  obtain ⟨r1, hr2, h⟩ := bnd h
  refine J_rdV hx (kX1_ofWayRate  hW hr2) ml_X12_95 lk_X1_ofWayRate (ci := 0) rfl (hW.obj (rfl : kd 73 = 11) (by decide) (by decide)) (rest := []) rfl rfl (by decide) (by decide) (Nat.le_of_ble_eq_true rfl) (Nat.le_refl 0) (Nat.le_refl 0) dX12_setWayRate_5 ?_
  obtain ⟨hti, h⟩ := tiw_o h
  refine J_callS hx (kO_throwIfWrong hti) ml_X12_66 lk_X12_throwIfWrong (rest := []) rfl rfl (by decide) (by decide) (Nat.le_of_ble_eq_true rfl) (Nat.le_refl 0) (Nat.le_refl 0) dX12_setWayRate_8 fun r1 G1 sz1 hh => ?_
  obtain ⟨rfl, hG0, hz0⟩ := hh
  rw [hG0, hz0]
  show J X 2 _ _ 0 0 11 [some (.ref (B.1 + 0)), some (.int l1)] []
  refine J_al4 hx rfl rfl dX12_setWayRate_11 ?_
  refine g12_5 hx hW 78 (rfl : kd 0 = 1) fl_X12_51 rfl dX12_setWayRate_12 ?_
  refine J_al4 hx rfl rfl dX12_setWayRate_15 ?_
  refine g12_0 hx hW 1 (rfl : kd 0 = 1) fl_X12_10 rfl dX12_setWayRate_16 ?_
  obtain ⟨r3, hr4, h⟩ := bnd h
  refine J_wrV hx (kX7_keep (rfl : kd 1 = 2) hW hr4) ml_X12_70 lk_X7_keep (ci := 6) rfl (hW.obj (rfl : kd 78 = 15) (by decide) (by decide)) (rest := []) rfl rfl (by decide) (by decide) (Nat.le_of_ble_eq_true rfl) (Nat.le_refl 0) (Nat.le_refl 0) dX12_setWayRate_19 fun G5 hW6 => ?_
  show J X 2 G5 sz 0 0 22 [some (.ref (B.1 + 0)), some (.int l1)] []
  refine J_al4 hx rfl rfl dX12_setWayRate_22 ?_
  refine g12_2 hx hW6 74 (rfl : kd 0 = 1) fl_X12_28 rfl dX12_setWayRate_23 ?_
  refine J_il4 hx rfl rfl dX12_setWayRate_26 ?_
  obtain ⟨r7, hr8, h⟩ := bnd h
  refine J_wrV hx (kX4_changeWayRate  hW6 hr8) ml_X12_99 lk_X4_changeWayRate (ci := 3) rfl (hW6.obj (rfl : kd 74 = 12) (by decide) (by decide)) (rest := []) rfl rfl (by decide) (by decide) (Nat.le_of_ble_eq_true rfl) (Nat.le_refl 0) (Nat.le_refl 0) dX12_setWayRate_27 fun G9 hW10 => ?_
  show J X 2 G9 sz 0 0 30 [some (.ref (B.1 + 0)), some (.int l1)] [.int r7.1]
  obtain rfl := Sum.inr.inj (Option.some.inj h)
  exact J_iretW hx hr hW10 dX12_setWayRate_30 (Nat.le_refl 0) (Nat.le_refl 0)
theorem kO_addCourier {l : Launch} {Γ : Gl} {B : Bs} {w : Wl} {G : Gf} {sz : Nat} {l1 : Int32} {r : Int32 × Wl} (hC : GC Γ B) (hW : Wd Γ B w G) (h : sX12_addCourier w l1 = some (Sum.inr r)) : CtW l Γ yX12_addCourier cX12_addCourier 2 (some .int) 7 [.ref (B.1 + 0), .int l1] G sz B (some (.int r.1)) r.2 := by
  refine Ct.of rfl (Nat.le_of_ble_eq_true rfl) fun X hx hr hl hΓ hnm => ?_
  subst hl hΓ
  show J X 2 G sz 0 0 0 [some (.ref (B.1 + 0)), some (.int l1)] []
  unfold sX12_addCourier at h
  refine J_al4 hx rfl rfl dX12_addCourier_0 ?_
  refine g12_1 hx hW 73 (rfl : kd 0 = 1) fl_X12_21 rfl dX12_addCourier_1 ?_
  refine J_il4 hx rfl rfl dX12_addCourier_4 ?_
  obtain ⟨r1, hr2, h⟩ := bnd h
  refine J_rdV hx (kX1_ofNewCourier  hW hr2) ml_X12_102 lk_X1_ofNewCourier (ci := 0) rfl (hW.obj (rfl : kd 73 = 11) (by decide) (by decide)) (rest := []) rfl rfl (by decide) (by decide) (Nat.le_of_ble_eq_true rfl) (Nat.le_refl 0) (Nat.le_refl 0) dX12_addCourier_5 ?_
  obtain ⟨hti, h⟩ := tiw_o h
  refine J_callS hx (kO_throwIfWrong hti) ml_X12_66 lk_X12_throwIfWrong (rest := []) rfl rfl (by decide) (by decide) (Nat.le_of_ble_eq_true rfl) (Nat.le_refl 0) (Nat.le_refl 0) dX12_addCourier_8 fun r1 G1 sz1 hh => ?_
  obtain ⟨rfl, hG0, hz0⟩ := hh
  rw [hG0, hz0]
  show J X 2 _ _ 0 0 11 [some (.ref (B.1 + 0)), some (.int l1)] []
  refine J_al4 hx rfl rfl dX12_addCourier_11 ?_
  refine g12_5 hx hW 78 (rfl : kd 0 = 1) fl_X12_51 rfl dX12_addCourier_12 ?_
  refine J_al4 hx rfl rfl dX12_addCourier_15 ?_
  refine g12_0 hx hW 1 (rfl : kd 0 = 1) fl_X12_10 rfl dX12_addCourier_16 ?_
  obtain ⟨r3, hr4, h⟩ := bnd h
  refine J_wrV hx (kX7_keep (rfl : kd 1 = 2) hW hr4) ml_X12_70 lk_X7_keep (ci := 6) rfl (hW.obj (rfl : kd 78 = 15) (by decide) (by decide)) (rest := []) rfl rfl (by decide) (by decide) (Nat.le_of_ble_eq_true rfl) (Nat.le_refl 0) (Nat.le_refl 0) dX12_addCourier_19 fun G5 hW6 => ?_
  show J X 2 G5 sz 0 0 22 [some (.ref (B.1 + 0)), some (.int l1)] []
  refine J_al4 hx rfl rfl dX12_addCourier_22 ?_
  refine g12_2 hx hW6 74 (rfl : kd 0 = 1) fl_X12_28 rfl dX12_addCourier_23 ?_
  refine J_il4 hx rfl rfl dX12_addCourier_26 ?_
  obtain ⟨r7, hr8, h⟩ := bnd h
  refine J_wrV hx (kX4_makeCourier  hW6 hr8) ml_X12_105 lk_X4_makeCourier (ci := 3) rfl (hW6.obj (rfl : kd 74 = 12) (by decide) (by decide)) (rest := []) rfl rfl (by decide) (by decide) (Nat.le_of_ble_eq_true rfl) (Nat.le_refl 0) (Nat.le_refl 0) dX12_addCourier_27 fun G9 hW10 => ?_
  show J X 2 G9 sz 0 0 30 [some (.ref (B.1 + 0)), some (.int l1)] [.int r7.1]
  obtain rfl := Sum.inr.inj (Option.some.inj h)
  exact J_iretW hx hr hW10 dX12_addCourier_30 (Nat.le_refl 0) (Nat.le_refl 0)
theorem kO_addCrate {l : Launch} {Γ : Gl} {B : Bs} {w : Wl} {G : Gf} {sz : Nat} {l1 : Int32} {l2 : Int32} {r : Int32 × Wl} (hC : GC Γ B) (hW : Wd Γ B w G) (h : sX12_addCrate w l1 l2 = some (Sum.inr r)) : CtW l Γ yX12_addCrate cX12_addCrate 3 (some .int) 7 [.ref (B.1 + 0), .int l1, .int l2] G sz B (some (.int r.1)) r.2 := by
  refine Ct.of rfl (Nat.le_of_ble_eq_true rfl) fun X hx hr hl hΓ hnm => ?_
  subst hl hΓ
  show J X 3 G sz 0 0 0 [some (.ref (B.1 + 0)), some (.int l1), some (.int l2)] []
  unfold sX12_addCrate at h
  refine J_al4 hx rfl rfl dX12_addCrate_0 ?_
  refine g12_1 hx hW 73 (rfl : kd 0 = 1) fl_X12_21 rfl dX12_addCrate_1 ?_
  refine J_il4 hx rfl rfl dX12_addCrate_4 ?_
  refine J_il4 hx rfl rfl dX12_addCrate_5 ?_
  obtain ⟨r1, hr2, h⟩ := bnd h
  refine J_rdV hx (kX1_ofNewCrate  hW hr2) ml_X12_108 lk_X1_ofNewCrate (ci := 0) rfl (hW.obj (rfl : kd 73 = 11) (by decide) (by decide)) (rest := []) rfl rfl (by decide) (by decide) (Nat.le_of_ble_eq_true rfl) (Nat.le_refl 0) (Nat.le_refl 0) dX12_addCrate_6 ?_
  obtain ⟨hti, h⟩ := tiw_o h
  refine J_callS hx (kO_throwIfWrong hti) ml_X12_66 lk_X12_throwIfWrong (rest := []) rfl rfl (by decide) (by decide) (Nat.le_of_ble_eq_true rfl) (Nat.le_refl 0) (Nat.le_refl 0) dX12_addCrate_9 fun r1 G1 sz1 hh => ?_
  obtain ⟨rfl, hG0, hz0⟩ := hh
  rw [hG0, hz0]
  show J X 3 _ _ 0 0 12 [some (.ref (B.1 + 0)), some (.int l1), some (.int l2)] []
  refine J_al4 hx rfl rfl dX12_addCrate_12 ?_
  refine g12_5 hx hW 78 (rfl : kd 0 = 1) fl_X12_51 rfl dX12_addCrate_13 ?_
  refine J_al4 hx rfl rfl dX12_addCrate_16 ?_
  refine g12_0 hx hW 1 (rfl : kd 0 = 1) fl_X12_10 rfl dX12_addCrate_17 ?_
  obtain ⟨r3, hr4, h⟩ := bnd h
  refine J_wrV hx (kX7_keep (rfl : kd 1 = 2) hW hr4) ml_X12_70 lk_X7_keep (ci := 6) rfl (hW.obj (rfl : kd 78 = 15) (by decide) (by decide)) (rest := []) rfl rfl (by decide) (by decide) (Nat.le_of_ble_eq_true rfl) (Nat.le_refl 0) (Nat.le_refl 0) dX12_addCrate_20 fun G5 hW6 => ?_
  show J X 3 G5 sz 0 0 23 [some (.ref (B.1 + 0)), some (.int l1), some (.int l2)] []
  refine J_al4 hx rfl rfl dX12_addCrate_23 ?_
  refine g12_2 hx hW6 74 (rfl : kd 0 = 1) fl_X12_28 rfl dX12_addCrate_24 ?_
  refine J_il4 hx rfl rfl dX12_addCrate_27 ?_
  refine J_il4 hx rfl rfl dX12_addCrate_28 ?_
  obtain ⟨r7, hr8, h⟩ := bnd h
  refine J_wrV hx (kX4_makeCrate  hW6 hr8) ml_X12_112 lk_X4_makeCrate (ci := 3) rfl (hW6.obj (rfl : kd 74 = 12) (by decide) (by decide)) (rest := []) rfl rfl (by decide) (by decide) (Nat.le_of_ble_eq_true rfl) (Nat.le_refl 0) (Nat.le_refl 0) dX12_addCrate_29 fun G9 hW10 => ?_
  show J X 3 G9 sz 0 0 32 [some (.ref (B.1 + 0)), some (.int l1), some (.int l2)] [.int r7.1]
  obtain rfl := Sum.inr.inj (Option.some.inj h)
  exact J_iretW hx hr hW10 dX12_addCrate_32 (Nat.le_refl 0) (Nat.le_refl 0)
theorem kO_addWork {l : Launch} {Γ : Gl} {B : Bs} {w : Wl} {G : Gf} {sz : Nat} {l1 : Int32} {l2 : Int32} {l3 : Int32} {l4 : Int32} {l5 : Int32} {r : Int32 × Wl} (hC : GC Γ B) (hW : Wd Γ B w G) (h : sX12_addWork w l1 l2 l3 l4 l5 = some (Sum.inr r)) : CtW l Γ yX12_addWork cX12_addWork 6 (some .int) 7 [.ref (B.1 + 0), .int l1, .int l2, .int l3, .int l4, .int l5] G sz B (some (.int r.1)) r.2 := by
  refine Ct.of rfl (Nat.le_of_ble_eq_true rfl) fun X hx hr hl hΓ hnm => ?_
  subst hl hΓ
  show J X 6 G sz 0 0 0 [some (.ref (B.1 + 0)), some (.int l1), some (.int l2), some (.int l3), some (.int l4), some (.int l5)] []
  unfold sX12_addWork at h
  refine J_al4 hx rfl rfl dX12_addWork_0 ?_
  refine g12_1 hx hW 73 (rfl : kd 0 = 1) fl_X12_21 rfl dX12_addWork_1 ?_
  refine J_il4 hx rfl rfl dX12_addWork_4 ?_
  refine J_il4 hx rfl rfl dX12_addWork_5 ?_
  refine J_il4 hx rfl rfl dX12_addWork_6 ?_
  refine J_il hx rfl dX12_addWork_7 ?_
  obtain ⟨r1, hr2, h⟩ := bnd h
  refine J_rdV hx (kX1_ofNewWork  hW hr2) ml_X12_115 lk_X1_ofNewWork (ci := 0) rfl (hW.obj (rfl : kd 73 = 11) (by decide) (by decide)) (rest := []) rfl rfl (by decide) (by decide) (Nat.le_of_ble_eq_true rfl) (Nat.le_refl 0) (Nat.le_refl 0) dX12_addWork_9 ?_
  obtain ⟨hti, h⟩ := tiw_o h
  refine J_callS hx (kO_throwIfWrong hti) ml_X12_66 lk_X12_throwIfWrong (rest := []) rfl rfl (by decide) (by decide) (Nat.le_of_ble_eq_true rfl) (Nat.le_refl 0) (Nat.le_refl 0) dX12_addWork_12 fun r1 G1 sz1 hh => ?_
  obtain ⟨rfl, hG0, hz0⟩ := hh
  rw [hG0, hz0]
  show J X 6 _ _ 0 0 15 [some (.ref (B.1 + 0)), some (.int l1), some (.int l2), some (.int l3), some (.int l4), some (.int l5)] []
  refine J_al4 hx rfl rfl dX12_addWork_15 ?_
  refine g12_5 hx hW 78 (rfl : kd 0 = 1) fl_X12_51 rfl dX12_addWork_16 ?_
  refine J_al4 hx rfl rfl dX12_addWork_19 ?_
  refine g12_0 hx hW 1 (rfl : kd 0 = 1) fl_X12_10 rfl dX12_addWork_20 ?_
  obtain ⟨r3, hr4, h⟩ := bnd h
  refine J_wrV hx (kX7_keep (rfl : kd 1 = 2) hW hr4) ml_X12_70 lk_X7_keep (ci := 6) rfl (hW.obj (rfl : kd 78 = 15) (by decide) (by decide)) (rest := []) rfl rfl (by decide) (by decide) (Nat.le_of_ble_eq_true rfl) (Nat.le_refl 0) (Nat.le_refl 0) dX12_addWork_23 fun G5 hW6 => ?_
  show J X 6 G5 sz 0 0 26 [some (.ref (B.1 + 0)), some (.int l1), some (.int l2), some (.int l3), some (.int l4), some (.int l5)] []
  refine J_al4 hx rfl rfl dX12_addWork_26 ?_
  refine g12_2 hx hW6 74 (rfl : kd 0 = 1) fl_X12_28 rfl dX12_addWork_27 ?_
  refine J_il4 hx rfl rfl dX12_addWork_30 ?_
  refine J_il4 hx rfl rfl dX12_addWork_31 ?_
  refine J_il4 hx rfl rfl dX12_addWork_32 ?_
  refine J_il hx rfl dX12_addWork_33 ?_
  refine J_il hx rfl dX12_addWork_35 ?_
  obtain ⟨r7, hr8, h⟩ := bnd h
  refine J_wrV hx (kX4_makeWork  hW6 hr8) ml_X12_118 lk_X4_makeWork (ci := 3) rfl (hW6.obj (rfl : kd 74 = 12) (by decide) (by decide)) (rest := []) rfl rfl (by decide) (by decide) (Nat.le_of_ble_eq_true rfl) (Nat.le_refl 0) (Nat.le_refl 0) dX12_addWork_37 fun G9 hW10 => ?_
  show J X 6 G9 sz 0 0 40 [some (.ref (B.1 + 0)), some (.int l1), some (.int l2), some (.int l3), some (.int l4), some (.int l5)] [.int r7.1]
  obtain rfl := Sum.inr.inj (Option.some.inj h)
  exact J_iretW hx hr hW10 dX12_addWork_40 (Nat.le_refl 0) (Nat.le_refl 0)
theorem kO_open {l : Launch} {Γ : Gl} {B : Bs} {w : Wl} {G : Gf} {sz : Nat} {l1 : Int32} {r : Int32 × Wl} (hC : GC Γ B) (hW : Wd Γ B w G) (h : sX12_open w l1 = some (Sum.inr r)) : CtW l Γ yX12_open cX12_open 2 (some .int) 7 [.ref (B.1 + 0), .int l1] G sz B (some (.int r.1)) r.2 := by
  refine Ct.of rfl (Nat.le_of_ble_eq_true rfl) fun X hx hr hl hΓ hnm => ?_
  subst hl hΓ
  show J X 2 G sz 0 0 0 [some (.ref (B.1 + 0)), some (.int l1)] []
  unfold sX12_open at h
  refine J_al4 hx rfl rfl dX12_open_0 ?_
  refine g12_1 hx hW 73 (rfl : kd 0 = 1) fl_X12_21 rfl dX12_open_1 ?_
  refine J_il4 hx rfl rfl dX12_open_4 ?_
  obtain ⟨r1, hr2, h⟩ := bnd h
  refine J_rdV hx (kX1_ofOpening  hW hr2) ml_X12_122 lk_X1_ofOpening (ci := 0) rfl (hW.obj (rfl : kd 73 = 11) (by decide) (by decide)) (rest := []) rfl rfl (by decide) (by decide) (Nat.le_of_ble_eq_true rfl) (Nat.le_refl 0) (Nat.le_refl 0) dX12_open_5 ?_
  obtain ⟨hti, h⟩ := tiw_o h
  refine J_callS hx (kO_throwIfWrong hti) ml_X12_66 lk_X12_throwIfWrong (rest := []) rfl rfl (by decide) (by decide) (Nat.le_of_ble_eq_true rfl) (Nat.le_refl 0) (Nat.le_refl 0) dX12_open_8 fun r1 G1 sz1 hh => ?_
  obtain ⟨rfl, hG0, hz0⟩ := hh
  rw [hG0, hz0]
  show J X 2 _ _ 0 0 11 [some (.ref (B.1 + 0)), some (.int l1)] []
  refine J_al4 hx rfl rfl dX12_open_11 ?_
  refine g12_5 hx hW 78 (rfl : kd 0 = 1) fl_X12_51 rfl dX12_open_12 ?_
  refine J_al4 hx rfl rfl dX12_open_15 ?_
  refine g12_0 hx hW 1 (rfl : kd 0 = 1) fl_X12_10 rfl dX12_open_16 ?_
  obtain ⟨r3, hr4, h⟩ := bnd h
  refine J_wrV hx (kX7_keep (rfl : kd 1 = 2) hW hr4) ml_X12_70 lk_X7_keep (ci := 6) rfl (hW.obj (rfl : kd 78 = 15) (by decide) (by decide)) (rest := []) rfl rfl (by decide) (by decide) (Nat.le_of_ble_eq_true rfl) (Nat.le_refl 0) (Nat.le_refl 0) dX12_open_19 fun G5 hW6 => ?_
  show J X 2 G5 sz 0 0 22 [some (.ref (B.1 + 0)), some (.int l1)] []
  refine J_al4 hx rfl rfl dX12_open_22 ?_
  refine g12_2 hx hW6 74 (rfl : kd 0 = 1) fl_X12_28 rfl dX12_open_23 ?_
  refine J_il4 hx rfl rfl dX12_open_26 ?_
  obtain ⟨r7, hr8, h⟩ := bnd h
  refine J_wrV hx (kX4_openCrate  hW6 hr8) ml_X12_125 lk_X4_openCrate (ci := 3) rfl (hW6.obj (rfl : kd 74 = 12) (by decide) (by decide)) (rest := []) rfl rfl (by decide) (by decide) (Nat.le_of_ble_eq_true rfl) (Nat.le_refl 0) (Nat.le_refl 0) dX12_open_27 fun G9 hW10 => ?_
  show J X 2 G9 sz 0 0 30 [some (.ref (B.1 + 0)), some (.int l1)] [.int r7.1]
  obtain rfl := Sum.inr.inj (Option.some.inj h)
  exact J_iretW hx hr hW10 dX12_open_30 (Nat.le_refl 0) (Nat.le_refl 0)
theorem kO_close {l : Launch} {Γ : Gl} {B : Bs} {w : Wl} {G : Gf} {sz : Nat} {l1 : Int32} {r : Int32 × Wl} (hC : GC Γ B) (hW : Wd Γ B w G) (h : sX12_close w l1 = some (Sum.inr r)) : CtW l Γ yX12_close cX12_close 2 (some .int) 7 [.ref (B.1 + 0), .int l1] G sz B (some (.int r.1)) r.2 := by
  refine Ct.of rfl (Nat.le_of_ble_eq_true rfl) fun X hx hr hl hΓ hnm => ?_
  subst hl hΓ
  show J X 2 G sz 0 0 0 [some (.ref (B.1 + 0)), some (.int l1)] []
  unfold sX12_close at h
  refine J_al4 hx rfl rfl dX12_close_0 ?_
  refine g12_1 hx hW 73 (rfl : kd 0 = 1) fl_X12_21 rfl dX12_close_1 ?_
  refine J_il4 hx rfl rfl dX12_close_4 ?_
  obtain ⟨r1, hr2, h⟩ := bnd h
  refine J_rdV hx (kX1_ofClosing  hW hr2) ml_X12_128 lk_X1_ofClosing (ci := 0) rfl (hW.obj (rfl : kd 73 = 11) (by decide) (by decide)) (rest := []) rfl rfl (by decide) (by decide) (Nat.le_of_ble_eq_true rfl) (Nat.le_refl 0) (Nat.le_refl 0) dX12_close_5 ?_
  obtain ⟨hti, h⟩ := tiw_o h
  refine J_callS hx (kO_throwIfWrong hti) ml_X12_66 lk_X12_throwIfWrong (rest := []) rfl rfl (by decide) (by decide) (Nat.le_of_ble_eq_true rfl) (Nat.le_refl 0) (Nat.le_refl 0) dX12_close_8 fun r1 G1 sz1 hh => ?_
  obtain ⟨rfl, hG0, hz0⟩ := hh
  rw [hG0, hz0]
  show J X 2 _ _ 0 0 11 [some (.ref (B.1 + 0)), some (.int l1)] []
  refine J_al4 hx rfl rfl dX12_close_11 ?_
  refine g12_5 hx hW 78 (rfl : kd 0 = 1) fl_X12_51 rfl dX12_close_12 ?_
  refine J_al4 hx rfl rfl dX12_close_15 ?_
  refine g12_0 hx hW 1 (rfl : kd 0 = 1) fl_X12_10 rfl dX12_close_16 ?_
  obtain ⟨r3, hr4, h⟩ := bnd h
  refine J_wrV hx (kX7_keep (rfl : kd 1 = 2) hW hr4) ml_X12_70 lk_X7_keep (ci := 6) rfl (hW.obj (rfl : kd 78 = 15) (by decide) (by decide)) (rest := []) rfl rfl (by decide) (by decide) (Nat.le_of_ble_eq_true rfl) (Nat.le_refl 0) (Nat.le_refl 0) dX12_close_19 fun G5 hW6 => ?_
  show J X 2 G5 sz 0 0 22 [some (.ref (B.1 + 0)), some (.int l1)] []
  refine J_al4 hx rfl rfl dX12_close_22 ?_
  refine g12_2 hx hW6 74 (rfl : kd 0 = 1) fl_X12_28 rfl dX12_close_23 ?_
  refine J_il4 hx rfl rfl dX12_close_26 ?_
  obtain ⟨r7, hr8, h⟩ := bnd h
  refine J_wrV hx (kX4_closeCrate  hW6 hr8) ml_X12_131 lk_X4_closeCrate (ci := 3) rfl (hW6.obj (rfl : kd 74 = 12) (by decide) (by decide)) (rest := []) rfl rfl (by decide) (by decide) (Nat.le_of_ble_eq_true rfl) (Nat.le_refl 0) (Nat.le_refl 0) dX12_close_27 fun G9 hW10 => ?_
  show J X 2 G9 sz 0 0 30 [some (.ref (B.1 + 0)), some (.int l1)] [.int r7.1]
  obtain rfl := Sum.inr.inj (Option.some.inj h)
  exact J_iretW hx hr hW10 dX12_close_30 (Nat.le_refl 0) (Nat.le_refl 0)
theorem kO_nest {l : Launch} {Γ : Gl} {B : Bs} {w : Wl} {G : Gf} {sz : Nat} {l1 : Int32} {l2 : Int32} {r : Int32 × Wl} (hC : GC Γ B) (hW : Wd Γ B w G) (h : sX12_nest w l1 l2 = some (Sum.inr r)) : CtW l Γ yX12_nest cX12_nest 3 (some .int) 7 [.ref (B.1 + 0), .int l1, .int l2] G sz B (some (.int r.1)) r.2 := by
  refine Ct.of rfl (Nat.le_of_ble_eq_true rfl) fun X hx hr hl hΓ hnm => ?_
  subst hl hΓ
  show J X 3 G sz 0 0 0 [some (.ref (B.1 + 0)), some (.int l1), some (.int l2)] []
  unfold sX12_nest at h
  refine J_al4 hx rfl rfl dX12_nest_0 ?_
  refine g12_1 hx hW 73 (rfl : kd 0 = 1) fl_X12_21 rfl dX12_nest_1 ?_
  refine J_il4 hx rfl rfl dX12_nest_4 ?_
  refine J_il4 hx rfl rfl dX12_nest_5 ?_
  obtain ⟨r1, hr2, h⟩ := bnd h
  refine J_rdV hx (kX1_ofNesting  hW hr2) ml_X12_134 lk_X1_ofNesting (ci := 0) rfl (hW.obj (rfl : kd 73 = 11) (by decide) (by decide)) (rest := []) rfl rfl (by decide) (by decide) (Nat.le_of_ble_eq_true rfl) (Nat.le_refl 0) (Nat.le_refl 0) dX12_nest_6 ?_
  obtain ⟨hti, h⟩ := tiw_o h
  refine J_callS hx (kO_throwIfWrong hti) ml_X12_66 lk_X12_throwIfWrong (rest := []) rfl rfl (by decide) (by decide) (Nat.le_of_ble_eq_true rfl) (Nat.le_refl 0) (Nat.le_refl 0) dX12_nest_9 fun r1 G1 sz1 hh => ?_
  obtain ⟨rfl, hG0, hz0⟩ := hh
  rw [hG0, hz0]
  show J X 3 _ _ 0 0 12 [some (.ref (B.1 + 0)), some (.int l1), some (.int l2)] []
  refine J_al4 hx rfl rfl dX12_nest_12 ?_
  refine g12_5 hx hW 78 (rfl : kd 0 = 1) fl_X12_51 rfl dX12_nest_13 ?_
  refine J_al4 hx rfl rfl dX12_nest_16 ?_
  refine g12_0 hx hW 1 (rfl : kd 0 = 1) fl_X12_10 rfl dX12_nest_17 ?_
  obtain ⟨r3, hr4, h⟩ := bnd h
  refine J_wrV hx (kX7_keep (rfl : kd 1 = 2) hW hr4) ml_X12_70 lk_X7_keep (ci := 6) rfl (hW.obj (rfl : kd 78 = 15) (by decide) (by decide)) (rest := []) rfl rfl (by decide) (by decide) (Nat.le_of_ble_eq_true rfl) (Nat.le_refl 0) (Nat.le_refl 0) dX12_nest_20 fun G5 hW6 => ?_
  show J X 3 G5 sz 0 0 23 [some (.ref (B.1 + 0)), some (.int l1), some (.int l2)] []
  refine J_al4 hx rfl rfl dX12_nest_23 ?_
  refine g12_2 hx hW6 74 (rfl : kd 0 = 1) fl_X12_28 rfl dX12_nest_24 ?_
  refine J_il4 hx rfl rfl dX12_nest_27 ?_
  refine J_il4 hx rfl rfl dX12_nest_28 ?_
  obtain ⟨r7, hr8, h⟩ := bnd h
  refine J_wrV hx (kX4_putCrateInto  hW6 hr8) ml_X12_137 lk_X4_putCrateInto (ci := 3) rfl (hW6.obj (rfl : kd 74 = 12) (by decide) (by decide)) (rest := []) rfl rfl (by decide) (by decide) (Nat.le_of_ble_eq_true rfl) (Nat.le_refl 0) (Nat.le_refl 0) dX12_nest_29 fun G9 hW10 => ?_
  show J X 3 G9 sz 0 0 32 [some (.ref (B.1 + 0)), some (.int l1), some (.int l2)] [.int r7.1]
  obtain rfl := Sum.inr.inj (Option.some.inj h)
  exact J_iretW hx hr hW10 dX12_nest_32 (Nat.le_refl 0) (Nat.le_refl 0)
theorem kO_takeOut {l : Launch} {Γ : Gl} {B : Bs} {w : Wl} {G : Gf} {sz : Nat} {l1 : Int32} {r : Int32 × Wl} (hC : GC Γ B) (hW : Wd Γ B w G) (h : sX12_takeOut w l1 = some (Sum.inr r)) : CtW l Γ yX12_takeOut cX12_takeOut 2 (some .int) 7 [.ref (B.1 + 0), .int l1] G sz B (some (.int r.1)) r.2 := by
  refine Ct.of rfl (Nat.le_of_ble_eq_true rfl) fun X hx hr hl hΓ hnm => ?_
  subst hl hΓ
  show J X 2 G sz 0 0 0 [some (.ref (B.1 + 0)), some (.int l1)] []
  unfold sX12_takeOut at h
  refine J_al4 hx rfl rfl dX12_takeOut_0 ?_
  refine g12_1 hx hW 73 (rfl : kd 0 = 1) fl_X12_21 rfl dX12_takeOut_1 ?_
  refine J_il4 hx rfl rfl dX12_takeOut_4 ?_
  obtain ⟨r1, hr2, h⟩ := bnd h
  refine J_rdV hx (kX1_ofTakingOut  hW hr2) ml_X12_140 lk_X1_ofTakingOut (ci := 0) rfl (hW.obj (rfl : kd 73 = 11) (by decide) (by decide)) (rest := []) rfl rfl (by decide) (by decide) (Nat.le_of_ble_eq_true rfl) (Nat.le_refl 0) (Nat.le_refl 0) dX12_takeOut_5 ?_
  obtain ⟨hti, h⟩ := tiw_o h
  refine J_callS hx (kO_throwIfWrong hti) ml_X12_66 lk_X12_throwIfWrong (rest := []) rfl rfl (by decide) (by decide) (Nat.le_of_ble_eq_true rfl) (Nat.le_refl 0) (Nat.le_refl 0) dX12_takeOut_8 fun r1 G1 sz1 hh => ?_
  obtain ⟨rfl, hG0, hz0⟩ := hh
  rw [hG0, hz0]
  show J X 2 _ _ 0 0 11 [some (.ref (B.1 + 0)), some (.int l1)] []
  refine J_al4 hx rfl rfl dX12_takeOut_11 ?_
  refine g12_5 hx hW 78 (rfl : kd 0 = 1) fl_X12_51 rfl dX12_takeOut_12 ?_
  refine J_al4 hx rfl rfl dX12_takeOut_15 ?_
  refine g12_0 hx hW 1 (rfl : kd 0 = 1) fl_X12_10 rfl dX12_takeOut_16 ?_
  obtain ⟨r3, hr4, h⟩ := bnd h
  refine J_wrV hx (kX7_keep (rfl : kd 1 = 2) hW hr4) ml_X12_70 lk_X7_keep (ci := 6) rfl (hW.obj (rfl : kd 78 = 15) (by decide) (by decide)) (rest := []) rfl rfl (by decide) (by decide) (Nat.le_of_ble_eq_true rfl) (Nat.le_refl 0) (Nat.le_refl 0) dX12_takeOut_19 fun G5 hW6 => ?_
  show J X 2 G5 sz 0 0 22 [some (.ref (B.1 + 0)), some (.int l1)] []
  refine J_al4 hx rfl rfl dX12_takeOut_22 ?_
  refine g12_2 hx hW6 74 (rfl : kd 0 = 1) fl_X12_28 rfl dX12_takeOut_23 ?_
  refine J_il4 hx rfl rfl dX12_takeOut_26 ?_
  obtain ⟨r7, hr8, h⟩ := bnd h
  refine J_wrV hx (kX4_takeCrateOut  hW6 hr8) ml_X12_143 lk_X4_takeCrateOut (ci := 3) rfl (hW6.obj (rfl : kd 74 = 12) (by decide) (by decide)) (rest := []) rfl rfl (by decide) (by decide) (Nat.le_of_ble_eq_true rfl) (Nat.le_refl 0) (Nat.le_refl 0) dX12_takeOut_27 fun G9 hW10 => ?_
  show J X 2 G9 sz 0 0 30 [some (.ref (B.1 + 0)), some (.int l1)] [.int r7.1]
  obtain rfl := Sum.inr.inj (Option.some.inj h)
  exact J_iretW hx hr hW10 dX12_takeOut_30 (Nat.le_refl 0) (Nat.le_refl 0)
theorem kO_pack {l : Launch} {Γ : Gl} {B : Bs} {w : Wl} {G : Gf} {sz : Nat} {l1 : Int32} {l2 : Int32} {r : Int32 × Wl} (hC : GC Γ B) (hW : Wd Γ B w G) (h : sX12_pack w l1 l2 = some (Sum.inr r)) : CtW l Γ yX12_pack cX12_pack 3 (some .int) 7 [.ref (B.1 + 0), .int l1, .int l2] G sz B (some (.int r.1)) r.2 := by
  refine Ct.of rfl (Nat.le_of_ble_eq_true rfl) fun X hx hr hl hΓ hnm => ?_
  subst hl hΓ
  show J X 3 G sz 0 0 0 [some (.ref (B.1 + 0)), some (.int l1), some (.int l2)] []
  unfold sX12_pack at h
  refine J_al4 hx rfl rfl dX12_pack_0 ?_
  refine g12_1 hx hW 73 (rfl : kd 0 = 1) fl_X12_21 rfl dX12_pack_1 ?_
  refine J_il4 hx rfl rfl dX12_pack_4 ?_
  refine J_il4 hx rfl rfl dX12_pack_5 ?_
  obtain ⟨r1, hr2, h⟩ := bnd h
  refine J_rdV hx (kX1_ofPacking  hW hr2) ml_X12_146 lk_X1_ofPacking (ci := 0) rfl (hW.obj (rfl : kd 73 = 11) (by decide) (by decide)) (rest := []) rfl rfl (by decide) (by decide) (Nat.le_of_ble_eq_true rfl) (Nat.le_refl 0) (Nat.le_refl 0) dX12_pack_6 ?_
  obtain ⟨hti, h⟩ := tiw_o h
  refine J_callS hx (kO_throwIfWrong hti) ml_X12_66 lk_X12_throwIfWrong (rest := []) rfl rfl (by decide) (by decide) (Nat.le_of_ble_eq_true rfl) (Nat.le_refl 0) (Nat.le_refl 0) dX12_pack_9 fun r1 G1 sz1 hh => ?_
  obtain ⟨rfl, hG0, hz0⟩ := hh
  rw [hG0, hz0]
  show J X 3 _ _ 0 0 12 [some (.ref (B.1 + 0)), some (.int l1), some (.int l2)] []
  refine J_al4 hx rfl rfl dX12_pack_12 ?_
  refine g12_5 hx hW 78 (rfl : kd 0 = 1) fl_X12_51 rfl dX12_pack_13 ?_
  refine J_al4 hx rfl rfl dX12_pack_16 ?_
  refine g12_0 hx hW 1 (rfl : kd 0 = 1) fl_X12_10 rfl dX12_pack_17 ?_
  obtain ⟨r3, hr4, h⟩ := bnd h
  refine J_wrV hx (kX7_keep (rfl : kd 1 = 2) hW hr4) ml_X12_70 lk_X7_keep (ci := 6) rfl (hW.obj (rfl : kd 78 = 15) (by decide) (by decide)) (rest := []) rfl rfl (by decide) (by decide) (Nat.le_of_ble_eq_true rfl) (Nat.le_refl 0) (Nat.le_refl 0) dX12_pack_20 fun G5 hW6 => ?_
  show J X 3 G5 sz 0 0 23 [some (.ref (B.1 + 0)), some (.int l1), some (.int l2)] []
  refine J_al4 hx rfl rfl dX12_pack_23 ?_
  refine g12_2 hx hW6 74 (rfl : kd 0 = 1) fl_X12_28 rfl dX12_pack_24 ?_
  refine J_il4 hx rfl rfl dX12_pack_27 ?_
  refine J_il4 hx rfl rfl dX12_pack_28 ?_
  obtain ⟨r7, hr8, h⟩ := bnd h
  refine J_wrV hx (kX4_packWork  hW6 hr8) ml_X12_149 lk_X4_packWork (ci := 3) rfl (hW6.obj (rfl : kd 74 = 12) (by decide) (by decide)) (rest := []) rfl rfl (by decide) (by decide) (Nat.le_of_ble_eq_true rfl) (Nat.le_refl 0) (Nat.le_refl 0) dX12_pack_29 fun G9 hW10 => ?_
  show J X 3 G9 sz 0 0 32 [some (.ref (B.1 + 0)), some (.int l1), some (.int l2)] [.int r7.1]
  obtain rfl := Sum.inr.inj (Option.some.inj h)
  exact J_iretW hx hr hW10 dX12_pack_32 (Nat.le_refl 0) (Nat.le_refl 0)
theorem kO_unpack {l : Launch} {Γ : Gl} {B : Bs} {w : Wl} {G : Gf} {sz : Nat} {l1 : Int32} {r : Int32 × Wl} (hC : GC Γ B) (hW : Wd Γ B w G) (h : sX12_unpack w l1 = some (Sum.inr r)) : CtW l Γ yX12_unpack cX12_unpack 2 (some .int) 7 [.ref (B.1 + 0), .int l1] G sz B (some (.int r.1)) r.2 := by
  refine Ct.of rfl (Nat.le_of_ble_eq_true rfl) fun X hx hr hl hΓ hnm => ?_
  subst hl hΓ
  show J X 2 G sz 0 0 0 [some (.ref (B.1 + 0)), some (.int l1)] []
  unfold sX12_unpack at h
  refine J_al4 hx rfl rfl dX12_unpack_0 ?_
  refine g12_1 hx hW 73 (rfl : kd 0 = 1) fl_X12_21 rfl dX12_unpack_1 ?_
  refine J_il4 hx rfl rfl dX12_unpack_4 ?_
  obtain ⟨r1, hr2, h⟩ := bnd h
  refine J_rdV hx (kX1_ofUnpacking  hW hr2) ml_X12_152 lk_X1_ofUnpacking (ci := 0) rfl (hW.obj (rfl : kd 73 = 11) (by decide) (by decide)) (rest := []) rfl rfl (by decide) (by decide) (Nat.le_of_ble_eq_true rfl) (Nat.le_refl 0) (Nat.le_refl 0) dX12_unpack_5 ?_
  obtain ⟨hti, h⟩ := tiw_o h
  refine J_callS hx (kO_throwIfWrong hti) ml_X12_66 lk_X12_throwIfWrong (rest := []) rfl rfl (by decide) (by decide) (Nat.le_of_ble_eq_true rfl) (Nat.le_refl 0) (Nat.le_refl 0) dX12_unpack_8 fun r1 G1 sz1 hh => ?_
  obtain ⟨rfl, hG0, hz0⟩ := hh
  rw [hG0, hz0]
  show J X 2 _ _ 0 0 11 [some (.ref (B.1 + 0)), some (.int l1)] []
  refine J_al4 hx rfl rfl dX12_unpack_11 ?_
  refine g12_5 hx hW 78 (rfl : kd 0 = 1) fl_X12_51 rfl dX12_unpack_12 ?_
  refine J_al4 hx rfl rfl dX12_unpack_15 ?_
  refine g12_0 hx hW 1 (rfl : kd 0 = 1) fl_X12_10 rfl dX12_unpack_16 ?_
  obtain ⟨r3, hr4, h⟩ := bnd h
  refine J_wrV hx (kX7_keep (rfl : kd 1 = 2) hW hr4) ml_X12_70 lk_X7_keep (ci := 6) rfl (hW.obj (rfl : kd 78 = 15) (by decide) (by decide)) (rest := []) rfl rfl (by decide) (by decide) (Nat.le_of_ble_eq_true rfl) (Nat.le_refl 0) (Nat.le_refl 0) dX12_unpack_19 fun G5 hW6 => ?_
  show J X 2 G5 sz 0 0 22 [some (.ref (B.1 + 0)), some (.int l1)] []
  refine J_al4 hx rfl rfl dX12_unpack_22 ?_
  refine g12_2 hx hW6 74 (rfl : kd 0 = 1) fl_X12_28 rfl dX12_unpack_23 ?_
  refine J_il4 hx rfl rfl dX12_unpack_26 ?_
  obtain ⟨r7, hr8, h⟩ := bnd h
  refine J_wrV hx (kX4_unpackWork  hW6 hr8) ml_X12_155 lk_X4_unpackWork (ci := 3) rfl (hW6.obj (rfl : kd 74 = 12) (by decide) (by decide)) (rest := []) rfl rfl (by decide) (by decide) (Nat.le_of_ble_eq_true rfl) (Nat.le_refl 0) (Nat.le_refl 0) dX12_unpack_27 fun G9 hW10 => ?_
  show J X 2 G9 sz 0 0 30 [some (.ref (B.1 + 0)), some (.int l1)] [.int r7.1]
  obtain rfl := Sum.inr.inj (Option.some.inj h)
  exact J_iretW hx hr hW10 dX12_unpack_30 (Nat.le_refl 0) (Nat.le_refl 0)
theorem kO_send {l : Launch} {Γ : Gl} {B : Bs} {w : Wl} {G : Gf} {sz : Nat} {l1 : Int32} {l2 : Int32} {l3 : Int32} {r : Int32 × Wl} (hC : GC Γ B) (hW : Wd Γ B w G) (h : sX12_send w l1 l2 l3 = some (Sum.inr r)) : CtW l Γ yX12_send cX12_send 4 (some .int) 7 [.ref (B.1 + 0), .int l1, .int l2, .int l3] G sz B (some (.int r.1)) r.2 := by
  refine Ct.of rfl (Nat.le_of_ble_eq_true rfl) fun X hx hr hl hΓ hnm => ?_
  subst hl hΓ
  show J X 4 G sz 0 0 0 [some (.ref (B.1 + 0)), some (.int l1), some (.int l2), some (.int l3)] []
  unfold sX12_send at h
  refine J_al4 hx rfl rfl dX12_send_0 ?_
  refine g12_1 hx hW 73 (rfl : kd 0 = 1) fl_X12_21 rfl dX12_send_1 ?_
  refine J_il4 hx rfl rfl dX12_send_4 ?_
  refine J_il4 hx rfl rfl dX12_send_5 ?_
  refine J_il4 hx rfl rfl dX12_send_6 ?_
  obtain ⟨r1, hr2, h⟩ := bnd h
  refine J_rdV hx (kX1_ofSending  hW hr2) ml_X12_158 lk_X1_ofSending (ci := 0) rfl (hW.obj (rfl : kd 73 = 11) (by decide) (by decide)) (rest := []) rfl rfl (by decide) (by decide) (Nat.le_of_ble_eq_true rfl) (Nat.le_refl 0) (Nat.le_refl 0) dX12_send_7 ?_
  obtain ⟨hti, h⟩ := tiw_o h
  refine J_callS hx (kO_throwIfWrong hti) ml_X12_66 lk_X12_throwIfWrong (rest := []) rfl rfl (by decide) (by decide) (Nat.le_of_ble_eq_true rfl) (Nat.le_refl 0) (Nat.le_refl 0) dX12_send_10 fun r1 G1 sz1 hh => ?_
  obtain ⟨rfl, hG0, hz0⟩ := hh
  rw [hG0, hz0]
  show J X 4 _ _ 0 0 13 [some (.ref (B.1 + 0)), some (.int l1), some (.int l2), some (.int l3)] []
  refine J_al4 hx rfl rfl dX12_send_13 ?_
  refine g12_5 hx hW 78 (rfl : kd 0 = 1) fl_X12_51 rfl dX12_send_14 ?_
  refine J_al4 hx rfl rfl dX12_send_17 ?_
  refine g12_0 hx hW 1 (rfl : kd 0 = 1) fl_X12_10 rfl dX12_send_18 ?_
  obtain ⟨r3, hr4, h⟩ := bnd h
  refine J_wrV hx (kX7_keep (rfl : kd 1 = 2) hW hr4) ml_X12_70 lk_X7_keep (ci := 6) rfl (hW.obj (rfl : kd 78 = 15) (by decide) (by decide)) (rest := []) rfl rfl (by decide) (by decide) (Nat.le_of_ble_eq_true rfl) (Nat.le_refl 0) (Nat.le_refl 0) dX12_send_21 fun G5 hW6 => ?_
  show J X 4 G5 sz 0 0 24 [some (.ref (B.1 + 0)), some (.int l1), some (.int l2), some (.int l3)] []
  refine J_al4 hx rfl rfl dX12_send_24 ?_
  refine g12_2 hx hW6 74 (rfl : kd 0 = 1) fl_X12_28 rfl dX12_send_25 ?_
  refine J_il4 hx rfl rfl dX12_send_28 ?_
  refine J_il4 hx rfl rfl dX12_send_29 ?_
  refine J_il4 hx rfl rfl dX12_send_30 ?_
  obtain ⟨r7, hr8, h⟩ := bnd h
  refine J_wrV hx (kX4_sendCrate  hW6 hr8) ml_X12_161 lk_X4_sendCrate (ci := 3) rfl (hW6.obj (rfl : kd 74 = 12) (by decide) (by decide)) (rest := []) rfl rfl (by decide) (by decide) (Nat.le_of_ble_eq_true rfl) (Nat.le_refl 0) (Nat.le_refl 0) dX12_send_31 fun G9 hW10 => ?_
  show J X 4 G9 sz 0 0 34 [some (.ref (B.1 + 0)), some (.int l1), some (.int l2), some (.int l3)] [.int r7.1]
  obtain rfl := Sum.inr.inj (Option.some.inj h)
  exact J_iretW hx hr hW10 dX12_send_34 (Nat.le_refl 0) (Nat.le_refl 0)
theorem kO_advance {l : Launch} {Γ : Gl} {B : Bs} {w : Wl} {G : Gf} {sz : Nat} {l1 : Int32} {r : Int32 × Wl} (hC : GC Γ B) (hW : Wd Γ B w G) (h : sX12_advance w l1 = some (Sum.inr r)) : CtW l Γ yX12_advance cX12_advance 2 (some .int) 7 [.ref (B.1 + 0), .int l1] G sz B (some (.int r.1)) r.2 := by
  refine Ct.of rfl (Nat.le_of_ble_eq_true rfl) fun X hx hr hl hΓ hnm => ?_
  subst hl hΓ
  show J X 2 G sz 0 0 0 [some (.ref (B.1 + 0)), some (.int l1)] []
  unfold sX12_advance at h
  refine J_al4 hx rfl rfl dX12_advance_0 ?_
  refine g12_1 hx hW 73 (rfl : kd 0 = 1) fl_X12_21 rfl dX12_advance_1 ?_
  refine J_il4 hx rfl rfl dX12_advance_4 ?_
  obtain ⟨r1, hr2, h⟩ := bnd h
  refine J_rdV hx (kX1_ofWaiting  hW hr2) ml_X12_164 lk_X1_ofWaiting (ci := 0) rfl (hW.obj (rfl : kd 73 = 11) (by decide) (by decide)) (rest := []) rfl rfl (by decide) (by decide) (Nat.le_of_ble_eq_true rfl) (Nat.le_refl 0) (Nat.le_refl 0) dX12_advance_5 ?_
  obtain ⟨hti, h⟩ := tiw_o h
  refine J_callS hx (kO_throwIfWrong hti) ml_X12_66 lk_X12_throwIfWrong (rest := []) rfl rfl (by decide) (by decide) (Nat.le_of_ble_eq_true rfl) (Nat.le_refl 0) (Nat.le_refl 0) dX12_advance_8 fun r1 G1 sz1 hh => ?_
  obtain ⟨rfl, hG0, hz0⟩ := hh
  rw [hG0, hz0]
  show J X 2 _ _ 0 0 11 [some (.ref (B.1 + 0)), some (.int l1)] []
  refine J_al4 hx rfl rfl dX12_advance_11 ?_
  refine g12_5 hx hW 78 (rfl : kd 0 = 1) fl_X12_51 rfl dX12_advance_12 ?_
  refine J_al4 hx rfl rfl dX12_advance_15 ?_
  refine g12_0 hx hW 1 (rfl : kd 0 = 1) fl_X12_10 rfl dX12_advance_16 ?_
  obtain ⟨r3, hr4, h⟩ := bnd h
  refine J_wrV hx (kX7_keep (rfl : kd 1 = 2) hW hr4) ml_X12_70 lk_X7_keep (ci := 6) rfl (hW.obj (rfl : kd 78 = 15) (by decide) (by decide)) (rest := []) rfl rfl (by decide) (by decide) (Nat.le_of_ble_eq_true rfl) (Nat.le_refl 0) (Nat.le_refl 0) dX12_advance_19 fun G5 hW6 => ?_
  show J X 2 G5 sz 0 0 22 [some (.ref (B.1 + 0)), some (.int l1)] []
  refine J_al4 hx rfl rfl dX12_advance_22 ?_
  refine g12_2 hx hW6 74 (rfl : kd 0 = 1) fl_X12_28 rfl dX12_advance_23 ?_
  refine J_il4 hx rfl rfl dX12_advance_26 ?_
  obtain ⟨r7, hr8, h⟩ := bnd h
  refine J_wrV hx (kX4_letHoursPass  hW6 hr8) ml_X12_167 lk_X4_letHoursPass (ci := 3) rfl (hW6.obj (rfl : kd 74 = 12) (by decide) (by decide)) (rest := []) rfl rfl (by decide) (by decide) (Nat.le_of_ble_eq_true rfl) (Nat.le_refl 0) (Nat.le_refl 0) dX12_advance_27 fun G9 hW10 => ?_
  show J X 2 G9 sz 0 0 30 [some (.ref (B.1 + 0)), some (.int l1)] [.int r7.1]
  obtain rfl := Sum.inr.inj (Option.some.inj h)
  exact J_iretW hx hr hW10 dX12_advance_30 (Nat.le_refl 0) (Nat.le_refl 0)
theorem kO_refusal {l : Launch} {Γ : Gl} {B : Bs} {w : Wl} {G : Gf} {sz : Nat} {l1 : Int32} {l2 : Int32} {l3 : Int32} {r : Int32} (hC : GC Γ B) (hW : Wd Γ B w G) (h : sX12_refusal w l1 l2 l3 = some (Sum.inr r)) : CtR l Γ yX12_refusal cX12_refusal 4 (some .int) 7 [.ref (B.1 + 0), .int l1, .int l2, .int l3] G sz (.int r) := by
  refine Ct.of rfl (Nat.le_of_ble_eq_true rfl) fun X hx hr hl hΓ hnm => ?_
  subst hl hΓ
  show J X 4 G sz 0 0 0 [some (.ref (B.1 + 0)), some (.int l1), some (.int l2), some (.int l3)] []
  unfold sX12_refusal at h
  refine J_al4 hx rfl rfl dX12_refusal_0 ?_
  refine g12_1 hx hW 73 (rfl : kd 0 = 1) fl_X12_21 rfl dX12_refusal_1 ?_
  refine J_il4 hx rfl rfl dX12_refusal_4 ?_
  refine J_il4 hx rfl rfl dX12_refusal_5 ?_
  refine J_il4 hx rfl rfl dX12_refusal_6 ?_
  obtain ⟨r1, hr2, h⟩ := bnd h
  refine J_rdV hx (kX1_ofLeg  hW hr2) ml_X12_170 lk_X1_ofLeg (ci := 0) rfl (hW.obj (rfl : kd 73 = 11) (by decide) (by decide)) (rest := []) rfl rfl (by decide) (by decide) (Nat.le_of_ble_eq_true rfl) (Nat.le_refl 0) (Nat.le_refl 0) dX12_refusal_7 ?_
  obtain ⟨hti, h⟩ := tiw_o h
  refine J_callS hx (kO_throwIfWrong hti) ml_X12_66 lk_X12_throwIfWrong (rest := []) rfl rfl (by decide) (by decide) (Nat.le_of_ble_eq_true rfl) (Nat.le_refl 0) (Nat.le_refl 0) dX12_refusal_10 fun r1 G1 sz1 hh => ?_
  obtain ⟨rfl, hG0, hz0⟩ := hh
  rw [hG0, hz0]
  show J X 4 _ _ 0 0 13 [some (.ref (B.1 + 0)), some (.int l1), some (.int l2), some (.int l3)] []
  refine J_al4 hx rfl rfl dX12_refusal_13 ?_
  refine g12_1 hx hW 73 (rfl : kd 0 = 1) fl_X12_21 rfl dX12_refusal_14 ?_
  refine J_il4 hx rfl rfl dX12_refusal_17 ?_
  refine J_il4 hx rfl rfl dX12_refusal_18 ?_
  refine J_il4 hx rfl rfl dX12_refusal_19 ?_
  obtain ⟨r3, hr4, h⟩ := bnd h
  refine J_rdV hx (kX1_reasonAgainst  hW hr4) ml_X12_173 lk_X1_reasonAgainst (ci := 0) rfl (hW.obj (rfl : kd 73 = 11) (by decide) (by decide)) (rest := []) rfl rfl (by decide) (by decide) (Nat.le_of_ble_eq_true rfl) (Nat.le_refl 0) (Nat.le_refl 0) dX12_refusal_20 ?_
  obtain rfl := Sum.inr.inj (Option.some.inj h)
  exact J_iretR hx hr dX12_refusal_23 (Nat.le_refl 0) (Nat.le_refl 0) rfl
theorem kO_crate {l : Launch} {Γ : Gl} {B : Bs} {w : Wl} {G : Gf} {sz : Nat} {l1 : Int32} {l2 : Int32} {r : Int32} (hC : GC Γ B) (hW : Wd Γ B w G) (h : sX12_crate w l1 l2 = some (Sum.inr r)) : CtR l Γ yX12_crate cX12_crate 3 (some .int) 7 [.ref (B.1 + 0), .int l1, .int l2] G sz (.int r) := by
  refine Ct.of rfl (Nat.le_of_ble_eq_true rfl) fun X hx hr hl hΓ hnm => ?_
  subst hl hΓ
  show J X 3 G sz 0 0 0 [some (.ref (B.1 + 0)), some (.int l1), some (.int l2)] []
  unfold sX12_crate at h
  refine J_al4 hx rfl rfl dX12_crate_0 ?_
  refine g12_1 hx hW 73 (rfl : kd 0 = 1) fl_X12_21 rfl dX12_crate_1 ?_
  refine J_al4 hx rfl rfl dX12_crate_4 ?_
  refine g12_0 hx hW 1 (rfl : kd 0 = 1) fl_X12_10 rfl dX12_crate_5 ?_
  refine J_il4 hx rfl rfl dX12_crate_8 ?_
  obtain ⟨r1, hr2, h⟩ := bnd h
  refine J_rdV hx (kX6_hasCrate  hW hr2) ml_X12_176 lk_X6_hasCrate (ci := 5) rfl (hW.obj (rfl : kd 1 = 2) (by decide) (by decide)) (rest := [.ref (B.1 + 73)]) rfl rfl (by decide) (by decide) (Nat.le_of_ble_eq_true rfl) (Nat.le_refl 0) (Nat.le_refl 0) dX12_crate_9 ?_
  refine J_il4 hx rfl rfl dX12_crate_12 ?_
  refine J_bipush hx (14 : Int32) dX12_crate_13 rfl ?_
  obtain ⟨r3, hr4, h⟩ := bnd h
  refine J_rdV hx (kX1_ofValue  hW hr4) ml_X12_180 lk_X1_ofValue (ci := 0) rfl (hW.obj (rfl : kd 73 = 11) (by decide) (by decide)) (rest := []) rfl rfl (by decide) (by decide) (Nat.le_of_ble_eq_true rfl) (Nat.le_refl 0) (Nat.le_refl 0) dX12_crate_15 ?_
  obtain ⟨hti, h⟩ := tiw_o h
  refine J_callS hx (kO_throwIfWrong hti) ml_X12_66 lk_X12_throwIfWrong (rest := []) rfl rfl (by decide) (by decide) (Nat.le_of_ble_eq_true rfl) (Nat.le_refl 0) (Nat.le_refl 0) dX12_crate_18 fun r1 G1 sz1 hh => ?_
  obtain ⟨rfl, hG0, hz0⟩ := hh
  rw [hG0, hz0]
  show J X 3 _ _ 0 0 21 [some (.ref (B.1 + 0)), some (.int l1), some (.int l2)] []
  refine J_al4 hx rfl rfl dX12_crate_21 ?_
  refine g12_3 hx hW 75 (rfl : kd 0 = 1) fl_X12_35 rfl dX12_crate_22 ?_
  refine J_il4 hx rfl rfl dX12_crate_25 ?_
  refine J_il4 hx rfl rfl dX12_crate_26 ?_
  obtain ⟨r5, hr6, h⟩ := bnd h
  refine J_rdV hx (kX8_ofCrate  hW hr6) ml_X12_184 lk_X8_ofCrate (ci := 7) rfl (hW.obj (rfl : kd 75 = 13) (by decide) (by decide)) (rest := []) rfl rfl (by decide) (by decide) (Nat.le_of_ble_eq_true rfl) (Nat.le_refl 0) (Nat.le_refl 0) dX12_crate_27 ?_
  obtain rfl := Sum.inr.inj (Option.some.inj h)
  exact J_iretR hx hr dX12_crate_30 (Nat.le_refl 0) (Nat.le_refl 0) rfl
theorem kO_work {l : Launch} {Γ : Gl} {B : Bs} {w : Wl} {G : Gf} {sz : Nat} {l1 : Int32} {l2 : Int32} {r : Int32} (hC : GC Γ B) (hW : Wd Γ B w G) (h : sX12_work w l1 l2 = some (Sum.inr r)) : CtR l Γ yX12_work cX12_work 3 (some .int) 7 [.ref (B.1 + 0), .int l1, .int l2] G sz (.int r) := by
  refine Ct.of rfl (Nat.le_of_ble_eq_true rfl) fun X hx hr hl hΓ hnm => ?_
  subst hl hΓ
  show J X 3 G sz 0 0 0 [some (.ref (B.1 + 0)), some (.int l1), some (.int l2)] []
  unfold sX12_work at h
  refine J_al4 hx rfl rfl dX12_work_0 ?_
  refine g12_1 hx hW 73 (rfl : kd 0 = 1) fl_X12_21 rfl dX12_work_1 ?_
  refine J_al4 hx rfl rfl dX12_work_4 ?_
  refine g12_0 hx hW 1 (rfl : kd 0 = 1) fl_X12_10 rfl dX12_work_5 ?_
  refine J_il4 hx rfl rfl dX12_work_8 ?_
  obtain ⟨r1, hr2, h⟩ := bnd h
  refine J_rdV hx (kX6_hasWork  hW hr2) ml_X12_187 lk_X6_hasWork (ci := 5) rfl (hW.obj (rfl : kd 1 = 2) (by decide) (by decide)) (rest := [.ref (B.1 + 73)]) rfl rfl (by decide) (by decide) (Nat.le_of_ble_eq_true rfl) (Nat.le_refl 0) (Nat.le_refl 0) dX12_work_9 ?_
  refine J_il4 hx rfl rfl dX12_work_12 ?_
  refine J_bipush hx (8 : Int32) dX12_work_13 rfl ?_
  obtain ⟨r3, hr4, h⟩ := bnd h
  refine J_rdV hx (kX1_ofValue  hW hr4) ml_X12_180 lk_X1_ofValue (ci := 0) rfl (hW.obj (rfl : kd 73 = 11) (by decide) (by decide)) (rest := []) rfl rfl (by decide) (by decide) (Nat.le_of_ble_eq_true rfl) (Nat.le_refl 0) (Nat.le_refl 0) dX12_work_15 ?_
  obtain ⟨hti, h⟩ := tiw_o h
  refine J_callS hx (kO_throwIfWrong hti) ml_X12_66 lk_X12_throwIfWrong (rest := []) rfl rfl (by decide) (by decide) (Nat.le_of_ble_eq_true rfl) (Nat.le_refl 0) (Nat.le_refl 0) dX12_work_18 fun r1 G1 sz1 hh => ?_
  obtain ⟨rfl, hG0, hz0⟩ := hh
  rw [hG0, hz0]
  show J X 3 _ _ 0 0 21 [some (.ref (B.1 + 0)), some (.int l1), some (.int l2)] []
  refine J_al4 hx rfl rfl dX12_work_21 ?_
  refine g12_3 hx hW 75 (rfl : kd 0 = 1) fl_X12_35 rfl dX12_work_22 ?_
  refine J_il4 hx rfl rfl dX12_work_25 ?_
  refine J_il4 hx rfl rfl dX12_work_26 ?_
  obtain ⟨r5, hr6, h⟩ := bnd h
  refine J_rdV hx (kX8_ofWork  hW hr6) ml_X12_190 lk_X8_ofWork (ci := 7) rfl (hW.obj (rfl : kd 75 = 13) (by decide) (by decide)) (rest := []) rfl rfl (by decide) (by decide) (Nat.le_of_ble_eq_true rfl) (Nat.le_refl 0) (Nat.le_refl 0) dX12_work_27 ?_
  obtain rfl := Sum.inr.inj (Option.some.inj h)
  exact J_iretR hx hr dX12_work_30 (Nat.le_refl 0) (Nat.le_refl 0) rfl
theorem kO_noted {l : Launch} {Γ : Gl} {B : Bs} {w : Wl} {G : Gf} {sz : Nat} {l1 : Int32} {l2 : Int32} {r : Int32} (hC : GC Γ B) (hW : Wd Γ B w G) (h : sX12_noted w l1 l2 = some (Sum.inr r)) : CtR l Γ yX12_noted cX12_noted 3 (some .int) 7 [.ref (B.1 + 0), .int l1, .int l2] G sz (.int r) := by
  refine Ct.of rfl (Nat.le_of_ble_eq_true rfl) fun X hx hr hl hΓ hnm => ?_
  subst hl hΓ
  show J X 3 G sz 0 0 0 [some (.ref (B.1 + 0)), some (.int l1), some (.int l2)] []
  unfold sX12_noted at h
  refine J_al4 hx rfl rfl dX12_noted_0 ?_
  refine g12_1 hx hW 73 (rfl : kd 0 = 1) fl_X12_21 rfl dX12_noted_1 ?_
  refine J_il4 hx rfl rfl dX12_noted_4 ?_
  refine J_il4 hx rfl rfl dX12_noted_5 ?_
  obtain ⟨r1, hr2, h⟩ := bnd h
  refine J_rdV hx (kX1_ofNoted  hW hr2) ml_X12_193 lk_X1_ofNoted (ci := 0) rfl (hW.obj (rfl : kd 73 = 11) (by decide) (by decide)) (rest := []) rfl rfl (by decide) (by decide) (Nat.le_of_ble_eq_true rfl) (Nat.le_refl 0) (Nat.le_refl 0) dX12_noted_6 ?_
  obtain ⟨hti, h⟩ := tiw_o h
  refine J_callS hx (kO_throwIfWrong hti) ml_X12_66 lk_X12_throwIfWrong (rest := []) rfl rfl (by decide) (by decide) (Nat.le_of_ble_eq_true rfl) (Nat.le_refl 0) (Nat.le_refl 0) dX12_noted_9 fun r1 G1 sz1 hh => ?_
  obtain ⟨rfl, hG0, hz0⟩ := hh
  rw [hG0, hz0]
  show J X 3 _ _ 0 0 12 [some (.ref (B.1 + 0)), some (.int l1), some (.int l2)] []
  refine J_al4 hx rfl rfl dX12_noted_12 ?_
  refine g12_0 hx hW 1 (rfl : kd 0 = 1) fl_X12_10 rfl dX12_noted_13 ?_
  refine g6_11 hx hW 4 (rfl : kd 1 = 2) fl_X12_196 rfl dX12_noted_16 ?_
  refine J_il4 hx rfl rfl dX12_noted_19 ?_
  obtain ⟨c3, hc4, h⟩ := bnd h
  refine J_a5 hx hW (41 + 2 * c3) (rfl : kd 4 = 5) hc4 rfl dX12_noted_20 fun hk5 => ?_
  refine J_il4 hx rfl rfl dX12_noted_21 ?_
  obtain ⟨r6, hr7, h⟩ := bnd h
  refine J_rdV hx (kX11_placeNoted hk5 hW hr7) ml_X12_200 lk_X11_placeNoted (ci := 9) rfl (hW.obj hk5 (by decide) (by decide)) (rest := []) rfl rfl (by decide) (by decide) (Nat.le_of_ble_eq_true rfl) (Nat.le_refl 0) (Nat.le_refl 0) dX12_noted_22 ?_
  obtain rfl := Sum.inr.inj (Option.some.inj h)
  exact J_iretR hx hr dX12_noted_25 (Nat.le_refl 0) (Nat.le_refl 0) rfl
theorem kO_venue {l : Launch} {Γ : Gl} {B : Bs} {w : Wl} {G : Gf} {sz : Nat} {l1 : Int32} {l2 : Int32} {r : Int32} (hC : GC Γ B) (hW : Wd Γ B w G) (h : sX12_venue w l1 l2 = some (Sum.inr r)) : CtR l Γ yX12_venue cX12_venue 3 (some .int) 7 [.ref (B.1 + 0), .int l1, .int l2] G sz (.int r) := by
  refine Ct.of rfl (Nat.le_of_ble_eq_true rfl) fun X hx hr hl hΓ hnm => ?_
  subst hl hΓ
  show J X 3 G sz 0 0 0 [some (.ref (B.1 + 0)), some (.int l1), some (.int l2)] []
  unfold sX12_venue at h
  refine J_al4 hx rfl rfl dX12_venue_0 ?_
  refine g12_1 hx hW 73 (rfl : kd 0 = 1) fl_X12_21 rfl dX12_venue_1 ?_
  refine J_al4 hx rfl rfl dX12_venue_4 ?_
  refine g12_0 hx hW 1 (rfl : kd 0 = 1) fl_X12_10 rfl dX12_venue_5 ?_
  refine J_il4 hx rfl rfl dX12_venue_8 ?_
  obtain ⟨r1, hr2, h⟩ := bnd h
  refine J_rdV hx (kX6_hasVenue  hW hr2) ml_X12_205 lk_X6_hasVenue (ci := 5) rfl (hW.obj (rfl : kd 1 = 2) (by decide) (by decide)) (rest := [.ref (B.1 + 73)]) rfl rfl (by decide) (by decide) (Nat.le_of_ble_eq_true rfl) (Nat.le_refl 0) (Nat.le_refl 0) dX12_venue_9 ?_
  refine J_il4 hx rfl rfl dX12_venue_12 ?_
  refine J_bipush hx (9 : Int32) dX12_venue_13 rfl ?_
  obtain ⟨r3, hr4, h⟩ := bnd h
  refine J_rdV hx (kX1_ofValue  hW hr4) ml_X12_180 lk_X1_ofValue (ci := 0) rfl (hW.obj (rfl : kd 73 = 11) (by decide) (by decide)) (rest := []) rfl rfl (by decide) (by decide) (Nat.le_of_ble_eq_true rfl) (Nat.le_refl 0) (Nat.le_refl 0) dX12_venue_15 ?_
  obtain ⟨hti, h⟩ := tiw_o h
  refine J_callS hx (kO_throwIfWrong hti) ml_X12_66 lk_X12_throwIfWrong (rest := []) rfl rfl (by decide) (by decide) (Nat.le_of_ble_eq_true rfl) (Nat.le_refl 0) (Nat.le_refl 0) dX12_venue_18 fun r1 G1 sz1 hh => ?_
  obtain ⟨rfl, hG0, hz0⟩ := hh
  rw [hG0, hz0]
  show J X 3 _ _ 0 0 21 [some (.ref (B.1 + 0)), some (.int l1), some (.int l2)] []
  refine J_al4 hx rfl rfl dX12_venue_21 ?_
  refine g12_3 hx hW 75 (rfl : kd 0 = 1) fl_X12_35 rfl dX12_venue_22 ?_
  refine J_il4 hx rfl rfl dX12_venue_25 ?_
  refine J_il4 hx rfl rfl dX12_venue_26 ?_
  obtain ⟨r5, hr6, h⟩ := bnd h
  refine J_rdV hx (kX8_ofVenue  hW hr6) ml_X12_208 lk_X8_ofVenue (ci := 7) rfl (hW.obj (rfl : kd 75 = 13) (by decide) (by decide)) (rest := []) rfl rfl (by decide) (by decide) (Nat.le_of_ble_eq_true rfl) (Nat.le_refl 0) (Nat.le_refl 0) dX12_venue_27 ?_
  obtain rfl := Sum.inr.inj (Option.some.inj h)
  exact J_iretR hx hr dX12_venue_30 (Nat.le_refl 0) (Nat.le_refl 0) rfl
theorem kO_courier {l : Launch} {Γ : Gl} {B : Bs} {w : Wl} {G : Gf} {sz : Nat} {l1 : Int32} {r : Int32} (hC : GC Γ B) (hW : Wd Γ B w G) (h : sX12_courier w l1 = some (Sum.inr r)) : CtR l Γ yX12_courier cX12_courier 2 (some .int) 7 [.ref (B.1 + 0), .int l1] G sz (.int r) := by
  refine Ct.of rfl (Nat.le_of_ble_eq_true rfl) fun X hx hr hl hΓ hnm => ?_
  subst hl hΓ
  show J X 2 G sz 0 0 0 [some (.ref (B.1 + 0)), some (.int l1)] []
  unfold sX12_courier at h
  refine J_al4 hx rfl rfl dX12_courier_0 ?_
  refine g12_1 hx hW 73 (rfl : kd 0 = 1) fl_X12_21 rfl dX12_courier_1 ?_
  refine J_al4 hx rfl rfl dX12_courier_4 ?_
  refine g12_0 hx hW 1 (rfl : kd 0 = 1) fl_X12_10 rfl dX12_courier_5 ?_
  refine J_il4 hx rfl rfl dX12_courier_8 ?_
  obtain ⟨r1, hr2, h⟩ := bnd h
  refine J_rdV hx (kX6_hasCourier  hW hr2) ml_X12_211 lk_X6_hasCourier (ci := 5) rfl (hW.obj (rfl : kd 1 = 2) (by decide) (by decide)) (rest := [.ref (B.1 + 73)]) rfl rfl (by decide) (by decide) (Nat.le_of_ble_eq_true rfl) (Nat.le_refl 0) (Nat.le_refl 0) dX12_courier_9 ?_
  obtain ⟨r3, hr4, h⟩ := bnd h
  refine J_rdV hx (kX1_ofNumber  hW hr4) ml_X12_214 lk_X1_ofNumber (ci := 0) rfl (hW.obj (rfl : kd 73 = 11) (by decide) (by decide)) (rest := []) rfl rfl (by decide) (by decide) (Nat.le_of_ble_eq_true rfl) (Nat.le_refl 0) (Nat.le_refl 0) dX12_courier_12 ?_
  obtain ⟨hti, h⟩ := tiw_o h
  refine J_callS hx (kO_throwIfWrong hti) ml_X12_66 lk_X12_throwIfWrong (rest := []) rfl rfl (by decide) (by decide) (Nat.le_of_ble_eq_true rfl) (Nat.le_refl 0) (Nat.le_refl 0) dX12_courier_15 fun r1 G1 sz1 hh => ?_
  obtain ⟨rfl, hG0, hz0⟩ := hh
  rw [hG0, hz0]
  show J X 2 _ _ 0 0 18 [some (.ref (B.1 + 0)), some (.int l1)] []
  refine J_al4 hx rfl rfl dX12_courier_18 ?_
  refine g12_0 hx hW 1 (rfl : kd 0 = 1) fl_X12_10 rfl dX12_courier_19 ?_
  refine g6_12 hx hW 5 (rfl : kd 1 = 2) fl_X12_218 rfl dX12_courier_22 ?_
  refine J_il4 hx rfl rfl dX12_courier_25 ?_
  obtain ⟨c5, hc6, h⟩ := bnd h
  refine J_iaW hx hW (rfl : kd 5 = 104) hc6 dX12_courier_26 ?_
  obtain rfl := Sum.inr.inj (Option.some.inj h)
  exact J_iretR hx hr dX12_courier_27 (Nat.le_refl 0) (Nat.le_refl 0) rfl
theorem kO_whole {l : Launch} {Γ : Gl} {B : Bs} {w : Wl} {G : Gf} {sz : Nat} {l1 : Int32} {r : Int32} (hC : GC Γ B) (hW : Wd Γ B w G) (h : sX12_whole w l1 = some (Sum.inr r)) : CtR l Γ yX12_whole cX12_whole 2 (some .int) 7 [.ref (B.1 + 0), .int l1] G sz (.int r) := by
  refine Ct.of rfl (Nat.le_of_ble_eq_true rfl) fun X hx hr hl hΓ hnm => ?_
  subst hl hΓ
  show J X 2 G sz 0 0 0 [some (.ref (B.1 + 0)), some (.int l1)] []
  unfold sX12_whole at h
  refine J_al4 hx rfl rfl dX12_whole_0 ?_
  refine g12_1 hx hW 73 (rfl : kd 0 = 1) fl_X12_21 rfl dX12_whole_1 ?_
  refine J_iconst hx (1 : Int32) dX12_whole_4 rfl ?_
  refine J_il4 hx rfl rfl dX12_whole_5 ?_
  refine J_bipush hx (10 : Int32) dX12_whole_6 rfl ?_
  obtain ⟨r1, hr2, h⟩ := bnd h
  refine J_rdV hx (kX1_ofValue  hW hr2) ml_X12_180 lk_X1_ofValue (ci := 0) rfl (hW.obj (rfl : kd 73 = 11) (by decide) (by decide)) (rest := []) rfl rfl (by decide) (by decide) (Nat.le_of_ble_eq_true rfl) (Nat.le_refl 0) (Nat.le_refl 0) dX12_whole_8 ?_
  obtain ⟨hti, h⟩ := tiw_o h
  refine J_callS hx (kO_throwIfWrong hti) ml_X12_66 lk_X12_throwIfWrong (rest := []) rfl rfl (by decide) (by decide) (Nat.le_of_ble_eq_true rfl) (Nat.le_refl 0) (Nat.le_refl 0) dX12_whole_11 fun r1 G1 sz1 hh => ?_
  obtain ⟨rfl, hG0, hz0⟩ := hh
  rw [hG0, hz0]
  show J X 2 _ _ 0 0 14 [some (.ref (B.1 + 0)), some (.int l1)] []
  refine J_al4 hx rfl rfl dX12_whole_14 ?_
  refine g12_3 hx hW 75 (rfl : kd 0 = 1) fl_X12_35 rfl dX12_whole_15 ?_
  refine J_il4 hx rfl rfl dX12_whole_18 ?_
  obtain ⟨r3, hr4, h⟩ := bnd h
  refine J_rdV hx (kX8_ofWhole  hW hr4) ml_X12_222 lk_X8_ofWhole (ci := 7) rfl (hW.obj (rfl : kd 75 = 13) (by decide) (by decide)) (rest := []) rfl rfl (by decide) (by decide) (Nat.le_of_ble_eq_true rfl) (Nat.le_refl 0) (Nat.le_refl 0) dX12_whole_19 ?_
  obtain rfl := Sum.inr.inj (Option.some.inj h)
  exact J_iretR hx hr dX12_whole_22 (Nat.le_refl 0) (Nat.le_refl 0) rfl
theorem kO_readyAt {l : Launch} {Γ : Gl} {B : Bs} {w : Wl} {G : Gf} {sz : Nat} {l1 : Int32} {r : Int32 × Wl} (hC : GC Γ B) (hW : Wd Γ B w G) (h : sX12_readyAt w l1 = some (Sum.inr r)) : CtW l Γ yX12_readyAt cX12_readyAt 2 (some .int) 7 [.ref (B.1 + 0), .int l1] G sz B (some (.int r.1)) r.2 := by
  refine Ct.of rfl (Nat.le_of_ble_eq_true rfl) fun X hx hr hl hΓ hnm => ?_
  subst hl hΓ
  show J X 2 G sz 0 0 0 [some (.ref (B.1 + 0)), some (.int l1)] []
  unfold sX12_readyAt at h
  refine J_al4 hx rfl rfl dX12_readyAt_0 ?_
  refine g12_1 hx hW 73 (rfl : kd 0 = 1) fl_X12_21 rfl dX12_readyAt_1 ?_
  refine J_al4 hx rfl rfl dX12_readyAt_4 ?_
  refine g12_0 hx hW 1 (rfl : kd 0 = 1) fl_X12_10 rfl dX12_readyAt_5 ?_
  refine J_il4 hx rfl rfl dX12_readyAt_8 ?_
  obtain ⟨r1, hr2, h⟩ := bnd h
  refine J_rdV hx (kX6_hasWork  hW hr2) ml_X12_187 lk_X6_hasWork (ci := 5) rfl (hW.obj (rfl : kd 1 = 2) (by decide) (by decide)) (rest := [.ref (B.1 + 73)]) rfl rfl (by decide) (by decide) (Nat.le_of_ble_eq_true rfl) (Nat.le_refl 0) (Nat.le_refl 0) dX12_readyAt_9 ?_
  obtain ⟨r3, hr4, h⟩ := bnd h
  refine J_rdV hx (kX1_ofNumber  hW hr4) ml_X12_214 lk_X1_ofNumber (ci := 0) rfl (hW.obj (rfl : kd 73 = 11) (by decide) (by decide)) (rest := []) rfl rfl (by decide) (by decide) (Nat.le_of_ble_eq_true rfl) (Nat.le_refl 0) (Nat.le_refl 0) dX12_readyAt_12 ?_
  obtain ⟨hti, h⟩ := tiw_o h
  refine J_callS hx (kO_throwIfWrong hti) ml_X12_66 lk_X12_throwIfWrong (rest := []) rfl rfl (by decide) (by decide) (Nat.le_of_ble_eq_true rfl) (Nat.le_refl 0) (Nat.le_refl 0) dX12_readyAt_15 fun r1 G1 sz1 hh => ?_
  obtain ⟨rfl, hG0, hz0⟩ := hh
  rw [hG0, hz0]
  show J X 2 _ _ 0 0 18 [some (.ref (B.1 + 0)), some (.int l1)] []
  refine J_al4 hx rfl rfl dX12_readyAt_18 ?_
  refine g12_4 hx hW 76 (rfl : kd 0 = 1) fl_X12_44 rfl dX12_readyAt_19 ?_
  refine J_il4 hx rfl rfl dX12_readyAt_22 ?_
  obtain ⟨r5, hr6, h⟩ := bnd h
  refine J_wrV hx (kX5_timeOfWork  hW hr6) ml_X12_225 lk_X5_timeOfWork (ci := 4) rfl (hW.obj (rfl : kd 76 = 14) (by decide) (by decide)) (rest := []) rfl rfl (by decide) (by decide) (Nat.le_of_ble_eq_true rfl) (Nat.le_refl 0) (Nat.le_refl 0) dX12_readyAt_23 fun G7 hW8 => ?_
  show J X 2 G7 sz 0 0 26 [some (.ref (B.1 + 0)), some (.int l1)] [.int r5.1]
  obtain rfl := Sum.inr.inj (Option.some.inj h)
  exact J_iretW hx hr hW8 dX12_readyAt_26 (Nat.le_refl 0) (Nat.le_refl 0)
theorem kO_allReadyAt {l : Launch} {Γ : Gl} {B : Bs} {w : Wl} {G : Gf} {sz : Nat} {l1 : Int32} {r : Int32 × Wl} (hC : GC Γ B) (hW : Wd Γ B w G) (h : sX12_allReadyAt w l1 = some (Sum.inr r)) : CtW l Γ yX12_allReadyAt cX12_allReadyAt 2 (some .int) 7 [.ref (B.1 + 0), .int l1] G sz B (some (.int r.1)) r.2 := by
  refine Ct.of rfl (Nat.le_of_ble_eq_true rfl) fun X hx hr hl hΓ hnm => ?_
  subst hl hΓ
  show J X 2 G sz 0 0 0 [some (.ref (B.1 + 0)), some (.int l1)] []
  unfold sX12_allReadyAt at h
  refine J_al4 hx rfl rfl dX12_allReadyAt_0 ?_
  refine g12_1 hx hW 73 (rfl : kd 0 = 1) fl_X12_21 rfl dX12_allReadyAt_1 ?_
  refine J_al4 hx rfl rfl dX12_allReadyAt_4 ?_
  refine g12_0 hx hW 1 (rfl : kd 0 = 1) fl_X12_10 rfl dX12_allReadyAt_5 ?_
  refine J_il4 hx rfl rfl dX12_allReadyAt_8 ?_
  obtain ⟨r1, hr2, h⟩ := bnd h
  refine J_rdV hx (kX6_hasCrate  hW hr2) ml_X12_176 lk_X6_hasCrate (ci := 5) rfl (hW.obj (rfl : kd 1 = 2) (by decide) (by decide)) (rest := [.ref (B.1 + 73)]) rfl rfl (by decide) (by decide) (Nat.le_of_ble_eq_true rfl) (Nat.le_refl 0) (Nat.le_refl 0) dX12_allReadyAt_9 ?_
  obtain ⟨r3, hr4, h⟩ := bnd h
  refine J_rdV hx (kX1_ofNumber  hW hr4) ml_X12_214 lk_X1_ofNumber (ci := 0) rfl (hW.obj (rfl : kd 73 = 11) (by decide) (by decide)) (rest := []) rfl rfl (by decide) (by decide) (Nat.le_of_ble_eq_true rfl) (Nat.le_refl 0) (Nat.le_refl 0) dX12_allReadyAt_12 ?_
  obtain ⟨hti, h⟩ := tiw_o h
  refine J_callS hx (kO_throwIfWrong hti) ml_X12_66 lk_X12_throwIfWrong (rest := []) rfl rfl (by decide) (by decide) (Nat.le_of_ble_eq_true rfl) (Nat.le_refl 0) (Nat.le_refl 0) dX12_allReadyAt_15 fun r1 G1 sz1 hh => ?_
  obtain ⟨rfl, hG0, hz0⟩ := hh
  rw [hG0, hz0]
  show J X 2 _ _ 0 0 18 [some (.ref (B.1 + 0)), some (.int l1)] []
  refine J_al4 hx rfl rfl dX12_allReadyAt_18 ?_
  refine g12_4 hx hW 76 (rfl : kd 0 = 1) fl_X12_44 rfl dX12_allReadyAt_19 ?_
  refine J_il4 hx rfl rfl dX12_allReadyAt_22 ?_
  obtain ⟨r5, hr6, h⟩ := bnd h
  refine J_wrV hx (kX5_timeOfCrate  hW hr6) ml_X12_228 lk_X5_timeOfCrate (ci := 4) rfl (hW.obj (rfl : kd 76 = 14) (by decide) (by decide)) (rest := []) rfl rfl (by decide) (by decide) (Nat.le_of_ble_eq_true rfl) (Nat.le_refl 0) (Nat.le_refl 0) dX12_allReadyAt_23 fun G7 hW8 => ?_
  show J X 2 G7 sz 0 0 26 [some (.ref (B.1 + 0)), some (.int l1)] [.int r5.1]
  obtain rfl := Sum.inr.inj (Option.some.inj h)
  exact J_iretW hx hr hW8 dX12_allReadyAt_26 (Nat.le_refl 0) (Nat.le_refl 0)
theorem kO_bestVenue {l : Launch} {Γ : Gl} {B : Bs} {w : Wl} {G : Gf} {sz : Nat} {l1 : Int32} {l2 : Int32} {r : Int32 × Wl} (hC : GC Γ B) (hW : Wd Γ B w G) (h : sX12_bestVenue w l1 l2 = some (Sum.inr r)) : CtW l Γ yX12_bestVenue cX12_bestVenue 3 (some .int) 7 [.ref (B.1 + 0), .int l1, .int l2] G sz B (some (.int r.1)) r.2 := by
  refine Ct.of rfl (Nat.le_of_ble_eq_true rfl) fun X hx hr hl hΓ hnm => ?_
  subst hl hΓ
  show J X 3 G sz 0 0 0 [some (.ref (B.1 + 0)), some (.int l1), some (.int l2)] []
  unfold sX12_bestVenue at h
  refine J_al4 hx rfl rfl dX12_bestVenue_0 ?_
  refine g12_1 hx hW 73 (rfl : kd 0 = 1) fl_X12_21 rfl dX12_bestVenue_1 ?_
  refine J_al4 hx rfl rfl dX12_bestVenue_4 ?_
  refine g12_0 hx hW 1 (rfl : kd 0 = 1) fl_X12_10 rfl dX12_bestVenue_5 ?_
  refine J_il4 hx rfl rfl dX12_bestVenue_8 ?_
  obtain ⟨r1, hr2, h⟩ := bnd h
  refine J_rdV hx (kX6_hasCrate  hW hr2) ml_X12_176 lk_X6_hasCrate (ci := 5) rfl (hW.obj (rfl : kd 1 = 2) (by decide) (by decide)) (rest := [.ref (B.1 + 73)]) rfl rfl (by decide) (by decide) (Nat.le_of_ble_eq_true rfl) (Nat.le_refl 0) (Nat.le_refl 0) dX12_bestVenue_9 ?_
  refine J_bif_eq hx 30 dX12_bestVenue_12 rfl (fun h3 => ?_) (fun h3 => ?_)
  · replace h := neg h (bft h3)
    refine J_iconst hx (0 : Int32) dX12_bestVenue_30 rfl ?_
    obtain ⟨r4, hr5, h⟩ := bnd h
    refine J_rdV hx (kX1_ofNumber  hW hr5) ml_X12_214 lk_X1_ofNumber (ci := 0) rfl (hW.obj (rfl : kd 73 = 11) (by decide) (by decide)) (rest := []) rfl rfl (by decide) (by decide) (Nat.le_of_ble_eq_true rfl) (Nat.le_refl 0) (Nat.le_refl 0) dX12_bestVenue_31 ?_
    obtain ⟨hti, h⟩ := tiw_o h
    refine J_callS hx (kO_throwIfWrong hti) ml_X12_66 lk_X12_throwIfWrong (rest := []) rfl rfl (by decide) (by decide) (Nat.le_of_ble_eq_true rfl) (Nat.le_refl 0) (Nat.le_refl 0) dX12_bestVenue_34 fun r1 G1 sz1 hh => ?_
    obtain ⟨rfl, hG0, hz0⟩ := hh
    rw [hG0, hz0]
    show J X 3 _ _ 0 0 37 [some (.ref (B.1 + 0)), some (.int l1), some (.int l2)] []
    refine J_al4 hx rfl rfl dX12_bestVenue_37 ?_
    refine g12_4 hx hW 76 (rfl : kd 0 = 1) fl_X12_44 rfl dX12_bestVenue_38 ?_
    refine J_il4 hx rfl rfl dX12_bestVenue_41 ?_
    refine J_il4 hx rfl rfl dX12_bestVenue_42 ?_
    obtain ⟨r6, hr7, h⟩ := bnd h
    refine J_wrV hx (kX5_soonestVenue  hW hr7) ml_X12_234 lk_X5_soonestVenue (ci := 4) rfl (hW.obj (rfl : kd 76 = 14) (by decide) (by decide)) (rest := []) rfl rfl (by decide) (by decide) (Nat.le_of_ble_eq_true rfl) (Nat.le_refl 0) (Nat.le_refl 0) dX12_bestVenue_43 fun G8 hW9 => ?_
    show J X 3 G8 sz 0 0 46 [some (.ref (B.1 + 0)), some (.int l1), some (.int l2)] [.int r6.1]
    obtain rfl := Sum.inr.inj (Option.some.inj h)
    exact J_iretW hx hr hW9 dX12_bestVenue_46 (Nat.le_refl 0) (Nat.le_refl 0)
  · replace h := pos h h3
    refine J_al4 hx rfl rfl dX12_bestVenue_15 ?_
    refine g12_0 hx hW 1 (rfl : kd 0 = 1) fl_X12_10 rfl dX12_bestVenue_16 ?_
    refine J_il4 hx rfl rfl dX12_bestVenue_19 ?_
    obtain ⟨r10, hr11, h⟩ := bnd h
    refine J_rdV hx (kX6_isCourierOrNone  hW hr11) ml_X12_231 lk_X6_isCourierOrNone (ci := 5) rfl (hW.obj (rfl : kd 1 = 2) (by decide) (by decide)) (rest := [.ref (B.1 + 73)]) rfl rfl (by decide) (by decide) (Nat.le_of_ble_eq_true rfl) (Nat.le_refl 0) (Nat.le_refl 0) dX12_bestVenue_20 ?_
    refine J_bif_eq hx 30 dX12_bestVenue_23 rfl (fun h12 => ?_) (fun h12 => ?_)
    · replace h := neg h (bft h12)
      refine J_iconst hx (0 : Int32) dX12_bestVenue_30 rfl ?_
      obtain ⟨r13, hr14, h⟩ := bnd h
      refine J_rdV hx (kX1_ofNumber  hW hr14) ml_X12_214 lk_X1_ofNumber (ci := 0) rfl (hW.obj (rfl : kd 73 = 11) (by decide) (by decide)) (rest := []) rfl rfl (by decide) (by decide) (Nat.le_of_ble_eq_true rfl) (Nat.le_refl 0) (Nat.le_refl 0) dX12_bestVenue_31 ?_
      obtain ⟨hti, h⟩ := tiw_o h
      refine J_callS hx (kO_throwIfWrong hti) ml_X12_66 lk_X12_throwIfWrong (rest := []) rfl rfl (by decide) (by decide) (Nat.le_of_ble_eq_true rfl) (Nat.le_refl 0) (Nat.le_refl 0) dX12_bestVenue_34 fun r1 G1 sz1 hh => ?_
      obtain ⟨rfl, hG0, hz0⟩ := hh
      rw [hG0, hz0]
      show J X 3 _ _ 0 0 37 [some (.ref (B.1 + 0)), some (.int l1), some (.int l2)] []
      refine J_al4 hx rfl rfl dX12_bestVenue_37 ?_
      refine g12_4 hx hW 76 (rfl : kd 0 = 1) fl_X12_44 rfl dX12_bestVenue_38 ?_
      refine J_il4 hx rfl rfl dX12_bestVenue_41 ?_
      refine J_il4 hx rfl rfl dX12_bestVenue_42 ?_
      obtain ⟨r15, hr16, h⟩ := bnd h
      refine J_wrV hx (kX5_soonestVenue  hW hr16) ml_X12_234 lk_X5_soonestVenue (ci := 4) rfl (hW.obj (rfl : kd 76 = 14) (by decide) (by decide)) (rest := []) rfl rfl (by decide) (by decide) (Nat.le_of_ble_eq_true rfl) (Nat.le_refl 0) (Nat.le_refl 0) dX12_bestVenue_43 fun G17 hW18 => ?_
      show J X 3 G17 sz 0 0 46 [some (.ref (B.1 + 0)), some (.int l1), some (.int l2)] [.int r15.1]
      obtain rfl := Sum.inr.inj (Option.some.inj h)
      exact J_iretW hx hr hW18 dX12_bestVenue_46 (Nat.le_refl 0) (Nat.le_refl 0)
    · replace h := pos h h12
      refine J_iconst hx (1 : Int32) dX12_bestVenue_26 rfl ?_
      refine J_goto hx 31 dX12_bestVenue_27 rfl ?_
      obtain ⟨r19, hr20, h⟩ := bnd h
      refine J_rdV hx (kX1_ofNumber  hW hr20) ml_X12_214 lk_X1_ofNumber (ci := 0) rfl (hW.obj (rfl : kd 73 = 11) (by decide) (by decide)) (rest := []) rfl rfl (by decide) (by decide) (Nat.le_of_ble_eq_true rfl) (Nat.le_refl 0) (Nat.le_refl 0) dX12_bestVenue_31 ?_
      obtain ⟨hti, h⟩ := tiw_o h
      refine J_callS hx (kO_throwIfWrong hti) ml_X12_66 lk_X12_throwIfWrong (rest := []) rfl rfl (by decide) (by decide) (Nat.le_of_ble_eq_true rfl) (Nat.le_refl 0) (Nat.le_refl 0) dX12_bestVenue_34 fun r1 G1 sz1 hh => ?_
      obtain ⟨rfl, hG0, hz0⟩ := hh
      rw [hG0, hz0]
      show J X 3 _ _ 0 0 37 [some (.ref (B.1 + 0)), some (.int l1), some (.int l2)] []
      refine J_al4 hx rfl rfl dX12_bestVenue_37 ?_
      refine g12_4 hx hW 76 (rfl : kd 0 = 1) fl_X12_44 rfl dX12_bestVenue_38 ?_
      refine J_il4 hx rfl rfl dX12_bestVenue_41 ?_
      refine J_il4 hx rfl rfl dX12_bestVenue_42 ?_
      obtain ⟨r21, hr22, h⟩ := bnd h
      refine J_wrV hx (kX5_soonestVenue  hW hr22) ml_X12_234 lk_X5_soonestVenue (ci := 4) rfl (hW.obj (rfl : kd 76 = 14) (by decide) (by decide)) (rest := []) rfl rfl (by decide) (by decide) (Nat.le_of_ble_eq_true rfl) (Nat.le_refl 0) (Nat.le_refl 0) dX12_bestVenue_43 fun G23 hW24 => ?_
      show J X 3 G23 sz 0 0 46 [some (.ref (B.1 + 0)), some (.int l1), some (.int l2)] [.int r21.1]
      obtain rfl := Sum.inr.inj (Option.some.inj h)
      exact J_iretW hx hr hW24 dX12_bestVenue_46 (Nat.le_refl 0) (Nat.le_refl 0)
theorem kO_type {l : Launch} {Γ : Gl} {B : Bs} {w : Wl} {G : Gf} {sz : Nat} {l1 : Int32} {r : Int32 × Wl} (hC : GC Γ B) (hW : Wd Γ B w G) (h : sX12_type w l1 = some (Sum.inr r)) : CtW l Γ yX12_type cX12_type 2 (some .int) 7 [.ref (B.1 + 0), .int l1] G sz B (some (.int r.1)) r.2 := by
  refine Ct.of rfl (Nat.le_of_ble_eq_true rfl) fun X hx hr hl hΓ hnm => ?_
  subst hl hΓ
  show J X 2 G sz 0 0 0 [some (.ref (B.1 + 0)), some (.int l1)] []
  unfold sX12_type at h
  refine J_al4 hx rfl rfl dX12_type_0 ?_
  refine g12_1 hx hW 73 (rfl : kd 0 = 1) fl_X12_21 rfl dX12_type_1 ?_
  refine J_il4 hx rfl rfl dX12_type_4 ?_
  refine J_al4 hx rfl rfl dX12_type_5 ?_
  refine g12_6 hx hW 368 (rfl : kd 0 = 1) fl_X12_58 rfl dX12_type_6 ?_
  refine g2_1 hx hW (rfl : kd 368 = 17) fl_X12_237 dX12_type_9 ?_
  obtain ⟨r1, hr2, h⟩ := bnd h
  refine J_rdV hx (kX1_ofByte  hW hr2) ml_X12_241 lk_X1_ofByte (ci := 0) rfl (hW.obj (rfl : kd 73 = 11) (by decide) (by decide)) (rest := []) rfl rfl (by decide) (by decide) (Nat.le_of_ble_eq_true rfl) (Nat.le_refl 0) (Nat.le_refl 0) dX12_type_12 ?_
  obtain ⟨hti, h⟩ := tiw_o h
  refine J_callS hx (kO_throwIfWrong hti) ml_X12_66 lk_X12_throwIfWrong (rest := []) rfl rfl (by decide) (by decide) (Nat.le_of_ble_eq_true rfl) (Nat.le_refl 0) (Nat.le_refl 0) dX12_type_15 fun r1 G1 sz1 hh => ?_
  obtain ⟨rfl, hG0, hz0⟩ := hh
  rw [hG0, hz0]
  show J X 2 _ _ 0 0 18 [some (.ref (B.1 + 0)), some (.int l1)] []
  refine J_al4 hx rfl rfl dX12_type_18 ?_
  refine g12_6 hx hW 368 (rfl : kd 0 = 1) fl_X12_58 rfl dX12_type_19 ?_
  refine J_il4 hx rfl rfl dX12_type_22 ?_
  obtain ⟨r3, hr4, h⟩ := bnd h
  refine J_wrV hx (kX2_append  hW hr4) ml_X12_244 lk_X2_append (ci := 1) rfl (hW.obj (rfl : kd 368 = 17) (by decide) (by decide)) (rest := []) rfl rfl (by decide) (by decide) (Nat.le_of_ble_eq_true rfl) (Nat.le_refl 0) (Nat.le_refl 0) dX12_type_23 fun G5 hW6 => ?_
  show J X 2 G5 sz 0 0 26 [some (.ref (B.1 + 0)), some (.int l1)] [.int r3.1]
  obtain rfl := Sum.inr.inj (Option.some.inj h)
  exact J_iretW hx hr hW6 dX12_type_26 (Nat.le_refl 0) (Nat.le_refl 0)
theorem kO_undo {l : Launch} {Γ : Gl} {B : Bs} {w : Wl} {G : Gf} {sz : Nat} {r : Int32 × Wl} (hC : GC Γ B) (hW : Wd Γ B w G) (h : sX12_undo w  = some (Sum.inr r)) : CtW l Γ yX12_undo cX12_undo 1 (some .int) 7 [.ref (B.1 + 0)] G sz B (some (.int r.1)) r.2 := by
  refine Ct.of rfl (Nat.le_of_ble_eq_true rfl) fun X hx hr hl hΓ hnm => ?_
  subst hl hΓ
  show J X 1 G sz 0 0 0 [some (.ref (B.1 + 0))] []
  unfold sX12_undo at h
  refine J_al4 hx rfl rfl dX12_undo_0 ?_
  refine g12_5 hx hW 78 (rfl : kd 0 = 1) fl_X12_51 rfl dX12_undo_1 ?_
  refine g7_1 hx hW (rfl : kd 78 = 15) fl_X12_275 dX12_undo_4 ?_
  refine J_if_le hx 14 dX12_undo_7 rfl (fun h1 => ?_) (fun h1 => ?_)
  · replace h := pos h h1
    refine J_iconst hx (3 : Int32) dX12_undo_14 rfl ?_
    obtain ⟨hti, h⟩ := tiw_o h
    refine J_callS hx (kO_throwIfWrong hti) ml_X12_66 lk_X12_throwIfWrong (rest := []) rfl rfl (by decide) (by decide) (Nat.le_of_ble_eq_true rfl) (Nat.le_refl 0) (Nat.le_refl 0) dX12_undo_15 fun r1 G1 sz1 hh => ?_
    obtain ⟨rfl, hG0, hz0⟩ := hh
    rw [hG0, hz0]
    show J X 1 _ _ 0 0 18 [some (.ref (B.1 + 0))] []
    refine J_al4 hx rfl rfl dX12_undo_18 ?_
    refine g12_5 hx hW 78 (rfl : kd 0 = 1) fl_X12_51 rfl dX12_undo_19 ?_
    refine J_al4 hx rfl rfl dX12_undo_22 ?_
    refine g12_0 hx hW 1 (rfl : kd 0 = 1) fl_X12_10 rfl dX12_undo_23 ?_
    obtain ⟨r2, hr3, h⟩ := bnd h
    refine J_wrV hx (kX7_restore (rfl : kd 1 = 2) hW hr3) ml_X12_278 lk_X7_restore (ci := 6) rfl (hW.obj (rfl : kd 78 = 15) (by decide) (by decide)) (rest := []) rfl rfl (by decide) (by decide) (Nat.le_of_ble_eq_true rfl) (Nat.le_refl 0) (Nat.le_refl 0) dX12_undo_26 fun G4 hW5 => ?_
    show J X 1 G4 sz 0 0 29 [some (.ref (B.1 + 0))] [.int r2.1]
    obtain rfl := Sum.inr.inj (Option.some.inj h)
    exact J_iretW hx hr hW5 dX12_undo_29 (Nat.le_refl 0) (Nat.le_refl 0)
  · replace h := neg h h1
    refine J_iconst hx (0 : Int32) dX12_undo_10 rfl ?_
    refine J_goto hx 15 dX12_undo_11 rfl ?_
    obtain ⟨hti, h⟩ := tiw_o h
    refine J_callS hx (kO_throwIfWrong hti) ml_X12_66 lk_X12_throwIfWrong (rest := []) rfl rfl (by decide) (by decide) (Nat.le_of_ble_eq_true rfl) (Nat.le_refl 0) (Nat.le_refl 0) dX12_undo_15 fun r1 G1 sz1 hh => ?_
    obtain ⟨rfl, hG0, hz0⟩ := hh
    rw [hG0, hz0]
    show J X 1 _ _ 0 0 18 [some (.ref (B.1 + 0))] []
    refine J_al4 hx rfl rfl dX12_undo_18 ?_
    refine g12_5 hx hW 78 (rfl : kd 0 = 1) fl_X12_51 rfl dX12_undo_19 ?_
    refine J_al4 hx rfl rfl dX12_undo_22 ?_
    refine g12_0 hx hW 1 (rfl : kd 0 = 1) fl_X12_10 rfl dX12_undo_23 ?_
    obtain ⟨r6, hr7, h⟩ := bnd h
    refine J_wrV hx (kX7_restore (rfl : kd 1 = 2) hW hr7) ml_X12_278 lk_X7_restore (ci := 6) rfl (hW.obj (rfl : kd 78 = 15) (by decide) (by decide)) (rest := []) rfl rfl (by decide) (by decide) (Nat.le_of_ble_eq_true rfl) (Nat.le_refl 0) (Nat.le_refl 0) dX12_undo_26 fun G8 hW9 => ?_
    show J X 1 G8 sz 0 0 29 [some (.ref (B.1 + 0))] [.int r6.1]
    obtain rfl := Sum.inr.inj (Option.some.inj h)
    exact J_iretW hx hr hW9 dX12_undo_29 (Nat.le_refl 0) (Nat.le_refl 0)
