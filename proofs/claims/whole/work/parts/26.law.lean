/-! THE LAW'S WRAPPERS: methods with a table of handlers. Written by wip/whole/gen_law.py -/
def wyW (y : MethodName) (cc : ByteArray) (nL : Nat) (ret : Option FieldType) (hh : List (Nat × Nat × Nat × Nat)) : List Cond := .codeWith y cc nL ret hh :: WT
def CtL (l : Launch) (Γ : Gl) (y : MethodName) (cc : ByteArray) (nL : Nat) (ret : Option FieldType) (hh : List (Nat × Nat × Nat × Nat)) (t : Nat) (av : List Value) (G : Gf) (sz : Nat) (Ψ : Option Value → Gf → Nat → Prop) (mc ms : Nat) : Prop :=
  Met l y (wyW y cc nL ret hh) (rmL t mc ms) (va_Pc av (fun U => KV Γ U ∧ Hp Γ G sz U.heap)) (QcO Γ Ψ) mc ms (aA Γ)
theorem CtL.of {l : Launch} {Γ : Gl} {y : MethodName} {cc : ByteArray} {nL : Nat} {ret : Option FieldType} {hh : List (Nat × Nat × Nat × Nat)} {t : Nat} {av : List Value} {G : Gf} {sz : Nat} {Ψ : Option Value → Gf → Nat → Prop} {mc ms : Nat} (hy : plainName y.cls = true) (hlen : (lg_sl av).length ≤ nL)
    (body : ∀ X : Cx, Fx X cc nL y.cls t mc ms → Rt X ret mc ms Ψ → (xc X).exceptionTable.toList = tableOf hh → xl X = l → xΓ X = Γ → J X nL G sz 0 0 0 (initO av nL) []) : CtL l Γ y cc nL ret hh t av G sz Ψ mc ms := by
  refine va_MetW (cc := cc) (maxL := nL) (ret := ret) (hh := hh) hy rfl ?_
  intro p e s m args below meth c s₁ B hml hv
  obtain ⟨rfl, hK, hH⟩ := hv
  have hts := atoms_spec (ws := wyW y cc nL ret hh) B.pre
  have htab := vx_table (x := y) B (hts _ List.mem_cons_self)
  have hown : s.vm.findClass y.cls = some m.cls := findClass_of_methodNamed B.named
  have hl := lv_entry av (n := nL) hlen
  have key := body (p, l, e, rmL t mc ms, s, m, av.toArray, below, meth, c, MQ below (QcO Γ Ψ) av.toArray s mc ms (aA Γ), Γ) ⟨B.exec, B.bytes, hml, hown, (fun w hw => hts w (List.mem_cons_of_mem _ hw)), hK, rfl, B.notSynchronized⟩ ⟨B.returns, fun H locs g h => h⟩ htab rfl rfl s.heap [] _ hH (fun q hq => nomatch hq) ⟨hl.1, hl.2.1, fun i v h => hl.2.2 (i, v) (by have := initO_get av nL i 0 v h; rwa [Nat.zero_add] at this)⟩
  rw [lg_entry_eq]
  exact key
section JL
variable {X : Cx} {cc : ByteArray} {nL : Nat} {own : String} {t mc ms : Nat} {G : Gf} {sz k n pc : Nat} {ls : List (Option Value)} {st : List Value} {B : Bs} {w : Wl}
theorem J_callVX (hx : Fx X cc nL own t mc ms) {hh : List (Nat × Nat × Nat × Nat)} (htb : (xc X).exceptionTable.toList = tableOf hh) {idx : Nat} {y : MethodName} {bytes : ByteArray} {maxL : Nat} {ret : Option FieldType} {nA t' mc' ms' b : Nat} {As rest : List Value} {Ψ' : Option Value → Gf → Nat → Prop} {EX' : String → Prop} {ci : Nat} {T : u_T} {N : Nat} {fs : List Value}
    (ct : CtX (xl X) (xΓ X) y bytes maxL ret t' (.ref b :: As) G sz Ψ' EX' mc' ms') (hml : Cond.methodLink own idx y ∈ WT) (hm : LkV y bytes maxL ret nA) (hC : vwCl[ci]? = some (y.cls, T, N)) (hG : G b = some (.inr (ci, fs)))
    (hst : st = As.reverse ++ .ref b :: rest) (hn : As.length = nA) (ht : t' + 1 ≤ t) (hlo : 19 + maxL + 30 * t' ≤ 30 * t) (hw : (rest.map fun v => v.category).sum ≤ 8) (hk : k + mc' ≤ mc) (hs : n + ms' ≤ ms) (hd : decode cc pc = .ok (.invokevirtual idx, 3))
    (kk : ∀ (r : Option Value) (G' : Gf) (sz' : Nat), Ψ' r G' sz' → J X nL G' sz' (k + mc') (n + ms') (pc + 3) ls (r.toList ++ rest))
    (kx : ∀ (E : String) (q sz' : Nat), EX' E → ∃ (pre : List ExceptionTableEntry) (x : ExceptionTableEntry) (suf : List ExceptionTableEntry), tableOf hh = pre ++ x :: suf ∧ (∀ z ∈ pre, z.catchType ≠ 0 ∧ ∃ nm : String, Cond.classLink own z.catchType nm ∈ WT ∧ va_Nc E nm (xs X)) ∧ covers x pc = true ∧ x.catchType ≠ 0 ∧ Cond.classLink own x.catchType E ∈ WT ∧ va_Nw (.castable E E) (xs X) ∧ J X nL G sz' (k + mc') (n + ms') x.handlerPc ls [.ref q]) : J X nL G sz k n pc ls st := fun H locs lsA hH hlc hv2 => by
  have hts := hx.2.2.2.2.1
  have hK := hx.2.2.2.2.2.1
  have hR := hx.2.2.2.2.2.2.1
  obtain ⟨r9, h1, cell, q1, q2, q3, -⟩ := (hH.2.2.2 b _ hG).1
  have hr9 : r9 = (y.cls, T, N) := Option.some.inj (h1.symm.trans hC)
  subst hr9
  intro T hT Xs
  rcases vx_runV (C := y.cls) (b := b) (As := As) (fix_of hx) ct ⟨callB_J hx hml hm.1 ht hlo, hts _ hm.2.1, hts _ hm.2.2⟩ ⟨Pc_blind, ⟨cell, q1, by rw [q3]; rfl, by rw [q2]; exact (hK.1.1 ci _ hC).2.1⟩, fun U hU hW => ⟨rfl, hK.warm hW, by rw [hU]; exact hH⟩⟩ (H := H) (locs := locs) (cells := k) (slots := n) (g := F0 (xm X) pc lsA st) rfl hn hv2.1 hst (by show 2 * 0 + _ ≤ 8; omega) hd (by rw [hR]; exact ⟨hk, hs⟩) T hT Xs with ⟨v, st₀, U, T', L, h0, X', hL, e1, e2, ⟨r, G', sz', hv, hΨ, hH'⟩, stp⟩ | ⟨q, st₀, U, T', L, E, ce, h0, X', hL, e1, e2, ⟨hE, sz', hH'⟩, hce, hcv, hcl, stp⟩
  · cases hv
    obtain ⟨t2, a1, b1⟩ := kk _ G' sz' hΨ T'.heap (locs ++ L) lsA (by rw [e1]; exact hH') (fun q hq => by
      rcases List.mem_append.mp hq with h | h
      · exact hlc q h
      · exact hL q h) hv2 T' rfl X'
    exact ⟨t2, stp t2 a1, b1⟩
  · obtain ⟨pre, x, suf, hsp, hpass, hcov, h0', hlk, hca, hj⟩ := kx E q sz' hE
    have := vx_catch (Q := xQ X) (pc := pc) (ls := lsA) (rest := rest) (E := E) (ce := ce) (q := q) (H := T'.heap) (locs := locs ++ L) (cells := k + mc') (slots := n + ms') (p := xp X) (l := xl X) (e := xe X) (R := xR X) (s := xs X) (m := xm X) (args := xa X) (below := xb X) (meth := xM X) (c := xc X) hx.2.2.2.1 pre x suf (htb.trans hsp) (fun z hz => Or.inr ⟨(hpass z hz).1, (hpass z hz).2.choose, hts _ (hpass z hz).2.choose_spec.1, (hpass z hz).2.choose_spec.2⟩) hcov h0' (hts _ hlk) (va_Nw.use rfl hca) (by rw [e1]; exact hce) hcv hcl (hj T'.heap (locs ++ L) lsA (by rw [e1]; exact hH') (fun z hz => by
      rcases List.mem_append.mp hz with h | h
      · exact hlc z h
      · exact hL z h) hv2)
    obtain ⟨t2, a1, b1⟩ := this T' rfl X'
    exact ⟨t2, stp.trans a1, b1⟩
def wout (w : Wl) (v : Int64) : Wl := wrow w 377 (upd (upd (w 377) 0 (hiW v)) 1 (loW v))
theorem J_outS (hx : Fx X cc nL own t mc ms) (hW : Wd (xΓ X) B w G) {x : Int64} (hd : decode cc pc = .ok (.lastore, 1)) (kk : ∀ G', Wd (xΓ X) B (wout w x) G' → J X nL G' sz k n (pc + 1) ls st) : J X nL G sz k n pc ls (.long x :: .int (0 : Int32) :: .ref (B.1 + 377) :: st) := by
  refine J_last hx (hW.obj (rfl : kd 377 = 20) (by decide) (by decide)) (idx_in (by decide +kernel : idx (0 : Int32) 1 = some 0)) hd (kk _ (hW.row (k := 20) rfl ?_))
  rw [ent_O (by decide)]
  show (Sum.inl ((xΓ X).2.1 2, 1, Sum.inr (Sum.inl _)) : va_E) = _
  congr 5
  funext j
  by_cases hj : j = 0
  · subst hj; simp [upd, vp_updL, lofW_hl]
  · have : ¬ j = (0 : Int32).toNatClampNeg := hj
    simp [upd, vp_updL, hj, this]
theorem J_outL (hx : Fx X cc nL own t mc ms) (hW : Wd (xΓ X) B w G) (hd : decode cc pc = .ok (.laload, 1)) (kk : J X nL G sz k n (pc + 1) ls (.long (lofW (w 377 0) (w 377 1)) :: st)) : J X nL G sz k n pc ls (.int (0 : Int32) :: .ref (B.1 + 377) :: st) :=
  J_lald hx (hW.obj (rfl : kd 377 = 20) (by decide) (by decide)) (idx_in (by decide +kernel : idx (0 : Int32) 1 = some 0)) hd kk
end JL
/-- what a wrapper makes of an answer or a throw -/
def lwW (c1 c2 c3 : Option Int32) (w : Wl) : Sum Int32 (Int32 × Wl) → Option (Int32 × Wl)
  | .inl k => if k = 1 then c1.map (fun c => (c, w)) else if k = 2 then c2.map (fun c => (c, w)) else if k = 3 then c3.map (fun c => (c, w)) else none
  | .inr p => some (0, wout p.2 p.1.toInt64)
def lwR (c1 c2 c3 : Option Int32) (w : Wl) : Sum Int32 Int32 → Option (Int32 × Wl)
  | .inl k => if k = 1 then c1.map (fun c => (c, w)) else if k = 2 then c2.map (fun c => (c, w)) else if k = 3 then c3.map (fun c => (c, w)) else none
  | .inr p => some (0, wout w p.toInt64)
theorem dL_addVenue_0 : decode cL_addVenue 0 = .ok (.aload 5, 2) := by decide +kernel
theorem dL_addVenue_2 : decode cL_addVenue 2 = .ok (.iconst 0, 1) := by decide +kernel
theorem dL_addVenue_3 : decode cL_addVenue 3 = .ok (.aload_n 0, 1) := by decide +kernel
theorem dL_addVenue_4 : decode cL_addVenue 4 = .ok (.iload_n 1, 1) := by decide +kernel
theorem dL_addVenue_5 : decode cL_addVenue 5 = .ok (.iload_n 2, 1) := by decide +kernel
theorem dL_addVenue_6 : decode cL_addVenue 6 = .ok (.iload_n 3, 1) := by decide +kernel
theorem dL_addVenue_7 : decode cL_addVenue 7 = .ok (.iload 4, 2) := by decide +kernel
theorem dL_addVenue_9 : decode cL_addVenue 9 = .ok (.invokevirtual 7, 3) := by decide +kernel
theorem dL_addVenue_12 : decode cL_addVenue 12 = .ok (.i2l, 1) := by decide +kernel
theorem dL_addVenue_13 : decode cL_addVenue 13 = .ok (.lastore, 1) := by decide +kernel
theorem dL_addVenue_14 : decode cL_addVenue 14 = .ok (.goto 11, 3) := by decide +kernel
theorem dL_addVenue_17 : decode cL_addVenue 17 = .ok (.astore 6, 2) := by decide +kernel
theorem dL_addVenue_19 : decode cL_addVenue 19 = .ok (.iconst 1, 1) := by decide +kernel
theorem dL_addVenue_20 : decode cL_addVenue 20 = .ok (.ireturn, 1) := by decide +kernel
theorem dL_addVenue_21 : decode cL_addVenue 21 = .ok (.astore 6, 2) := by decide +kernel
theorem dL_addVenue_23 : decode cL_addVenue 23 = .ok (.iconst 2, 1) := by decide +kernel
theorem dL_addVenue_24 : decode cL_addVenue 24 = .ok (.ireturn, 1) := by decide +kernel
theorem dL_addVenue_25 : decode cL_addVenue 25 = .ok (.iconst 0, 1) := by decide +kernel
theorem dL_addVenue_26 : decode cL_addVenue 26 = .ok (.ireturn, 1) := by decide +kernel
theorem cw_addVenue : Cond.codeWith yL_addVenue cL_addVenue 7 (some .int) [(0, 14, 17, 13), (0, 14, 21, 15)] ∈ WT := (wtm_4 210 (by decide +kernel) (by decide +kernel))
def sL_addVenue (w : Wl) (l1 : Int32) (l2 : Int32) (l3 : Int32) (l4 : Int32) : Option (Int32 × Wl) := (sX12_addVenue w l1 l2 l3 l4).bind (lwW none (some 1) (some 2) w)
theorem kL_addVenue {l : Launch} {Γ : Gl} {B : Bs} {w : Wl} {G : Gf} {sz : Nat} {l1 : Int32} {l2 : Int32} {l3 : Int32} {l4 : Int32} {r : Int32 × Wl} (htr : l.stackTraces = false) (hC : GC Γ B) (hW : Wd Γ B w G) (h : sL_addVenue w l1 l2 l3 l4 = some r) : CtL l Γ yL_addVenue cL_addVenue 7 (some .int) [(0, 14, 17, 13), (0, 14, 21, 15)] 8 [.ref (B.1 + 0), .int l1, .int l2, .int l3, .int l4, .ref (B.1 + 377)] G sz (fun v G' _ => v = some (.int r.1) ∧ Wd Γ B r.2 G') 1 6 := by
  refine CtL.of rfl (Nat.le_of_ble_eq_true rfl) fun X hx hr htb hl hΓ => ?_
  subst hl hΓ
  show J X 7 G sz 0 0 0 [some (.ref (B.1 + 0)), some (.int l1), some (.int l2), some (.int l3), some (.int l4), some (.ref (B.1 + 377)), none] []
  unfold sL_addVenue at h
  obtain ⟨res, hres, h⟩ := bnd h
  refine J_al hx rfl dL_addVenue_0 ?_
  refine J_iconst hx (0 : Int32) dL_addVenue_2 rfl ?_
  refine J_al4 hx rfl rfl dL_addVenue_3 ?_
  refine J_il4 hx rfl rfl dL_addVenue_4 ?_
  refine J_il4 hx rfl rfl dL_addVenue_5 ?_
  refine J_il4 hx rfl rfl dL_addVenue_6 ?_
  refine J_il hx rfl dL_addVenue_7 ?_
  refine J_callVX hx htb (kX12_addVenue htr hC hW hres) ml_L_7 lk_X12_addVenue (ci := 10) rfl (hW.obj (rfl : kd 0 = 1) (by decide) (by decide)) (rest := [.int 0, .ref (B.1 + 377)]) rfl rfl (by decide) (by decide) (Nat.le_of_ble_eq_true rfl) (by decide) (by decide) dL_addVenue_9 (fun v G1 sz1 hΨ => ?_) (fun E q sz1 hE => ?_)
  · obtain ⟨p, rfl, hv, hG, hz⟩ := hΨ
    subst hv
    obtain rfl := Option.some.inj h
    show J X 7 _ _ 1 6 12 [some (.ref (B.1 + 0)), some (.int l1), some (.int l2), some (.int l3), some (.int l4), some (.ref (B.1 + 377)), none] [.int p.1, .int 0, .ref (B.1 + 377)]
    refine J_i2l hx dL_addVenue_12 ?_
    refine J_outS hx hG dL_addVenue_13 fun G2 hW2 => ?_
    refine J_goto hx 25 dL_addVenue_14 rfl ?_
    refine J_iconst hx (0 : Int32) dL_addVenue_25 rfl ?_
    exact J_iret hx hr dL_addVenue_26 (by decide) (by decide) ⟨rfl, hW2⟩
  · cases res with
    | inr p => exact hE.elim
    | inl x =>
      rcases hE with ⟨rfl, rfl⟩ | ⟨rfl, rfl⟩ | ⟨rfl, rfl⟩
      · cases (show (none : Option (Int32 × Wl)) = some r from h)
      · obtain rfl := Option.some.inj (h : some _ = some r)
        refine ⟨[], ⟨0, 14, 17, 13⟩, [⟨0, 14, 21, 15⟩], rfl, (fun z hz => nomatch hz), rfl, by decide, cl_L_13, (hx.kc hC).thr.2.2.2.2.2 _ (by decide +kernel), ?_⟩
        show J X 7 _ _ 1 6 17 [some (.ref (B.1 + 0)), some (.int l1), some (.int l2), some (.int l3), some (.int l4), some (.ref (B.1 + 377)), none] [.ref q]
        refine J_as hx (by decide) (hc_of rfl) rfl dL_addVenue_17 ?_
        refine J_iconst hx (1 : Int32) dL_addVenue_19 rfl ?_
        exact J_iret hx hr dL_addVenue_20 (by decide) (by decide) ⟨rfl, hW⟩
      · obtain rfl := Option.some.inj (h : some _ = some r)
        refine ⟨[⟨0, 14, 17, 13⟩], ⟨0, 14, 21, 15⟩, [], rfl, (fun z hz => by
            rcases List.mem_cons.mp hz with rfl | hz
            · exact ⟨by decide, _, cl_L_13, (hx.kc hC).nc.2.2⟩
            cases hz), rfl, by decide, cl_L_15, (hx.kc hC).thr.2.2.2.2.2 _ (by decide +kernel), ?_⟩
        show J X 7 _ _ 1 6 21 [some (.ref (B.1 + 0)), some (.int l1), some (.int l2), some (.int l3), some (.int l4), some (.ref (B.1 + 377)), none] [.ref q]
        refine J_as hx (by decide) (hc_of rfl) rfl dL_addVenue_21 ?_
        refine J_iconst hx (2 : Int32) dL_addVenue_23 rfl ?_
        exact J_iret hx hr dL_addVenue_24 (by decide) (by decide) ⟨rfl, hW⟩
theorem dL_setClimate_0 : decode cL_setClimate 0 = .ok (.aload 4, 2) := by decide +kernel
theorem dL_setClimate_2 : decode cL_setClimate 2 = .ok (.iconst 0, 1) := by decide +kernel
theorem dL_setClimate_3 : decode cL_setClimate 3 = .ok (.aload_n 0, 1) := by decide +kernel
theorem dL_setClimate_4 : decode cL_setClimate 4 = .ok (.iload_n 1, 1) := by decide +kernel
theorem dL_setClimate_5 : decode cL_setClimate 5 = .ok (.iload_n 2, 1) := by decide +kernel
theorem dL_setClimate_6 : decode cL_setClimate 6 = .ok (.iload_n 3, 1) := by decide +kernel
theorem dL_setClimate_7 : decode cL_setClimate 7 = .ok (.invokevirtual 17, 3) := by decide +kernel
theorem dL_setClimate_10 : decode cL_setClimate 10 = .ok (.i2l, 1) := by decide +kernel
theorem dL_setClimate_11 : decode cL_setClimate 11 = .ok (.lastore, 1) := by decide +kernel
theorem dL_setClimate_12 : decode cL_setClimate 12 = .ok (.goto 11, 3) := by decide +kernel
theorem dL_setClimate_15 : decode cL_setClimate 15 = .ok (.astore 5, 2) := by decide +kernel
theorem dL_setClimate_17 : decode cL_setClimate 17 = .ok (.iconst 1, 1) := by decide +kernel
theorem dL_setClimate_18 : decode cL_setClimate 18 = .ok (.ireturn, 1) := by decide +kernel
theorem dL_setClimate_19 : decode cL_setClimate 19 = .ok (.astore 5, 2) := by decide +kernel
theorem dL_setClimate_21 : decode cL_setClimate 21 = .ok (.iconst 2, 1) := by decide +kernel
theorem dL_setClimate_22 : decode cL_setClimate 22 = .ok (.ireturn, 1) := by decide +kernel
theorem dL_setClimate_23 : decode cL_setClimate 23 = .ok (.iconst 0, 1) := by decide +kernel
theorem dL_setClimate_24 : decode cL_setClimate 24 = .ok (.ireturn, 1) := by decide +kernel
theorem cw_setClimate : Cond.codeWith yL_setClimate cL_setClimate 6 (some .int) [(0, 12, 15, 21), (0, 12, 19, 13)] ∈ WT := (wtm_5 93 (by decide +kernel) (by decide +kernel))
def sL_setClimate (w : Wl) (l1 : Int32) (l2 : Int32) (l3 : Int32) : Option (Int32 × Wl) := (sX12_setClimate w l1 l2 l3).bind (lwW (some 1) (some 2) none w)
theorem kL_setClimate {l : Launch} {Γ : Gl} {B : Bs} {w : Wl} {G : Gf} {sz : Nat} {l1 : Int32} {l2 : Int32} {l3 : Int32} {r : Int32 × Wl} (htr : l.stackTraces = false) (hC : GC Γ B) (hW : Wd Γ B w G) (h : sL_setClimate w l1 l2 l3 = some r) : CtL l Γ yL_setClimate cL_setClimate 6 (some .int) [(0, 12, 15, 21), (0, 12, 19, 13)] 8 [.ref (B.1 + 0), .int l1, .int l2, .int l3, .ref (B.1 + 377)] G sz (fun v G' _ => v = some (.int r.1) ∧ Wd Γ B r.2 G') 1 6 := by
  refine CtL.of rfl (Nat.le_of_ble_eq_true rfl) fun X hx hr htb hl hΓ => ?_
  subst hl hΓ
  show J X 6 G sz 0 0 0 [some (.ref (B.1 + 0)), some (.int l1), some (.int l2), some (.int l3), some (.ref (B.1 + 377)), none] []
  unfold sL_setClimate at h
  obtain ⟨res, hres, h⟩ := bnd h
  refine J_al hx rfl dL_setClimate_0 ?_
  refine J_iconst hx (0 : Int32) dL_setClimate_2 rfl ?_
  refine J_al4 hx rfl rfl dL_setClimate_3 ?_
  refine J_il4 hx rfl rfl dL_setClimate_4 ?_
  refine J_il4 hx rfl rfl dL_setClimate_5 ?_
  refine J_il4 hx rfl rfl dL_setClimate_6 ?_
  refine J_callVX hx htb (kX12_setClimate htr hC hW hres) ml_L_17 lk_X12_setClimate (ci := 10) rfl (hW.obj (rfl : kd 0 = 1) (by decide) (by decide)) (rest := [.int 0, .ref (B.1 + 377)]) rfl rfl (by decide) (by decide) (Nat.le_of_ble_eq_true rfl) (by decide) (by decide) dL_setClimate_7 (fun v G1 sz1 hΨ => ?_) (fun E q sz1 hE => ?_)
  · obtain ⟨p, rfl, hv, hG, hz⟩ := hΨ
    subst hv
    obtain rfl := Option.some.inj h
    show J X 6 _ _ 1 6 10 [some (.ref (B.1 + 0)), some (.int l1), some (.int l2), some (.int l3), some (.ref (B.1 + 377)), none] [.int p.1, .int 0, .ref (B.1 + 377)]
    refine J_i2l hx dL_setClimate_10 ?_
    refine J_outS hx hG dL_setClimate_11 fun G2 hW2 => ?_
    refine J_goto hx 23 dL_setClimate_12 rfl ?_
    refine J_iconst hx (0 : Int32) dL_setClimate_23 rfl ?_
    exact J_iret hx hr dL_setClimate_24 (by decide) (by decide) ⟨rfl, hW2⟩
  · cases res with
    | inr p => exact hE.elim
    | inl x =>
      rcases hE with ⟨rfl, rfl⟩ | ⟨rfl, rfl⟩ | ⟨rfl, rfl⟩
      · obtain rfl := Option.some.inj (h : some _ = some r)
        refine ⟨[], ⟨0, 12, 15, 21⟩, [⟨0, 12, 19, 13⟩], rfl, (fun z hz => nomatch hz), rfl, by decide, cl_L_21, (hx.kc hC).thr.2.2.2.2.2 _ (by decide +kernel), ?_⟩
        show J X 6 _ _ 1 6 15 [some (.ref (B.1 + 0)), some (.int l1), some (.int l2), some (.int l3), some (.ref (B.1 + 377)), none] [.ref q]
        refine J_as hx (by decide) (hc_of rfl) rfl dL_setClimate_15 ?_
        refine J_iconst hx (1 : Int32) dL_setClimate_17 rfl ?_
        exact J_iret hx hr dL_setClimate_18 (by decide) (by decide) ⟨rfl, hW⟩
      · obtain rfl := Option.some.inj (h : some _ = some r)
        refine ⟨[⟨0, 12, 15, 21⟩], ⟨0, 12, 19, 13⟩, [], rfl, (fun z hz => by
            rcases List.mem_cons.mp hz with rfl | hz
            · exact ⟨by decide, _, cl_L_21, (hx.kc hC).nc.1⟩
            cases hz), rfl, by decide, cl_L_13, (hx.kc hC).thr.2.2.2.2.2 _ (by decide +kernel), ?_⟩
        show J X 6 _ _ 1 6 19 [some (.ref (B.1 + 0)), some (.int l1), some (.int l2), some (.int l3), some (.ref (B.1 + 377)), none] [.ref q]
        refine J_as hx (by decide) (hc_of rfl) rfl dL_setClimate_19 ?_
        refine J_iconst hx (2 : Int32) dL_setClimate_21 rfl ?_
        exact J_iret hx hr dL_setClimate_22 (by decide) (by decide) ⟨rfl, hW⟩
      · cases (show (none : Option (Int32 × Wl)) = some r from h)
theorem dL_setWay_0 : decode cL_setWay 0 = .ok (.aload 4, 2) := by decide +kernel
theorem dL_setWay_2 : decode cL_setWay 2 = .ok (.iconst 0, 1) := by decide +kernel
theorem dL_setWay_3 : decode cL_setWay 3 = .ok (.aload_n 0, 1) := by decide +kernel
theorem dL_setWay_4 : decode cL_setWay 4 = .ok (.iload_n 1, 1) := by decide +kernel
theorem dL_setWay_5 : decode cL_setWay 5 = .ok (.iload_n 2, 1) := by decide +kernel
theorem dL_setWay_6 : decode cL_setWay 6 = .ok (.iload_n 3, 1) := by decide +kernel
theorem dL_setWay_7 : decode cL_setWay 7 = .ok (.invokevirtual 23, 3) := by decide +kernel
theorem dL_setWay_10 : decode cL_setWay 10 = .ok (.i2l, 1) := by decide +kernel
theorem dL_setWay_11 : decode cL_setWay 11 = .ok (.lastore, 1) := by decide +kernel
theorem dL_setWay_12 : decode cL_setWay 12 = .ok (.goto 11, 3) := by decide +kernel
theorem dL_setWay_15 : decode cL_setWay 15 = .ok (.astore 5, 2) := by decide +kernel
theorem dL_setWay_17 : decode cL_setWay 17 = .ok (.iconst 1, 1) := by decide +kernel
theorem dL_setWay_18 : decode cL_setWay 18 = .ok (.ireturn, 1) := by decide +kernel
theorem dL_setWay_19 : decode cL_setWay 19 = .ok (.astore 5, 2) := by decide +kernel
theorem dL_setWay_21 : decode cL_setWay 21 = .ok (.iconst 2, 1) := by decide +kernel
theorem dL_setWay_22 : decode cL_setWay 22 = .ok (.ireturn, 1) := by decide +kernel
theorem dL_setWay_23 : decode cL_setWay 23 = .ok (.iconst 0, 1) := by decide +kernel
theorem dL_setWay_24 : decode cL_setWay 24 = .ok (.ireturn, 1) := by decide +kernel
theorem cw_setWay : Cond.codeWith yL_setWay cL_setWay 6 (some .int) [(0, 12, 15, 21), (0, 12, 19, 13)] ∈ WT := (wtm_5 109 (by decide +kernel) (by decide +kernel))
def sL_setWay (w : Wl) (l1 : Int32) (l2 : Int32) (l3 : Int32) : Option (Int32 × Wl) := (sX12_setWay w l1 l2 l3).bind (lwW (some 1) (some 2) none w)
theorem kL_setWay {l : Launch} {Γ : Gl} {B : Bs} {w : Wl} {G : Gf} {sz : Nat} {l1 : Int32} {l2 : Int32} {l3 : Int32} {r : Int32 × Wl} (htr : l.stackTraces = false) (hC : GC Γ B) (hW : Wd Γ B w G) (h : sL_setWay w l1 l2 l3 = some r) : CtL l Γ yL_setWay cL_setWay 6 (some .int) [(0, 12, 15, 21), (0, 12, 19, 13)] 8 [.ref (B.1 + 0), .int l1, .int l2, .int l3, .ref (B.1 + 377)] G sz (fun v G' _ => v = some (.int r.1) ∧ Wd Γ B r.2 G') 1 6 := by
  refine CtL.of rfl (Nat.le_of_ble_eq_true rfl) fun X hx hr htb hl hΓ => ?_
  subst hl hΓ
  show J X 6 G sz 0 0 0 [some (.ref (B.1 + 0)), some (.int l1), some (.int l2), some (.int l3), some (.ref (B.1 + 377)), none] []
  unfold sL_setWay at h
  obtain ⟨res, hres, h⟩ := bnd h
  refine J_al hx rfl dL_setWay_0 ?_
  refine J_iconst hx (0 : Int32) dL_setWay_2 rfl ?_
  refine J_al4 hx rfl rfl dL_setWay_3 ?_
  refine J_il4 hx rfl rfl dL_setWay_4 ?_
  refine J_il4 hx rfl rfl dL_setWay_5 ?_
  refine J_il4 hx rfl rfl dL_setWay_6 ?_
  refine J_callVX hx htb (kX12_setWay htr hC hW hres) ml_L_23 lk_X12_setWay (ci := 10) rfl (hW.obj (rfl : kd 0 = 1) (by decide) (by decide)) (rest := [.int 0, .ref (B.1 + 377)]) rfl rfl (by decide) (by decide) (Nat.le_of_ble_eq_true rfl) (by decide) (by decide) dL_setWay_7 (fun v G1 sz1 hΨ => ?_) (fun E q sz1 hE => ?_)
  · obtain ⟨p, rfl, hv, hG, hz⟩ := hΨ
    subst hv
    obtain rfl := Option.some.inj h
    show J X 6 _ _ 1 6 10 [some (.ref (B.1 + 0)), some (.int l1), some (.int l2), some (.int l3), some (.ref (B.1 + 377)), none] [.int p.1, .int 0, .ref (B.1 + 377)]
    refine J_i2l hx dL_setWay_10 ?_
    refine J_outS hx hG dL_setWay_11 fun G2 hW2 => ?_
    refine J_goto hx 23 dL_setWay_12 rfl ?_
    refine J_iconst hx (0 : Int32) dL_setWay_23 rfl ?_
    exact J_iret hx hr dL_setWay_24 (by decide) (by decide) ⟨rfl, hW2⟩
  · cases res with
    | inr p => exact hE.elim
    | inl x =>
      rcases hE with ⟨rfl, rfl⟩ | ⟨rfl, rfl⟩ | ⟨rfl, rfl⟩
      · obtain rfl := Option.some.inj (h : some _ = some r)
        refine ⟨[], ⟨0, 12, 15, 21⟩, [⟨0, 12, 19, 13⟩], rfl, (fun z hz => nomatch hz), rfl, by decide, cl_L_21, (hx.kc hC).thr.2.2.2.2.2 _ (by decide +kernel), ?_⟩
        show J X 6 _ _ 1 6 15 [some (.ref (B.1 + 0)), some (.int l1), some (.int l2), some (.int l3), some (.ref (B.1 + 377)), none] [.ref q]
        refine J_as hx (by decide) (hc_of rfl) rfl dL_setWay_15 ?_
        refine J_iconst hx (1 : Int32) dL_setWay_17 rfl ?_
        exact J_iret hx hr dL_setWay_18 (by decide) (by decide) ⟨rfl, hW⟩
      · obtain rfl := Option.some.inj (h : some _ = some r)
        refine ⟨[⟨0, 12, 15, 21⟩], ⟨0, 12, 19, 13⟩, [], rfl, (fun z hz => by
            rcases List.mem_cons.mp hz with rfl | hz
            · exact ⟨by decide, _, cl_L_21, (hx.kc hC).nc.1⟩
            cases hz), rfl, by decide, cl_L_13, (hx.kc hC).thr.2.2.2.2.2 _ (by decide +kernel), ?_⟩
        show J X 6 _ _ 1 6 19 [some (.ref (B.1 + 0)), some (.int l1), some (.int l2), some (.int l3), some (.ref (B.1 + 377)), none] [.ref q]
        refine J_as hx (by decide) (hc_of rfl) rfl dL_setWay_19 ?_
        refine J_iconst hx (2 : Int32) dL_setWay_21 rfl ?_
        exact J_iret hx hr dL_setWay_22 (by decide) (by decide) ⟨rfl, hW⟩
      · cases (show (none : Option (Int32 × Wl)) = some r from h)
theorem dL_setLender_0 : decode cL_setLender 0 = .ok (.aload 4, 2) := by decide +kernel
theorem dL_setLender_2 : decode cL_setLender 2 = .ok (.iconst 0, 1) := by decide +kernel
theorem dL_setLender_3 : decode cL_setLender 3 = .ok (.aload_n 0, 1) := by decide +kernel
theorem dL_setLender_4 : decode cL_setLender 4 = .ok (.iload_n 1, 1) := by decide +kernel
theorem dL_setLender_5 : decode cL_setLender 5 = .ok (.iload_n 2, 1) := by decide +kernel
theorem dL_setLender_6 : decode cL_setLender 6 = .ok (.iload_n 3, 1) := by decide +kernel
theorem dL_setLender_7 : decode cL_setLender 7 = .ok (.invokevirtual 26, 3) := by decide +kernel
theorem dL_setLender_10 : decode cL_setLender 10 = .ok (.i2l, 1) := by decide +kernel
theorem dL_setLender_11 : decode cL_setLender 11 = .ok (.lastore, 1) := by decide +kernel
theorem dL_setLender_12 : decode cL_setLender 12 = .ok (.goto 7, 3) := by decide +kernel
theorem dL_setLender_15 : decode cL_setLender 15 = .ok (.astore 5, 2) := by decide +kernel
theorem dL_setLender_17 : decode cL_setLender 17 = .ok (.iconst 1, 1) := by decide +kernel
theorem dL_setLender_18 : decode cL_setLender 18 = .ok (.ireturn, 1) := by decide +kernel
theorem dL_setLender_19 : decode cL_setLender 19 = .ok (.iconst 0, 1) := by decide +kernel
theorem dL_setLender_20 : decode cL_setLender 20 = .ok (.ireturn, 1) := by decide +kernel
theorem cw_setLender : Cond.codeWith yL_setLender cL_setLender 6 (some .int) [(0, 12, 15, 13)] ∈ WT := (wtm_5 124 (by decide +kernel) (by decide +kernel))
def sL_setLender (w : Wl) (l1 : Int32) (l2 : Int32) (l3 : Int32) : Option (Int32 × Wl) := (sX12_setLender w l1 l2 l3).bind (lwW none (some 1) none w)
theorem kL_setLender {l : Launch} {Γ : Gl} {B : Bs} {w : Wl} {G : Gf} {sz : Nat} {l1 : Int32} {l2 : Int32} {l3 : Int32} {r : Int32 × Wl} (htr : l.stackTraces = false) (hC : GC Γ B) (hW : Wd Γ B w G) (h : sL_setLender w l1 l2 l3 = some r) : CtL l Γ yL_setLender cL_setLender 6 (some .int) [(0, 12, 15, 13)] 8 [.ref (B.1 + 0), .int l1, .int l2, .int l3, .ref (B.1 + 377)] G sz (fun v G' _ => v = some (.int r.1) ∧ Wd Γ B r.2 G') 1 6 := by
  refine CtL.of rfl (Nat.le_of_ble_eq_true rfl) fun X hx hr htb hl hΓ => ?_
  subst hl hΓ
  show J X 6 G sz 0 0 0 [some (.ref (B.1 + 0)), some (.int l1), some (.int l2), some (.int l3), some (.ref (B.1 + 377)), none] []
  unfold sL_setLender at h
  obtain ⟨res, hres, h⟩ := bnd h
  refine J_al hx rfl dL_setLender_0 ?_
  refine J_iconst hx (0 : Int32) dL_setLender_2 rfl ?_
  refine J_al4 hx rfl rfl dL_setLender_3 ?_
  refine J_il4 hx rfl rfl dL_setLender_4 ?_
  refine J_il4 hx rfl rfl dL_setLender_5 ?_
  refine J_il4 hx rfl rfl dL_setLender_6 ?_
  refine J_callVX hx htb (kX12_setLender htr hC hW hres) ml_L_26 lk_X12_setLender (ci := 10) rfl (hW.obj (rfl : kd 0 = 1) (by decide) (by decide)) (rest := [.int 0, .ref (B.1 + 377)]) rfl rfl (by decide) (by decide) (Nat.le_of_ble_eq_true rfl) (by decide) (by decide) dL_setLender_7 (fun v G1 sz1 hΨ => ?_) (fun E q sz1 hE => ?_)
  · obtain ⟨p, rfl, hv, hG, hz⟩ := hΨ
    subst hv
    obtain rfl := Option.some.inj h
    show J X 6 _ _ 1 6 10 [some (.ref (B.1 + 0)), some (.int l1), some (.int l2), some (.int l3), some (.ref (B.1 + 377)), none] [.int p.1, .int 0, .ref (B.1 + 377)]
    refine J_i2l hx dL_setLender_10 ?_
    refine J_outS hx hG dL_setLender_11 fun G2 hW2 => ?_
    refine J_goto hx 19 dL_setLender_12 rfl ?_
    refine J_iconst hx (0 : Int32) dL_setLender_19 rfl ?_
    exact J_iret hx hr dL_setLender_20 (by decide) (by decide) ⟨rfl, hW2⟩
  · cases res with
    | inr p => exact hE.elim
    | inl x =>
      rcases hE with ⟨rfl, rfl⟩ | ⟨rfl, rfl⟩ | ⟨rfl, rfl⟩
      · cases (show (none : Option (Int32 × Wl)) = some r from h)
      · obtain rfl := Option.some.inj (h : some _ = some r)
        refine ⟨[], ⟨0, 12, 15, 13⟩, [], rfl, (fun z hz => nomatch hz), rfl, by decide, cl_L_13, (hx.kc hC).thr.2.2.2.2.2 _ (by decide +kernel), ?_⟩
        show J X 6 _ _ 1 6 15 [some (.ref (B.1 + 0)), some (.int l1), some (.int l2), some (.int l3), some (.ref (B.1 + 377)), none] [.ref q]
        refine J_as hx (by decide) (hc_of rfl) rfl dL_setLender_15 ?_
        refine J_iconst hx (1 : Int32) dL_setLender_17 rfl ?_
        exact J_iret hx hr dL_setLender_18 (by decide) (by decide) ⟨rfl, hW⟩
      · cases (show (none : Option (Int32 × Wl)) = some r from h)
theorem dL_setWayRate_0 : decode cL_setWayRate 0 = .ok (.aload_n 2, 1) := by decide +kernel
theorem dL_setWayRate_1 : decode cL_setWayRate 1 = .ok (.iconst 0, 1) := by decide +kernel
theorem dL_setWayRate_2 : decode cL_setWayRate 2 = .ok (.aload_n 0, 1) := by decide +kernel
theorem dL_setWayRate_3 : decode cL_setWayRate 3 = .ok (.iload_n 1, 1) := by decide +kernel
theorem dL_setWayRate_4 : decode cL_setWayRate 4 = .ok (.invokevirtual 29, 3) := by decide +kernel
theorem dL_setWayRate_7 : decode cL_setWayRate 7 = .ok (.i2l, 1) := by decide +kernel
theorem dL_setWayRate_8 : decode cL_setWayRate 8 = .ok (.lastore, 1) := by decide +kernel
theorem dL_setWayRate_9 : decode cL_setWayRate 9 = .ok (.goto 6, 3) := by decide +kernel
theorem dL_setWayRate_12 : decode cL_setWayRate 12 = .ok (.astore_n 3, 1) := by decide +kernel
theorem dL_setWayRate_13 : decode cL_setWayRate 13 = .ok (.iconst 1, 1) := by decide +kernel
theorem dL_setWayRate_14 : decode cL_setWayRate 14 = .ok (.ireturn, 1) := by decide +kernel
theorem dL_setWayRate_15 : decode cL_setWayRate 15 = .ok (.iconst 0, 1) := by decide +kernel
theorem dL_setWayRate_16 : decode cL_setWayRate 16 = .ok (.ireturn, 1) := by decide +kernel
theorem cw_setWayRate : Cond.codeWith yL_setWayRate cL_setWayRate 4 (some .int) [(0, 9, 12, 13)] ∈ WT := (wtm_5 142 (by decide +kernel) (by decide +kernel))
def sL_setWayRate (w : Wl) (l1 : Int32) : Option (Int32 × Wl) := (sX12_setWayRate w l1).bind (lwW none (some 1) none w)
theorem kL_setWayRate {l : Launch} {Γ : Gl} {B : Bs} {w : Wl} {G : Gf} {sz : Nat} {l1 : Int32} {r : Int32 × Wl} (htr : l.stackTraces = false) (hC : GC Γ B) (hW : Wd Γ B w G) (h : sL_setWayRate w l1 = some r) : CtL l Γ yL_setWayRate cL_setWayRate 4 (some .int) [(0, 9, 12, 13)] 8 [.ref (B.1 + 0), .int l1, .ref (B.1 + 377)] G sz (fun v G' _ => v = some (.int r.1) ∧ Wd Γ B r.2 G') 1 6 := by
  refine CtL.of rfl (Nat.le_of_ble_eq_true rfl) fun X hx hr htb hl hΓ => ?_
  subst hl hΓ
  show J X 4 G sz 0 0 0 [some (.ref (B.1 + 0)), some (.int l1), some (.ref (B.1 + 377)), none] []
  unfold sL_setWayRate at h
  obtain ⟨res, hres, h⟩ := bnd h
  refine J_al4 hx rfl rfl dL_setWayRate_0 ?_
  refine J_iconst hx (0 : Int32) dL_setWayRate_1 rfl ?_
  refine J_al4 hx rfl rfl dL_setWayRate_2 ?_
  refine J_il4 hx rfl rfl dL_setWayRate_3 ?_
  refine J_callVX hx htb (kX12_setWayRate htr hC hW hres) ml_L_29 lk_X12_setWayRate (ci := 10) rfl (hW.obj (rfl : kd 0 = 1) (by decide) (by decide)) (rest := [.int 0, .ref (B.1 + 377)]) rfl rfl (by decide) (by decide) (Nat.le_of_ble_eq_true rfl) (by decide) (by decide) dL_setWayRate_4 (fun v G1 sz1 hΨ => ?_) (fun E q sz1 hE => ?_)
  · obtain ⟨p, rfl, hv, hG, hz⟩ := hΨ
    subst hv
    obtain rfl := Option.some.inj h
    show J X 4 _ _ 1 6 7 [some (.ref (B.1 + 0)), some (.int l1), some (.ref (B.1 + 377)), none] [.int p.1, .int 0, .ref (B.1 + 377)]
    refine J_i2l hx dL_setWayRate_7 ?_
    refine J_outS hx hG dL_setWayRate_8 fun G2 hW2 => ?_
    refine J_goto hx 15 dL_setWayRate_9 rfl ?_
    refine J_iconst hx (0 : Int32) dL_setWayRate_15 rfl ?_
    exact J_iret hx hr dL_setWayRate_16 (by decide) (by decide) ⟨rfl, hW2⟩
  · cases res with
    | inr p => exact hE.elim
    | inl x =>
      rcases hE with ⟨rfl, rfl⟩ | ⟨rfl, rfl⟩ | ⟨rfl, rfl⟩
      · cases (show (none : Option (Int32 × Wl)) = some r from h)
      · obtain rfl := Option.some.inj (h : some _ = some r)
        refine ⟨[], ⟨0, 9, 12, 13⟩, [], rfl, (fun z hz => nomatch hz), rfl, by decide, cl_L_13, (hx.kc hC).thr.2.2.2.2.2 _ (by decide +kernel), ?_⟩
        show J X 4 _ _ 1 6 12 [some (.ref (B.1 + 0)), some (.int l1), some (.ref (B.1 + 377)), none] [.ref q]
        refine J_as4 hx rfl (by decide) (hc_of rfl) rfl dL_setWayRate_12 ?_
        refine J_iconst hx (1 : Int32) dL_setWayRate_13 rfl ?_
        exact J_iret hx hr dL_setWayRate_14 (by decide) (by decide) ⟨rfl, hW⟩
      · cases (show (none : Option (Int32 × Wl)) = some r from h)
theorem dL_addCourier_0 : decode cL_addCourier 0 = .ok (.aload_n 2, 1) := by decide +kernel
theorem dL_addCourier_1 : decode cL_addCourier 1 = .ok (.iconst 0, 1) := by decide +kernel
theorem dL_addCourier_2 : decode cL_addCourier 2 = .ok (.aload_n 0, 1) := by decide +kernel
theorem dL_addCourier_3 : decode cL_addCourier 3 = .ok (.iload_n 1, 1) := by decide +kernel
theorem dL_addCourier_4 : decode cL_addCourier 4 = .ok (.invokevirtual 33, 3) := by decide +kernel
theorem dL_addCourier_7 : decode cL_addCourier 7 = .ok (.i2l, 1) := by decide +kernel
theorem dL_addCourier_8 : decode cL_addCourier 8 = .ok (.lastore, 1) := by decide +kernel
theorem dL_addCourier_9 : decode cL_addCourier 9 = .ok (.goto 9, 3) := by decide +kernel
theorem dL_addCourier_12 : decode cL_addCourier 12 = .ok (.astore_n 3, 1) := by decide +kernel
theorem dL_addCourier_13 : decode cL_addCourier 13 = .ok (.iconst 1, 1) := by decide +kernel
theorem dL_addCourier_14 : decode cL_addCourier 14 = .ok (.ireturn, 1) := by decide +kernel
theorem dL_addCourier_15 : decode cL_addCourier 15 = .ok (.astore_n 3, 1) := by decide +kernel
theorem dL_addCourier_16 : decode cL_addCourier 16 = .ok (.iconst 2, 1) := by decide +kernel
theorem dL_addCourier_17 : decode cL_addCourier 17 = .ok (.ireturn, 1) := by decide +kernel
theorem dL_addCourier_18 : decode cL_addCourier 18 = .ok (.iconst 0, 1) := by decide +kernel
theorem dL_addCourier_19 : decode cL_addCourier 19 = .ok (.ireturn, 1) := by decide +kernel
theorem cw_addCourier : Cond.codeWith yL_addCourier cL_addCourier 4 (some .int) [(0, 9, 12, 21), (0, 9, 15, 15)] ∈ WT := (wtm_5 157 (by decide +kernel) (by decide +kernel))
def sL_addCourier (w : Wl) (l1 : Int32) : Option (Int32 × Wl) := (sX12_addCourier w l1).bind (lwW (some 1) none (some 2) w)
theorem kL_addCourier {l : Launch} {Γ : Gl} {B : Bs} {w : Wl} {G : Gf} {sz : Nat} {l1 : Int32} {r : Int32 × Wl} (htr : l.stackTraces = false) (hC : GC Γ B) (hW : Wd Γ B w G) (h : sL_addCourier w l1 = some r) : CtL l Γ yL_addCourier cL_addCourier 4 (some .int) [(0, 9, 12, 21), (0, 9, 15, 15)] 8 [.ref (B.1 + 0), .int l1, .ref (B.1 + 377)] G sz (fun v G' _ => v = some (.int r.1) ∧ Wd Γ B r.2 G') 1 6 := by
  refine CtL.of rfl (Nat.le_of_ble_eq_true rfl) fun X hx hr htb hl hΓ => ?_
  subst hl hΓ
  show J X 4 G sz 0 0 0 [some (.ref (B.1 + 0)), some (.int l1), some (.ref (B.1 + 377)), none] []
  unfold sL_addCourier at h
  obtain ⟨res, hres, h⟩ := bnd h
  refine J_al4 hx rfl rfl dL_addCourier_0 ?_
  refine J_iconst hx (0 : Int32) dL_addCourier_1 rfl ?_
  refine J_al4 hx rfl rfl dL_addCourier_2 ?_
  refine J_il4 hx rfl rfl dL_addCourier_3 ?_
  refine J_callVX hx htb (kX12_addCourier htr hC hW hres) ml_L_33 lk_X12_addCourier (ci := 10) rfl (hW.obj (rfl : kd 0 = 1) (by decide) (by decide)) (rest := [.int 0, .ref (B.1 + 377)]) rfl rfl (by decide) (by decide) (Nat.le_of_ble_eq_true rfl) (by decide) (by decide) dL_addCourier_4 (fun v G1 sz1 hΨ => ?_) (fun E q sz1 hE => ?_)
  · obtain ⟨p, rfl, hv, hG, hz⟩ := hΨ
    subst hv
    obtain rfl := Option.some.inj h
    show J X 4 _ _ 1 6 7 [some (.ref (B.1 + 0)), some (.int l1), some (.ref (B.1 + 377)), none] [.int p.1, .int 0, .ref (B.1 + 377)]
    refine J_i2l hx dL_addCourier_7 ?_
    refine J_outS hx hG dL_addCourier_8 fun G2 hW2 => ?_
    refine J_goto hx 18 dL_addCourier_9 rfl ?_
    refine J_iconst hx (0 : Int32) dL_addCourier_18 rfl ?_
    exact J_iret hx hr dL_addCourier_19 (by decide) (by decide) ⟨rfl, hW2⟩
  · cases res with
    | inr p => exact hE.elim
    | inl x =>
      rcases hE with ⟨rfl, rfl⟩ | ⟨rfl, rfl⟩ | ⟨rfl, rfl⟩
      · obtain rfl := Option.some.inj (h : some _ = some r)
        refine ⟨[], ⟨0, 9, 12, 21⟩, [⟨0, 9, 15, 15⟩], rfl, (fun z hz => nomatch hz), rfl, by decide, cl_L_21, (hx.kc hC).thr.2.2.2.2.2 _ (by decide +kernel), ?_⟩
        show J X 4 _ _ 1 6 12 [some (.ref (B.1 + 0)), some (.int l1), some (.ref (B.1 + 377)), none] [.ref q]
        refine J_as4 hx rfl (by decide) (hc_of rfl) rfl dL_addCourier_12 ?_
        refine J_iconst hx (1 : Int32) dL_addCourier_13 rfl ?_
        exact J_iret hx hr dL_addCourier_14 (by decide) (by decide) ⟨rfl, hW⟩
      · cases (show (none : Option (Int32 × Wl)) = some r from h)
      · obtain rfl := Option.some.inj (h : some _ = some r)
        refine ⟨[⟨0, 9, 12, 21⟩], ⟨0, 9, 15, 15⟩, [], rfl, (fun z hz => by
            rcases List.mem_cons.mp hz with rfl | hz
            · exact ⟨by decide, _, cl_L_21, (hx.kc hC).nc.2.1⟩
            cases hz), rfl, by decide, cl_L_15, (hx.kc hC).thr.2.2.2.2.2 _ (by decide +kernel), ?_⟩
        show J X 4 _ _ 1 6 15 [some (.ref (B.1 + 0)), some (.int l1), some (.ref (B.1 + 377)), none] [.ref q]
        refine J_as4 hx rfl (by decide) (hc_of rfl) rfl dL_addCourier_15 ?_
        refine J_iconst hx (2 : Int32) dL_addCourier_16 rfl ?_
        exact J_iret hx hr dL_addCourier_17 (by decide) (by decide) ⟨rfl, hW⟩
theorem dL_addCrate_0 : decode cL_addCrate 0 = .ok (.aload_n 3, 1) := by decide +kernel
theorem dL_addCrate_1 : decode cL_addCrate 1 = .ok (.iconst 0, 1) := by decide +kernel
theorem dL_addCrate_2 : decode cL_addCrate 2 = .ok (.aload_n 0, 1) := by decide +kernel
theorem dL_addCrate_3 : decode cL_addCrate 3 = .ok (.iload_n 1, 1) := by decide +kernel
theorem dL_addCrate_4 : decode cL_addCrate 4 = .ok (.iload_n 2, 1) := by decide +kernel
theorem dL_addCrate_5 : decode cL_addCrate 5 = .ok (.invokevirtual 36, 3) := by decide +kernel
theorem dL_addCrate_8 : decode cL_addCrate 8 = .ok (.i2l, 1) := by decide +kernel
theorem dL_addCrate_9 : decode cL_addCrate 9 = .ok (.lastore, 1) := by decide +kernel
theorem dL_addCrate_10 : decode cL_addCrate 10 = .ok (.goto 15, 3) := by decide +kernel
theorem dL_addCrate_13 : decode cL_addCrate 13 = .ok (.astore 4, 2) := by decide +kernel
theorem dL_addCrate_15 : decode cL_addCrate 15 = .ok (.iconst 1, 1) := by decide +kernel
theorem dL_addCrate_16 : decode cL_addCrate 16 = .ok (.ireturn, 1) := by decide +kernel
theorem dL_addCrate_17 : decode cL_addCrate 17 = .ok (.astore 4, 2) := by decide +kernel
theorem dL_addCrate_19 : decode cL_addCrate 19 = .ok (.iconst 2, 1) := by decide +kernel
theorem dL_addCrate_20 : decode cL_addCrate 20 = .ok (.ireturn, 1) := by decide +kernel
theorem dL_addCrate_21 : decode cL_addCrate 21 = .ok (.astore 4, 2) := by decide +kernel
theorem dL_addCrate_23 : decode cL_addCrate 23 = .ok (.iconst 3, 1) := by decide +kernel
theorem dL_addCrate_24 : decode cL_addCrate 24 = .ok (.ireturn, 1) := by decide +kernel
theorem dL_addCrate_25 : decode cL_addCrate 25 = .ok (.iconst 0, 1) := by decide +kernel
theorem dL_addCrate_26 : decode cL_addCrate 26 = .ok (.ireturn, 1) := by decide +kernel
theorem cw_addCrate : Cond.codeWith yL_addCrate cL_addCrate 5 (some .int) [(0, 10, 13, 21), (0, 10, 17, 13), (0, 10, 21, 15)] ∈ WT := (wtm_5 172 (by decide +kernel) (by decide +kernel))
def sL_addCrate (w : Wl) (l1 : Int32) (l2 : Int32) : Option (Int32 × Wl) := (sX12_addCrate w l1 l2).bind (lwW (some 1) (some 2) (some 3) w)
theorem kL_addCrate {l : Launch} {Γ : Gl} {B : Bs} {w : Wl} {G : Gf} {sz : Nat} {l1 : Int32} {l2 : Int32} {r : Int32 × Wl} (htr : l.stackTraces = false) (hC : GC Γ B) (hW : Wd Γ B w G) (h : sL_addCrate w l1 l2 = some r) : CtL l Γ yL_addCrate cL_addCrate 5 (some .int) [(0, 10, 13, 21), (0, 10, 17, 13), (0, 10, 21, 15)] 8 [.ref (B.1 + 0), .int l1, .int l2, .ref (B.1 + 377)] G sz (fun v G' _ => v = some (.int r.1) ∧ Wd Γ B r.2 G') 1 6 := by
  refine CtL.of rfl (Nat.le_of_ble_eq_true rfl) fun X hx hr htb hl hΓ => ?_
  subst hl hΓ
  show J X 5 G sz 0 0 0 [some (.ref (B.1 + 0)), some (.int l1), some (.int l2), some (.ref (B.1 + 377)), none] []
  unfold sL_addCrate at h
  obtain ⟨res, hres, h⟩ := bnd h
  refine J_al4 hx rfl rfl dL_addCrate_0 ?_
  refine J_iconst hx (0 : Int32) dL_addCrate_1 rfl ?_
  refine J_al4 hx rfl rfl dL_addCrate_2 ?_
  refine J_il4 hx rfl rfl dL_addCrate_3 ?_
  refine J_il4 hx rfl rfl dL_addCrate_4 ?_
  refine J_callVX hx htb (kX12_addCrate htr hC hW hres) ml_L_36 lk_X12_addCrate (ci := 10) rfl (hW.obj (rfl : kd 0 = 1) (by decide) (by decide)) (rest := [.int 0, .ref (B.1 + 377)]) rfl rfl (by decide) (by decide) (Nat.le_of_ble_eq_true rfl) (by decide) (by decide) dL_addCrate_5 (fun v G1 sz1 hΨ => ?_) (fun E q sz1 hE => ?_)
  · obtain ⟨p, rfl, hv, hG, hz⟩ := hΨ
    subst hv
    obtain rfl := Option.some.inj h
    show J X 5 _ _ 1 6 8 [some (.ref (B.1 + 0)), some (.int l1), some (.int l2), some (.ref (B.1 + 377)), none] [.int p.1, .int 0, .ref (B.1 + 377)]
    refine J_i2l hx dL_addCrate_8 ?_
    refine J_outS hx hG dL_addCrate_9 fun G2 hW2 => ?_
    refine J_goto hx 25 dL_addCrate_10 rfl ?_
    refine J_iconst hx (0 : Int32) dL_addCrate_25 rfl ?_
    exact J_iret hx hr dL_addCrate_26 (by decide) (by decide) ⟨rfl, hW2⟩
  · cases res with
    | inr p => exact hE.elim
    | inl x =>
      rcases hE with ⟨rfl, rfl⟩ | ⟨rfl, rfl⟩ | ⟨rfl, rfl⟩
      · obtain rfl := Option.some.inj (h : some _ = some r)
        refine ⟨[], ⟨0, 10, 13, 21⟩, [⟨0, 10, 17, 13⟩, ⟨0, 10, 21, 15⟩], rfl, (fun z hz => nomatch hz), rfl, by decide, cl_L_21, (hx.kc hC).thr.2.2.2.2.2 _ (by decide +kernel), ?_⟩
        show J X 5 _ _ 1 6 13 [some (.ref (B.1 + 0)), some (.int l1), some (.int l2), some (.ref (B.1 + 377)), none] [.ref q]
        refine J_as hx (by decide) (hc_of rfl) rfl dL_addCrate_13 ?_
        refine J_iconst hx (1 : Int32) dL_addCrate_15 rfl ?_
        exact J_iret hx hr dL_addCrate_16 (by decide) (by decide) ⟨rfl, hW⟩
      · obtain rfl := Option.some.inj (h : some _ = some r)
        refine ⟨[⟨0, 10, 13, 21⟩], ⟨0, 10, 17, 13⟩, [⟨0, 10, 21, 15⟩], rfl, (fun z hz => by
            rcases List.mem_cons.mp hz with rfl | hz
            · exact ⟨by decide, _, cl_L_21, (hx.kc hC).nc.1⟩
            cases hz), rfl, by decide, cl_L_13, (hx.kc hC).thr.2.2.2.2.2 _ (by decide +kernel), ?_⟩
        show J X 5 _ _ 1 6 17 [some (.ref (B.1 + 0)), some (.int l1), some (.int l2), some (.ref (B.1 + 377)), none] [.ref q]
        refine J_as hx (by decide) (hc_of rfl) rfl dL_addCrate_17 ?_
        refine J_iconst hx (2 : Int32) dL_addCrate_19 rfl ?_
        exact J_iret hx hr dL_addCrate_20 (by decide) (by decide) ⟨rfl, hW⟩
      · obtain rfl := Option.some.inj (h : some _ = some r)
        refine ⟨[⟨0, 10, 13, 21⟩, ⟨0, 10, 17, 13⟩], ⟨0, 10, 21, 15⟩, [], rfl, (fun z hz => by
            rcases List.mem_cons.mp hz with rfl | hz
            · exact ⟨by decide, _, cl_L_21, (hx.kc hC).nc.2.1⟩
            rcases List.mem_cons.mp hz with rfl | hz
            · exact ⟨by decide, _, cl_L_13, (hx.kc hC).nc.2.2⟩
            cases hz), rfl, by decide, cl_L_15, (hx.kc hC).thr.2.2.2.2.2 _ (by decide +kernel), ?_⟩
        show J X 5 _ _ 1 6 21 [some (.ref (B.1 + 0)), some (.int l1), some (.int l2), some (.ref (B.1 + 377)), none] [.ref q]
        refine J_as hx (by decide) (hc_of rfl) rfl dL_addCrate_21 ?_
        refine J_iconst hx (3 : Int32) dL_addCrate_23 rfl ?_
        exact J_iret hx hr dL_addCrate_24 (by decide) (by decide) ⟨rfl, hW⟩
theorem dL_addWork_0 : decode cL_addWork 0 = .ok (.aload 6, 2) := by decide +kernel
theorem dL_addWork_2 : decode cL_addWork 2 = .ok (.iconst 0, 1) := by decide +kernel
theorem dL_addWork_3 : decode cL_addWork 3 = .ok (.aload_n 0, 1) := by decide +kernel
theorem dL_addWork_4 : decode cL_addWork 4 = .ok (.iload_n 1, 1) := by decide +kernel
theorem dL_addWork_5 : decode cL_addWork 5 = .ok (.iload_n 2, 1) := by decide +kernel
theorem dL_addWork_6 : decode cL_addWork 6 = .ok (.iload_n 3, 1) := by decide +kernel
theorem dL_addWork_7 : decode cL_addWork 7 = .ok (.iload 4, 2) := by decide +kernel
theorem dL_addWork_9 : decode cL_addWork 9 = .ok (.iload 5, 2) := by decide +kernel
theorem dL_addWork_11 : decode cL_addWork 11 = .ok (.invokevirtual 40, 3) := by decide +kernel
theorem dL_addWork_14 : decode cL_addWork 14 = .ok (.i2l, 1) := by decide +kernel
theorem dL_addWork_15 : decode cL_addWork 15 = .ok (.lastore, 1) := by decide +kernel
theorem dL_addWork_16 : decode cL_addWork 16 = .ok (.goto 15, 3) := by decide +kernel
theorem dL_addWork_19 : decode cL_addWork 19 = .ok (.astore 7, 2) := by decide +kernel
theorem dL_addWork_21 : decode cL_addWork 21 = .ok (.iconst 1, 1) := by decide +kernel
theorem dL_addWork_22 : decode cL_addWork 22 = .ok (.ireturn, 1) := by decide +kernel
theorem dL_addWork_23 : decode cL_addWork 23 = .ok (.astore 7, 2) := by decide +kernel
theorem dL_addWork_25 : decode cL_addWork 25 = .ok (.iconst 2, 1) := by decide +kernel
theorem dL_addWork_26 : decode cL_addWork 26 = .ok (.ireturn, 1) := by decide +kernel
theorem dL_addWork_27 : decode cL_addWork 27 = .ok (.astore 7, 2) := by decide +kernel
theorem dL_addWork_29 : decode cL_addWork 29 = .ok (.iconst 3, 1) := by decide +kernel
theorem dL_addWork_30 : decode cL_addWork 30 = .ok (.ireturn, 1) := by decide +kernel
theorem dL_addWork_31 : decode cL_addWork 31 = .ok (.iconst 0, 1) := by decide +kernel
theorem dL_addWork_32 : decode cL_addWork 32 = .ok (.ireturn, 1) := by decide +kernel
theorem cw_addWork : Cond.codeWith yL_addWork cL_addWork 8 (some .int) [(0, 16, 19, 21), (0, 16, 23, 13), (0, 16, 27, 15)] ∈ WT := (wtm_5 187 (by decide +kernel) (by decide +kernel))
def sL_addWork (w : Wl) (l1 : Int32) (l2 : Int32) (l3 : Int32) (l4 : Int32) (l5 : Int32) : Option (Int32 × Wl) := (sX12_addWork w l1 l2 l3 l4 l5).bind (lwW (some 1) (some 2) (some 3) w)
theorem kL_addWork {l : Launch} {Γ : Gl} {B : Bs} {w : Wl} {G : Gf} {sz : Nat} {l1 : Int32} {l2 : Int32} {l3 : Int32} {l4 : Int32} {l5 : Int32} {r : Int32 × Wl} (htr : l.stackTraces = false) (hC : GC Γ B) (hW : Wd Γ B w G) (h : sL_addWork w l1 l2 l3 l4 l5 = some r) : CtL l Γ yL_addWork cL_addWork 8 (some .int) [(0, 16, 19, 21), (0, 16, 23, 13), (0, 16, 27, 15)] 8 [.ref (B.1 + 0), .int l1, .int l2, .int l3, .int l4, .int l5, .ref (B.1 + 377)] G sz (fun v G' _ => v = some (.int r.1) ∧ Wd Γ B r.2 G') 1 6 := by
  refine CtL.of rfl (Nat.le_of_ble_eq_true rfl) fun X hx hr htb hl hΓ => ?_
  subst hl hΓ
  show J X 8 G sz 0 0 0 [some (.ref (B.1 + 0)), some (.int l1), some (.int l2), some (.int l3), some (.int l4), some (.int l5), some (.ref (B.1 + 377)), none] []
  unfold sL_addWork at h
  obtain ⟨res, hres, h⟩ := bnd h
  refine J_al hx rfl dL_addWork_0 ?_
  refine J_iconst hx (0 : Int32) dL_addWork_2 rfl ?_
  refine J_al4 hx rfl rfl dL_addWork_3 ?_
  refine J_il4 hx rfl rfl dL_addWork_4 ?_
  refine J_il4 hx rfl rfl dL_addWork_5 ?_
  refine J_il4 hx rfl rfl dL_addWork_6 ?_
  refine J_il hx rfl dL_addWork_7 ?_
  refine J_il hx rfl dL_addWork_9 ?_
  refine J_callVX hx htb (kX12_addWork htr hC hW hres) ml_L_40 lk_X12_addWork (ci := 10) rfl (hW.obj (rfl : kd 0 = 1) (by decide) (by decide)) (rest := [.int 0, .ref (B.1 + 377)]) rfl rfl (by decide) (by decide) (Nat.le_of_ble_eq_true rfl) (by decide) (by decide) dL_addWork_11 (fun v G1 sz1 hΨ => ?_) (fun E q sz1 hE => ?_)
  · obtain ⟨p, rfl, hv, hG, hz⟩ := hΨ
    subst hv
    obtain rfl := Option.some.inj h
    show J X 8 _ _ 1 6 14 [some (.ref (B.1 + 0)), some (.int l1), some (.int l2), some (.int l3), some (.int l4), some (.int l5), some (.ref (B.1 + 377)), none] [.int p.1, .int 0, .ref (B.1 + 377)]
    refine J_i2l hx dL_addWork_14 ?_
    refine J_outS hx hG dL_addWork_15 fun G2 hW2 => ?_
    refine J_goto hx 31 dL_addWork_16 rfl ?_
    refine J_iconst hx (0 : Int32) dL_addWork_31 rfl ?_
    exact J_iret hx hr dL_addWork_32 (by decide) (by decide) ⟨rfl, hW2⟩
  · cases res with
    | inr p => exact hE.elim
    | inl x =>
      rcases hE with ⟨rfl, rfl⟩ | ⟨rfl, rfl⟩ | ⟨rfl, rfl⟩
      · obtain rfl := Option.some.inj (h : some _ = some r)
        refine ⟨[], ⟨0, 16, 19, 21⟩, [⟨0, 16, 23, 13⟩, ⟨0, 16, 27, 15⟩], rfl, (fun z hz => nomatch hz), rfl, by decide, cl_L_21, (hx.kc hC).thr.2.2.2.2.2 _ (by decide +kernel), ?_⟩
        show J X 8 _ _ 1 6 19 [some (.ref (B.1 + 0)), some (.int l1), some (.int l2), some (.int l3), some (.int l4), some (.int l5), some (.ref (B.1 + 377)), none] [.ref q]
        refine J_as hx (by decide) (hc_of rfl) rfl dL_addWork_19 ?_
        refine J_iconst hx (1 : Int32) dL_addWork_21 rfl ?_
        exact J_iret hx hr dL_addWork_22 (by decide) (by decide) ⟨rfl, hW⟩
      · obtain rfl := Option.some.inj (h : some _ = some r)
        refine ⟨[⟨0, 16, 19, 21⟩], ⟨0, 16, 23, 13⟩, [⟨0, 16, 27, 15⟩], rfl, (fun z hz => by
            rcases List.mem_cons.mp hz with rfl | hz
            · exact ⟨by decide, _, cl_L_21, (hx.kc hC).nc.1⟩
            cases hz), rfl, by decide, cl_L_13, (hx.kc hC).thr.2.2.2.2.2 _ (by decide +kernel), ?_⟩
        show J X 8 _ _ 1 6 23 [some (.ref (B.1 + 0)), some (.int l1), some (.int l2), some (.int l3), some (.int l4), some (.int l5), some (.ref (B.1 + 377)), none] [.ref q]
        refine J_as hx (by decide) (hc_of rfl) rfl dL_addWork_23 ?_
        refine J_iconst hx (2 : Int32) dL_addWork_25 rfl ?_
        exact J_iret hx hr dL_addWork_26 (by decide) (by decide) ⟨rfl, hW⟩
      · obtain rfl := Option.some.inj (h : some _ = some r)
        refine ⟨[⟨0, 16, 19, 21⟩, ⟨0, 16, 23, 13⟩], ⟨0, 16, 27, 15⟩, [], rfl, (fun z hz => by
            rcases List.mem_cons.mp hz with rfl | hz
            · exact ⟨by decide, _, cl_L_21, (hx.kc hC).nc.2.1⟩
            rcases List.mem_cons.mp hz with rfl | hz
            · exact ⟨by decide, _, cl_L_13, (hx.kc hC).nc.2.2⟩
            cases hz), rfl, by decide, cl_L_15, (hx.kc hC).thr.2.2.2.2.2 _ (by decide +kernel), ?_⟩
        show J X 8 _ _ 1 6 27 [some (.ref (B.1 + 0)), some (.int l1), some (.int l2), some (.int l3), some (.int l4), some (.int l5), some (.ref (B.1 + 377)), none] [.ref q]
        refine J_as hx (by decide) (hc_of rfl) rfl dL_addWork_27 ?_
        refine J_iconst hx (3 : Int32) dL_addWork_29 rfl ?_
        exact J_iret hx hr dL_addWork_30 (by decide) (by decide) ⟨rfl, hW⟩
theorem dL_open_0 : decode cL_open 0 = .ok (.aload_n 2, 1) := by decide +kernel
theorem dL_open_1 : decode cL_open 1 = .ok (.iconst 0, 1) := by decide +kernel
theorem dL_open_2 : decode cL_open 2 = .ok (.aload_n 0, 1) := by decide +kernel
theorem dL_open_3 : decode cL_open 3 = .ok (.iload_n 1, 1) := by decide +kernel
theorem dL_open_4 : decode cL_open 4 = .ok (.invokevirtual 44, 3) := by decide +kernel
theorem dL_open_7 : decode cL_open 7 = .ok (.i2l, 1) := by decide +kernel
theorem dL_open_8 : decode cL_open 8 = .ok (.lastore, 1) := by decide +kernel
theorem dL_open_9 : decode cL_open 9 = .ok (.goto 9, 3) := by decide +kernel
theorem dL_open_12 : decode cL_open 12 = .ok (.astore_n 3, 1) := by decide +kernel
theorem dL_open_13 : decode cL_open 13 = .ok (.iconst 1, 1) := by decide +kernel
theorem dL_open_14 : decode cL_open 14 = .ok (.ireturn, 1) := by decide +kernel
theorem dL_open_15 : decode cL_open 15 = .ok (.astore_n 3, 1) := by decide +kernel
theorem dL_open_16 : decode cL_open 16 = .ok (.iconst 2, 1) := by decide +kernel
theorem dL_open_17 : decode cL_open 17 = .ok (.ireturn, 1) := by decide +kernel
theorem dL_open_18 : decode cL_open 18 = .ok (.iconst 0, 1) := by decide +kernel
theorem dL_open_19 : decode cL_open 19 = .ok (.ireturn, 1) := by decide +kernel
theorem cw_open : Cond.codeWith yL_open cL_open 4 (some .int) [(0, 9, 12, 21), (0, 9, 15, 15)] ∈ WT := (wtm_5 203 (by decide +kernel) (by decide +kernel))
def sL_open (w : Wl) (l1 : Int32) : Option (Int32 × Wl) := (sX12_open w l1).bind (lwW (some 1) none (some 2) w)
theorem kL_open {l : Launch} {Γ : Gl} {B : Bs} {w : Wl} {G : Gf} {sz : Nat} {l1 : Int32} {r : Int32 × Wl} (htr : l.stackTraces = false) (hC : GC Γ B) (hW : Wd Γ B w G) (h : sL_open w l1 = some r) : CtL l Γ yL_open cL_open 4 (some .int) [(0, 9, 12, 21), (0, 9, 15, 15)] 8 [.ref (B.1 + 0), .int l1, .ref (B.1 + 377)] G sz (fun v G' _ => v = some (.int r.1) ∧ Wd Γ B r.2 G') 1 6 := by
  refine CtL.of rfl (Nat.le_of_ble_eq_true rfl) fun X hx hr htb hl hΓ => ?_
  subst hl hΓ
  show J X 4 G sz 0 0 0 [some (.ref (B.1 + 0)), some (.int l1), some (.ref (B.1 + 377)), none] []
  unfold sL_open at h
  obtain ⟨res, hres, h⟩ := bnd h
  refine J_al4 hx rfl rfl dL_open_0 ?_
  refine J_iconst hx (0 : Int32) dL_open_1 rfl ?_
  refine J_al4 hx rfl rfl dL_open_2 ?_
  refine J_il4 hx rfl rfl dL_open_3 ?_
  refine J_callVX hx htb (kX12_open htr hC hW hres) ml_L_44 lk_X12_open (ci := 10) rfl (hW.obj (rfl : kd 0 = 1) (by decide) (by decide)) (rest := [.int 0, .ref (B.1 + 377)]) rfl rfl (by decide) (by decide) (Nat.le_of_ble_eq_true rfl) (by decide) (by decide) dL_open_4 (fun v G1 sz1 hΨ => ?_) (fun E q sz1 hE => ?_)
  · obtain ⟨p, rfl, hv, hG, hz⟩ := hΨ
    subst hv
    obtain rfl := Option.some.inj h
    show J X 4 _ _ 1 6 7 [some (.ref (B.1 + 0)), some (.int l1), some (.ref (B.1 + 377)), none] [.int p.1, .int 0, .ref (B.1 + 377)]
    refine J_i2l hx dL_open_7 ?_
    refine J_outS hx hG dL_open_8 fun G2 hW2 => ?_
    refine J_goto hx 18 dL_open_9 rfl ?_
    refine J_iconst hx (0 : Int32) dL_open_18 rfl ?_
    exact J_iret hx hr dL_open_19 (by decide) (by decide) ⟨rfl, hW2⟩
  · cases res with
    | inr p => exact hE.elim
    | inl x =>
      rcases hE with ⟨rfl, rfl⟩ | ⟨rfl, rfl⟩ | ⟨rfl, rfl⟩
      · obtain rfl := Option.some.inj (h : some _ = some r)
        refine ⟨[], ⟨0, 9, 12, 21⟩, [⟨0, 9, 15, 15⟩], rfl, (fun z hz => nomatch hz), rfl, by decide, cl_L_21, (hx.kc hC).thr.2.2.2.2.2 _ (by decide +kernel), ?_⟩
        show J X 4 _ _ 1 6 12 [some (.ref (B.1 + 0)), some (.int l1), some (.ref (B.1 + 377)), none] [.ref q]
        refine J_as4 hx rfl (by decide) (hc_of rfl) rfl dL_open_12 ?_
        refine J_iconst hx (1 : Int32) dL_open_13 rfl ?_
        exact J_iret hx hr dL_open_14 (by decide) (by decide) ⟨rfl, hW⟩
      · cases (show (none : Option (Int32 × Wl)) = some r from h)
      · obtain rfl := Option.some.inj (h : some _ = some r)
        refine ⟨[⟨0, 9, 12, 21⟩], ⟨0, 9, 15, 15⟩, [], rfl, (fun z hz => by
            rcases List.mem_cons.mp hz with rfl | hz
            · exact ⟨by decide, _, cl_L_21, (hx.kc hC).nc.2.1⟩
            cases hz), rfl, by decide, cl_L_15, (hx.kc hC).thr.2.2.2.2.2 _ (by decide +kernel), ?_⟩
        show J X 4 _ _ 1 6 15 [some (.ref (B.1 + 0)), some (.int l1), some (.ref (B.1 + 377)), none] [.ref q]
        refine J_as4 hx rfl (by decide) (hc_of rfl) rfl dL_open_15 ?_
        refine J_iconst hx (2 : Int32) dL_open_16 rfl ?_
        exact J_iret hx hr dL_open_17 (by decide) (by decide) ⟨rfl, hW⟩
theorem dL_close_0 : decode cL_close 0 = .ok (.aload_n 2, 1) := by decide +kernel
theorem dL_close_1 : decode cL_close 1 = .ok (.iconst 0, 1) := by decide +kernel
theorem dL_close_2 : decode cL_close 2 = .ok (.aload_n 0, 1) := by decide +kernel
theorem dL_close_3 : decode cL_close 3 = .ok (.iload_n 1, 1) := by decide +kernel
theorem dL_close_4 : decode cL_close 4 = .ok (.invokevirtual 47, 3) := by decide +kernel
theorem dL_close_7 : decode cL_close 7 = .ok (.i2l, 1) := by decide +kernel
theorem dL_close_8 : decode cL_close 8 = .ok (.lastore, 1) := by decide +kernel
theorem dL_close_9 : decode cL_close 9 = .ok (.goto 9, 3) := by decide +kernel
theorem dL_close_12 : decode cL_close 12 = .ok (.astore_n 3, 1) := by decide +kernel
theorem dL_close_13 : decode cL_close 13 = .ok (.iconst 1, 1) := by decide +kernel
theorem dL_close_14 : decode cL_close 14 = .ok (.ireturn, 1) := by decide +kernel
theorem dL_close_15 : decode cL_close 15 = .ok (.astore_n 3, 1) := by decide +kernel
theorem dL_close_16 : decode cL_close 16 = .ok (.iconst 2, 1) := by decide +kernel
theorem dL_close_17 : decode cL_close 17 = .ok (.ireturn, 1) := by decide +kernel
theorem dL_close_18 : decode cL_close 18 = .ok (.iconst 0, 1) := by decide +kernel
theorem dL_close_19 : decode cL_close 19 = .ok (.ireturn, 1) := by decide +kernel
theorem cw_close : Cond.codeWith yL_close cL_close 4 (some .int) [(0, 9, 12, 21), (0, 9, 15, 15)] ∈ WT := (wtm_5 210 (by decide +kernel) (by decide +kernel))
def sL_close (w : Wl) (l1 : Int32) : Option (Int32 × Wl) := (sX12_close w l1).bind (lwW (some 1) none (some 2) w)
theorem kL_close {l : Launch} {Γ : Gl} {B : Bs} {w : Wl} {G : Gf} {sz : Nat} {l1 : Int32} {r : Int32 × Wl} (htr : l.stackTraces = false) (hC : GC Γ B) (hW : Wd Γ B w G) (h : sL_close w l1 = some r) : CtL l Γ yL_close cL_close 4 (some .int) [(0, 9, 12, 21), (0, 9, 15, 15)] 8 [.ref (B.1 + 0), .int l1, .ref (B.1 + 377)] G sz (fun v G' _ => v = some (.int r.1) ∧ Wd Γ B r.2 G') 1 6 := by
  refine CtL.of rfl (Nat.le_of_ble_eq_true rfl) fun X hx hr htb hl hΓ => ?_
  subst hl hΓ
  show J X 4 G sz 0 0 0 [some (.ref (B.1 + 0)), some (.int l1), some (.ref (B.1 + 377)), none] []
  unfold sL_close at h
  obtain ⟨res, hres, h⟩ := bnd h
  refine J_al4 hx rfl rfl dL_close_0 ?_
  refine J_iconst hx (0 : Int32) dL_close_1 rfl ?_
  refine J_al4 hx rfl rfl dL_close_2 ?_
  refine J_il4 hx rfl rfl dL_close_3 ?_
  refine J_callVX hx htb (kX12_close htr hC hW hres) ml_L_47 lk_X12_close (ci := 10) rfl (hW.obj (rfl : kd 0 = 1) (by decide) (by decide)) (rest := [.int 0, .ref (B.1 + 377)]) rfl rfl (by decide) (by decide) (Nat.le_of_ble_eq_true rfl) (by decide) (by decide) dL_close_4 (fun v G1 sz1 hΨ => ?_) (fun E q sz1 hE => ?_)
  · obtain ⟨p, rfl, hv, hG, hz⟩ := hΨ
    subst hv
    obtain rfl := Option.some.inj h
    show J X 4 _ _ 1 6 7 [some (.ref (B.1 + 0)), some (.int l1), some (.ref (B.1 + 377)), none] [.int p.1, .int 0, .ref (B.1 + 377)]
    refine J_i2l hx dL_close_7 ?_
    refine J_outS hx hG dL_close_8 fun G2 hW2 => ?_
    refine J_goto hx 18 dL_close_9 rfl ?_
    refine J_iconst hx (0 : Int32) dL_close_18 rfl ?_
    exact J_iret hx hr dL_close_19 (by decide) (by decide) ⟨rfl, hW2⟩
  · cases res with
    | inr p => exact hE.elim
    | inl x =>
      rcases hE with ⟨rfl, rfl⟩ | ⟨rfl, rfl⟩ | ⟨rfl, rfl⟩
      · obtain rfl := Option.some.inj (h : some _ = some r)
        refine ⟨[], ⟨0, 9, 12, 21⟩, [⟨0, 9, 15, 15⟩], rfl, (fun z hz => nomatch hz), rfl, by decide, cl_L_21, (hx.kc hC).thr.2.2.2.2.2 _ (by decide +kernel), ?_⟩
        show J X 4 _ _ 1 6 12 [some (.ref (B.1 + 0)), some (.int l1), some (.ref (B.1 + 377)), none] [.ref q]
        refine J_as4 hx rfl (by decide) (hc_of rfl) rfl dL_close_12 ?_
        refine J_iconst hx (1 : Int32) dL_close_13 rfl ?_
        exact J_iret hx hr dL_close_14 (by decide) (by decide) ⟨rfl, hW⟩
      · cases (show (none : Option (Int32 × Wl)) = some r from h)
      · obtain rfl := Option.some.inj (h : some _ = some r)
        refine ⟨[⟨0, 9, 12, 21⟩], ⟨0, 9, 15, 15⟩, [], rfl, (fun z hz => by
            rcases List.mem_cons.mp hz with rfl | hz
            · exact ⟨by decide, _, cl_L_21, (hx.kc hC).nc.2.1⟩
            cases hz), rfl, by decide, cl_L_15, (hx.kc hC).thr.2.2.2.2.2 _ (by decide +kernel), ?_⟩
        show J X 4 _ _ 1 6 15 [some (.ref (B.1 + 0)), some (.int l1), some (.ref (B.1 + 377)), none] [.ref q]
        refine J_as4 hx rfl (by decide) (hc_of rfl) rfl dL_close_15 ?_
        refine J_iconst hx (2 : Int32) dL_close_16 rfl ?_
        exact J_iret hx hr dL_close_17 (by decide) (by decide) ⟨rfl, hW⟩
theorem dL_nest_0 : decode cL_nest 0 = .ok (.aload_n 3, 1) := by decide +kernel
theorem dL_nest_1 : decode cL_nest 1 = .ok (.iconst 0, 1) := by decide +kernel
theorem dL_nest_2 : decode cL_nest 2 = .ok (.aload_n 0, 1) := by decide +kernel
theorem dL_nest_3 : decode cL_nest 3 = .ok (.iload_n 1, 1) := by decide +kernel
theorem dL_nest_4 : decode cL_nest 4 = .ok (.iload_n 2, 1) := by decide +kernel
theorem dL_nest_5 : decode cL_nest 5 = .ok (.invokevirtual 50, 3) := by decide +kernel
theorem dL_nest_8 : decode cL_nest 8 = .ok (.i2l, 1) := by decide +kernel
theorem dL_nest_9 : decode cL_nest 9 = .ok (.lastore, 1) := by decide +kernel
theorem dL_nest_10 : decode cL_nest 10 = .ok (.goto 11, 3) := by decide +kernel
theorem dL_nest_13 : decode cL_nest 13 = .ok (.astore 4, 2) := by decide +kernel
theorem dL_nest_15 : decode cL_nest 15 = .ok (.iconst 1, 1) := by decide +kernel
theorem dL_nest_16 : decode cL_nest 16 = .ok (.ireturn, 1) := by decide +kernel
theorem dL_nest_17 : decode cL_nest 17 = .ok (.astore 4, 2) := by decide +kernel
theorem dL_nest_19 : decode cL_nest 19 = .ok (.iconst 2, 1) := by decide +kernel
theorem dL_nest_20 : decode cL_nest 20 = .ok (.ireturn, 1) := by decide +kernel
theorem dL_nest_21 : decode cL_nest 21 = .ok (.iconst 0, 1) := by decide +kernel
theorem dL_nest_22 : decode cL_nest 22 = .ok (.ireturn, 1) := by decide +kernel
theorem cw_nest : Cond.codeWith yL_nest cL_nest 5 (some .int) [(0, 10, 13, 21), (0, 10, 17, 15)] ∈ WT := (wtm_5 217 (by decide +kernel) (by decide +kernel))
def sL_nest (w : Wl) (l1 : Int32) (l2 : Int32) : Option (Int32 × Wl) := (sX12_nest w l1 l2).bind (lwW (some 1) none (some 2) w)
theorem kL_nest {l : Launch} {Γ : Gl} {B : Bs} {w : Wl} {G : Gf} {sz : Nat} {l1 : Int32} {l2 : Int32} {r : Int32 × Wl} (htr : l.stackTraces = false) (hC : GC Γ B) (hW : Wd Γ B w G) (h : sL_nest w l1 l2 = some r) : CtL l Γ yL_nest cL_nest 5 (some .int) [(0, 10, 13, 21), (0, 10, 17, 15)] 8 [.ref (B.1 + 0), .int l1, .int l2, .ref (B.1 + 377)] G sz (fun v G' _ => v = some (.int r.1) ∧ Wd Γ B r.2 G') 1 6 := by
  refine CtL.of rfl (Nat.le_of_ble_eq_true rfl) fun X hx hr htb hl hΓ => ?_
  subst hl hΓ
  show J X 5 G sz 0 0 0 [some (.ref (B.1 + 0)), some (.int l1), some (.int l2), some (.ref (B.1 + 377)), none] []
  unfold sL_nest at h
  obtain ⟨res, hres, h⟩ := bnd h
  refine J_al4 hx rfl rfl dL_nest_0 ?_
  refine J_iconst hx (0 : Int32) dL_nest_1 rfl ?_
  refine J_al4 hx rfl rfl dL_nest_2 ?_
  refine J_il4 hx rfl rfl dL_nest_3 ?_
  refine J_il4 hx rfl rfl dL_nest_4 ?_
  refine J_callVX hx htb (kX12_nest htr hC hW hres) ml_L_50 lk_X12_nest (ci := 10) rfl (hW.obj (rfl : kd 0 = 1) (by decide) (by decide)) (rest := [.int 0, .ref (B.1 + 377)]) rfl rfl (by decide) (by decide) (Nat.le_of_ble_eq_true rfl) (by decide) (by decide) dL_nest_5 (fun v G1 sz1 hΨ => ?_) (fun E q sz1 hE => ?_)
  · obtain ⟨p, rfl, hv, hG, hz⟩ := hΨ
    subst hv
    obtain rfl := Option.some.inj h
    show J X 5 _ _ 1 6 8 [some (.ref (B.1 + 0)), some (.int l1), some (.int l2), some (.ref (B.1 + 377)), none] [.int p.1, .int 0, .ref (B.1 + 377)]
    refine J_i2l hx dL_nest_8 ?_
    refine J_outS hx hG dL_nest_9 fun G2 hW2 => ?_
    refine J_goto hx 21 dL_nest_10 rfl ?_
    refine J_iconst hx (0 : Int32) dL_nest_21 rfl ?_
    exact J_iret hx hr dL_nest_22 (by decide) (by decide) ⟨rfl, hW2⟩
  · cases res with
    | inr p => exact hE.elim
    | inl x =>
      rcases hE with ⟨rfl, rfl⟩ | ⟨rfl, rfl⟩ | ⟨rfl, rfl⟩
      · obtain rfl := Option.some.inj (h : some _ = some r)
        refine ⟨[], ⟨0, 10, 13, 21⟩, [⟨0, 10, 17, 15⟩], rfl, (fun z hz => nomatch hz), rfl, by decide, cl_L_21, (hx.kc hC).thr.2.2.2.2.2 _ (by decide +kernel), ?_⟩
        show J X 5 _ _ 1 6 13 [some (.ref (B.1 + 0)), some (.int l1), some (.int l2), some (.ref (B.1 + 377)), none] [.ref q]
        refine J_as hx (by decide) (hc_of rfl) rfl dL_nest_13 ?_
        refine J_iconst hx (1 : Int32) dL_nest_15 rfl ?_
        exact J_iret hx hr dL_nest_16 (by decide) (by decide) ⟨rfl, hW⟩
      · cases (show (none : Option (Int32 × Wl)) = some r from h)
      · obtain rfl := Option.some.inj (h : some _ = some r)
        refine ⟨[⟨0, 10, 13, 21⟩], ⟨0, 10, 17, 15⟩, [], rfl, (fun z hz => by
            rcases List.mem_cons.mp hz with rfl | hz
            · exact ⟨by decide, _, cl_L_21, (hx.kc hC).nc.2.1⟩
            cases hz), rfl, by decide, cl_L_15, (hx.kc hC).thr.2.2.2.2.2 _ (by decide +kernel), ?_⟩
        show J X 5 _ _ 1 6 17 [some (.ref (B.1 + 0)), some (.int l1), some (.int l2), some (.ref (B.1 + 377)), none] [.ref q]
        refine J_as hx (by decide) (hc_of rfl) rfl dL_nest_17 ?_
        refine J_iconst hx (2 : Int32) dL_nest_19 rfl ?_
        exact J_iret hx hr dL_nest_20 (by decide) (by decide) ⟨rfl, hW⟩
theorem dL_takeOut_0 : decode cL_takeOut 0 = .ok (.aload_n 2, 1) := by decide +kernel
theorem dL_takeOut_1 : decode cL_takeOut 1 = .ok (.iconst 0, 1) := by decide +kernel
theorem dL_takeOut_2 : decode cL_takeOut 2 = .ok (.aload_n 0, 1) := by decide +kernel
theorem dL_takeOut_3 : decode cL_takeOut 3 = .ok (.iload_n 1, 1) := by decide +kernel
theorem dL_takeOut_4 : decode cL_takeOut 4 = .ok (.invokevirtual 53, 3) := by decide +kernel
theorem dL_takeOut_7 : decode cL_takeOut 7 = .ok (.i2l, 1) := by decide +kernel
theorem dL_takeOut_8 : decode cL_takeOut 8 = .ok (.lastore, 1) := by decide +kernel
theorem dL_takeOut_9 : decode cL_takeOut 9 = .ok (.goto 9, 3) := by decide +kernel
theorem dL_takeOut_12 : decode cL_takeOut 12 = .ok (.astore_n 3, 1) := by decide +kernel
theorem dL_takeOut_13 : decode cL_takeOut 13 = .ok (.iconst 1, 1) := by decide +kernel
theorem dL_takeOut_14 : decode cL_takeOut 14 = .ok (.ireturn, 1) := by decide +kernel
theorem dL_takeOut_15 : decode cL_takeOut 15 = .ok (.astore_n 3, 1) := by decide +kernel
theorem dL_takeOut_16 : decode cL_takeOut 16 = .ok (.iconst 2, 1) := by decide +kernel
theorem dL_takeOut_17 : decode cL_takeOut 17 = .ok (.ireturn, 1) := by decide +kernel
theorem dL_takeOut_18 : decode cL_takeOut 18 = .ok (.iconst 0, 1) := by decide +kernel
theorem dL_takeOut_19 : decode cL_takeOut 19 = .ok (.ireturn, 1) := by decide +kernel
theorem cw_takeOut : Cond.codeWith yL_takeOut cL_takeOut 4 (some .int) [(0, 9, 12, 21), (0, 9, 15, 15)] ∈ WT := (wtm_5 224 (by decide +kernel) (by decide +kernel))
def sL_takeOut (w : Wl) (l1 : Int32) : Option (Int32 × Wl) := (sX12_takeOut w l1).bind (lwW (some 1) none (some 2) w)
theorem kL_takeOut {l : Launch} {Γ : Gl} {B : Bs} {w : Wl} {G : Gf} {sz : Nat} {l1 : Int32} {r : Int32 × Wl} (htr : l.stackTraces = false) (hC : GC Γ B) (hW : Wd Γ B w G) (h : sL_takeOut w l1 = some r) : CtL l Γ yL_takeOut cL_takeOut 4 (some .int) [(0, 9, 12, 21), (0, 9, 15, 15)] 8 [.ref (B.1 + 0), .int l1, .ref (B.1 + 377)] G sz (fun v G' _ => v = some (.int r.1) ∧ Wd Γ B r.2 G') 1 6 := by
  refine CtL.of rfl (Nat.le_of_ble_eq_true rfl) fun X hx hr htb hl hΓ => ?_
  subst hl hΓ
  show J X 4 G sz 0 0 0 [some (.ref (B.1 + 0)), some (.int l1), some (.ref (B.1 + 377)), none] []
  unfold sL_takeOut at h
  obtain ⟨res, hres, h⟩ := bnd h
  refine J_al4 hx rfl rfl dL_takeOut_0 ?_
  refine J_iconst hx (0 : Int32) dL_takeOut_1 rfl ?_
  refine J_al4 hx rfl rfl dL_takeOut_2 ?_
  refine J_il4 hx rfl rfl dL_takeOut_3 ?_
  refine J_callVX hx htb (kX12_takeOut htr hC hW hres) ml_L_53 lk_X12_takeOut (ci := 10) rfl (hW.obj (rfl : kd 0 = 1) (by decide) (by decide)) (rest := [.int 0, .ref (B.1 + 377)]) rfl rfl (by decide) (by decide) (Nat.le_of_ble_eq_true rfl) (by decide) (by decide) dL_takeOut_4 (fun v G1 sz1 hΨ => ?_) (fun E q sz1 hE => ?_)
  · obtain ⟨p, rfl, hv, hG, hz⟩ := hΨ
    subst hv
    obtain rfl := Option.some.inj h
    show J X 4 _ _ 1 6 7 [some (.ref (B.1 + 0)), some (.int l1), some (.ref (B.1 + 377)), none] [.int p.1, .int 0, .ref (B.1 + 377)]
    refine J_i2l hx dL_takeOut_7 ?_
    refine J_outS hx hG dL_takeOut_8 fun G2 hW2 => ?_
    refine J_goto hx 18 dL_takeOut_9 rfl ?_
    refine J_iconst hx (0 : Int32) dL_takeOut_18 rfl ?_
    exact J_iret hx hr dL_takeOut_19 (by decide) (by decide) ⟨rfl, hW2⟩
  · cases res with
    | inr p => exact hE.elim
    | inl x =>
      rcases hE with ⟨rfl, rfl⟩ | ⟨rfl, rfl⟩ | ⟨rfl, rfl⟩
      · obtain rfl := Option.some.inj (h : some _ = some r)
        refine ⟨[], ⟨0, 9, 12, 21⟩, [⟨0, 9, 15, 15⟩], rfl, (fun z hz => nomatch hz), rfl, by decide, cl_L_21, (hx.kc hC).thr.2.2.2.2.2 _ (by decide +kernel), ?_⟩
        show J X 4 _ _ 1 6 12 [some (.ref (B.1 + 0)), some (.int l1), some (.ref (B.1 + 377)), none] [.ref q]
        refine J_as4 hx rfl (by decide) (hc_of rfl) rfl dL_takeOut_12 ?_
        refine J_iconst hx (1 : Int32) dL_takeOut_13 rfl ?_
        exact J_iret hx hr dL_takeOut_14 (by decide) (by decide) ⟨rfl, hW⟩
      · cases (show (none : Option (Int32 × Wl)) = some r from h)
      · obtain rfl := Option.some.inj (h : some _ = some r)
        refine ⟨[⟨0, 9, 12, 21⟩], ⟨0, 9, 15, 15⟩, [], rfl, (fun z hz => by
            rcases List.mem_cons.mp hz with rfl | hz
            · exact ⟨by decide, _, cl_L_21, (hx.kc hC).nc.2.1⟩
            cases hz), rfl, by decide, cl_L_15, (hx.kc hC).thr.2.2.2.2.2 _ (by decide +kernel), ?_⟩
        show J X 4 _ _ 1 6 15 [some (.ref (B.1 + 0)), some (.int l1), some (.ref (B.1 + 377)), none] [.ref q]
        refine J_as4 hx rfl (by decide) (hc_of rfl) rfl dL_takeOut_15 ?_
        refine J_iconst hx (2 : Int32) dL_takeOut_16 rfl ?_
        exact J_iret hx hr dL_takeOut_17 (by decide) (by decide) ⟨rfl, hW⟩
theorem dL_pack_0 : decode cL_pack 0 = .ok (.aload_n 3, 1) := by decide +kernel
theorem dL_pack_1 : decode cL_pack 1 = .ok (.iconst 0, 1) := by decide +kernel
theorem dL_pack_2 : decode cL_pack 2 = .ok (.aload_n 0, 1) := by decide +kernel
theorem dL_pack_3 : decode cL_pack 3 = .ok (.iload_n 1, 1) := by decide +kernel
theorem dL_pack_4 : decode cL_pack 4 = .ok (.iload_n 2, 1) := by decide +kernel
theorem dL_pack_5 : decode cL_pack 5 = .ok (.invokevirtual 56, 3) := by decide +kernel
theorem dL_pack_8 : decode cL_pack 8 = .ok (.i2l, 1) := by decide +kernel
theorem dL_pack_9 : decode cL_pack 9 = .ok (.lastore, 1) := by decide +kernel
theorem dL_pack_10 : decode cL_pack 10 = .ok (.goto 11, 3) := by decide +kernel
theorem dL_pack_13 : decode cL_pack 13 = .ok (.astore 4, 2) := by decide +kernel
theorem dL_pack_15 : decode cL_pack 15 = .ok (.iconst 1, 1) := by decide +kernel
theorem dL_pack_16 : decode cL_pack 16 = .ok (.ireturn, 1) := by decide +kernel
theorem dL_pack_17 : decode cL_pack 17 = .ok (.astore 4, 2) := by decide +kernel
theorem dL_pack_19 : decode cL_pack 19 = .ok (.iconst 2, 1) := by decide +kernel
theorem dL_pack_20 : decode cL_pack 20 = .ok (.ireturn, 1) := by decide +kernel
theorem dL_pack_21 : decode cL_pack 21 = .ok (.iconst 0, 1) := by decide +kernel
theorem dL_pack_22 : decode cL_pack 22 = .ok (.ireturn, 1) := by decide +kernel
theorem cw_pack : Cond.codeWith yL_pack cL_pack 5 (some .int) [(0, 10, 13, 21), (0, 10, 17, 15)] ∈ WT := (wtm_5 231 (by decide +kernel) (by decide +kernel))
def sL_pack (w : Wl) (l1 : Int32) (l2 : Int32) : Option (Int32 × Wl) := (sX12_pack w l1 l2).bind (lwW (some 1) none (some 2) w)
theorem kL_pack {l : Launch} {Γ : Gl} {B : Bs} {w : Wl} {G : Gf} {sz : Nat} {l1 : Int32} {l2 : Int32} {r : Int32 × Wl} (htr : l.stackTraces = false) (hC : GC Γ B) (hW : Wd Γ B w G) (h : sL_pack w l1 l2 = some r) : CtL l Γ yL_pack cL_pack 5 (some .int) [(0, 10, 13, 21), (0, 10, 17, 15)] 8 [.ref (B.1 + 0), .int l1, .int l2, .ref (B.1 + 377)] G sz (fun v G' _ => v = some (.int r.1) ∧ Wd Γ B r.2 G') 1 6 := by
  refine CtL.of rfl (Nat.le_of_ble_eq_true rfl) fun X hx hr htb hl hΓ => ?_
  subst hl hΓ
  show J X 5 G sz 0 0 0 [some (.ref (B.1 + 0)), some (.int l1), some (.int l2), some (.ref (B.1 + 377)), none] []
  unfold sL_pack at h
  obtain ⟨res, hres, h⟩ := bnd h
  refine J_al4 hx rfl rfl dL_pack_0 ?_
  refine J_iconst hx (0 : Int32) dL_pack_1 rfl ?_
  refine J_al4 hx rfl rfl dL_pack_2 ?_
  refine J_il4 hx rfl rfl dL_pack_3 ?_
  refine J_il4 hx rfl rfl dL_pack_4 ?_
  refine J_callVX hx htb (kX12_pack htr hC hW hres) ml_L_56 lk_X12_pack (ci := 10) rfl (hW.obj (rfl : kd 0 = 1) (by decide) (by decide)) (rest := [.int 0, .ref (B.1 + 377)]) rfl rfl (by decide) (by decide) (Nat.le_of_ble_eq_true rfl) (by decide) (by decide) dL_pack_5 (fun v G1 sz1 hΨ => ?_) (fun E q sz1 hE => ?_)
  · obtain ⟨p, rfl, hv, hG, hz⟩ := hΨ
    subst hv
    obtain rfl := Option.some.inj h
    show J X 5 _ _ 1 6 8 [some (.ref (B.1 + 0)), some (.int l1), some (.int l2), some (.ref (B.1 + 377)), none] [.int p.1, .int 0, .ref (B.1 + 377)]
    refine J_i2l hx dL_pack_8 ?_
    refine J_outS hx hG dL_pack_9 fun G2 hW2 => ?_
    refine J_goto hx 21 dL_pack_10 rfl ?_
    refine J_iconst hx (0 : Int32) dL_pack_21 rfl ?_
    exact J_iret hx hr dL_pack_22 (by decide) (by decide) ⟨rfl, hW2⟩
  · cases res with
    | inr p => exact hE.elim
    | inl x =>
      rcases hE with ⟨rfl, rfl⟩ | ⟨rfl, rfl⟩ | ⟨rfl, rfl⟩
      · obtain rfl := Option.some.inj (h : some _ = some r)
        refine ⟨[], ⟨0, 10, 13, 21⟩, [⟨0, 10, 17, 15⟩], rfl, (fun z hz => nomatch hz), rfl, by decide, cl_L_21, (hx.kc hC).thr.2.2.2.2.2 _ (by decide +kernel), ?_⟩
        show J X 5 _ _ 1 6 13 [some (.ref (B.1 + 0)), some (.int l1), some (.int l2), some (.ref (B.1 + 377)), none] [.ref q]
        refine J_as hx (by decide) (hc_of rfl) rfl dL_pack_13 ?_
        refine J_iconst hx (1 : Int32) dL_pack_15 rfl ?_
        exact J_iret hx hr dL_pack_16 (by decide) (by decide) ⟨rfl, hW⟩
      · cases (show (none : Option (Int32 × Wl)) = some r from h)
      · obtain rfl := Option.some.inj (h : some _ = some r)
        refine ⟨[⟨0, 10, 13, 21⟩], ⟨0, 10, 17, 15⟩, [], rfl, (fun z hz => by
            rcases List.mem_cons.mp hz with rfl | hz
            · exact ⟨by decide, _, cl_L_21, (hx.kc hC).nc.2.1⟩
            cases hz), rfl, by decide, cl_L_15, (hx.kc hC).thr.2.2.2.2.2 _ (by decide +kernel), ?_⟩
        show J X 5 _ _ 1 6 17 [some (.ref (B.1 + 0)), some (.int l1), some (.int l2), some (.ref (B.1 + 377)), none] [.ref q]
        refine J_as hx (by decide) (hc_of rfl) rfl dL_pack_17 ?_
        refine J_iconst hx (2 : Int32) dL_pack_19 rfl ?_
        exact J_iret hx hr dL_pack_20 (by decide) (by decide) ⟨rfl, hW⟩
theorem dL_unpack_0 : decode cL_unpack 0 = .ok (.aload_n 2, 1) := by decide +kernel
theorem dL_unpack_1 : decode cL_unpack 1 = .ok (.iconst 0, 1) := by decide +kernel
theorem dL_unpack_2 : decode cL_unpack 2 = .ok (.aload_n 0, 1) := by decide +kernel
theorem dL_unpack_3 : decode cL_unpack 3 = .ok (.iload_n 1, 1) := by decide +kernel
theorem dL_unpack_4 : decode cL_unpack 4 = .ok (.invokevirtual 59, 3) := by decide +kernel
theorem dL_unpack_7 : decode cL_unpack 7 = .ok (.i2l, 1) := by decide +kernel
theorem dL_unpack_8 : decode cL_unpack 8 = .ok (.lastore, 1) := by decide +kernel
theorem dL_unpack_9 : decode cL_unpack 9 = .ok (.goto 9, 3) := by decide +kernel
theorem dL_unpack_12 : decode cL_unpack 12 = .ok (.astore_n 3, 1) := by decide +kernel
theorem dL_unpack_13 : decode cL_unpack 13 = .ok (.iconst 1, 1) := by decide +kernel
theorem dL_unpack_14 : decode cL_unpack 14 = .ok (.ireturn, 1) := by decide +kernel
theorem dL_unpack_15 : decode cL_unpack 15 = .ok (.astore_n 3, 1) := by decide +kernel
theorem dL_unpack_16 : decode cL_unpack 16 = .ok (.iconst 2, 1) := by decide +kernel
theorem dL_unpack_17 : decode cL_unpack 17 = .ok (.ireturn, 1) := by decide +kernel
theorem dL_unpack_18 : decode cL_unpack 18 = .ok (.iconst 0, 1) := by decide +kernel
theorem dL_unpack_19 : decode cL_unpack 19 = .ok (.ireturn, 1) := by decide +kernel
theorem cw_unpack : Cond.codeWith yL_unpack cL_unpack 4 (some .int) [(0, 9, 12, 21), (0, 9, 15, 15)] ∈ WT := (wtm_5 238 (by decide +kernel) (by decide +kernel))
def sL_unpack (w : Wl) (l1 : Int32) : Option (Int32 × Wl) := (sX12_unpack w l1).bind (lwW (some 1) none (some 2) w)
theorem kL_unpack {l : Launch} {Γ : Gl} {B : Bs} {w : Wl} {G : Gf} {sz : Nat} {l1 : Int32} {r : Int32 × Wl} (htr : l.stackTraces = false) (hC : GC Γ B) (hW : Wd Γ B w G) (h : sL_unpack w l1 = some r) : CtL l Γ yL_unpack cL_unpack 4 (some .int) [(0, 9, 12, 21), (0, 9, 15, 15)] 8 [.ref (B.1 + 0), .int l1, .ref (B.1 + 377)] G sz (fun v G' _ => v = some (.int r.1) ∧ Wd Γ B r.2 G') 1 6 := by
  refine CtL.of rfl (Nat.le_of_ble_eq_true rfl) fun X hx hr htb hl hΓ => ?_
  subst hl hΓ
  show J X 4 G sz 0 0 0 [some (.ref (B.1 + 0)), some (.int l1), some (.ref (B.1 + 377)), none] []
  unfold sL_unpack at h
  obtain ⟨res, hres, h⟩ := bnd h
  refine J_al4 hx rfl rfl dL_unpack_0 ?_
  refine J_iconst hx (0 : Int32) dL_unpack_1 rfl ?_
  refine J_al4 hx rfl rfl dL_unpack_2 ?_
  refine J_il4 hx rfl rfl dL_unpack_3 ?_
  refine J_callVX hx htb (kX12_unpack htr hC hW hres) ml_L_59 lk_X12_unpack (ci := 10) rfl (hW.obj (rfl : kd 0 = 1) (by decide) (by decide)) (rest := [.int 0, .ref (B.1 + 377)]) rfl rfl (by decide) (by decide) (Nat.le_of_ble_eq_true rfl) (by decide) (by decide) dL_unpack_4 (fun v G1 sz1 hΨ => ?_) (fun E q sz1 hE => ?_)
  · obtain ⟨p, rfl, hv, hG, hz⟩ := hΨ
    subst hv
    obtain rfl := Option.some.inj h
    show J X 4 _ _ 1 6 7 [some (.ref (B.1 + 0)), some (.int l1), some (.ref (B.1 + 377)), none] [.int p.1, .int 0, .ref (B.1 + 377)]
    refine J_i2l hx dL_unpack_7 ?_
    refine J_outS hx hG dL_unpack_8 fun G2 hW2 => ?_
    refine J_goto hx 18 dL_unpack_9 rfl ?_
    refine J_iconst hx (0 : Int32) dL_unpack_18 rfl ?_
    exact J_iret hx hr dL_unpack_19 (by decide) (by decide) ⟨rfl, hW2⟩
  · cases res with
    | inr p => exact hE.elim
    | inl x =>
      rcases hE with ⟨rfl, rfl⟩ | ⟨rfl, rfl⟩ | ⟨rfl, rfl⟩
      · obtain rfl := Option.some.inj (h : some _ = some r)
        refine ⟨[], ⟨0, 9, 12, 21⟩, [⟨0, 9, 15, 15⟩], rfl, (fun z hz => nomatch hz), rfl, by decide, cl_L_21, (hx.kc hC).thr.2.2.2.2.2 _ (by decide +kernel), ?_⟩
        show J X 4 _ _ 1 6 12 [some (.ref (B.1 + 0)), some (.int l1), some (.ref (B.1 + 377)), none] [.ref q]
        refine J_as4 hx rfl (by decide) (hc_of rfl) rfl dL_unpack_12 ?_
        refine J_iconst hx (1 : Int32) dL_unpack_13 rfl ?_
        exact J_iret hx hr dL_unpack_14 (by decide) (by decide) ⟨rfl, hW⟩
      · cases (show (none : Option (Int32 × Wl)) = some r from h)
      · obtain rfl := Option.some.inj (h : some _ = some r)
        refine ⟨[⟨0, 9, 12, 21⟩], ⟨0, 9, 15, 15⟩, [], rfl, (fun z hz => by
            rcases List.mem_cons.mp hz with rfl | hz
            · exact ⟨by decide, _, cl_L_21, (hx.kc hC).nc.2.1⟩
            cases hz), rfl, by decide, cl_L_15, (hx.kc hC).thr.2.2.2.2.2 _ (by decide +kernel), ?_⟩
        show J X 4 _ _ 1 6 15 [some (.ref (B.1 + 0)), some (.int l1), some (.ref (B.1 + 377)), none] [.ref q]
        refine J_as4 hx rfl (by decide) (hc_of rfl) rfl dL_unpack_15 ?_
        refine J_iconst hx (2 : Int32) dL_unpack_16 rfl ?_
        exact J_iret hx hr dL_unpack_17 (by decide) (by decide) ⟨rfl, hW⟩
theorem dL_send_0 : decode cL_send 0 = .ok (.aload 4, 2) := by decide +kernel
theorem dL_send_2 : decode cL_send 2 = .ok (.iconst 0, 1) := by decide +kernel
theorem dL_send_3 : decode cL_send 3 = .ok (.aload_n 0, 1) := by decide +kernel
theorem dL_send_4 : decode cL_send 4 = .ok (.iload_n 1, 1) := by decide +kernel
theorem dL_send_5 : decode cL_send 5 = .ok (.iload_n 2, 1) := by decide +kernel
theorem dL_send_6 : decode cL_send 6 = .ok (.iload_n 3, 1) := by decide +kernel
theorem dL_send_7 : decode cL_send 7 = .ok (.invokevirtual 62, 3) := by decide +kernel
theorem dL_send_10 : decode cL_send 10 = .ok (.i2l, 1) := by decide +kernel
theorem dL_send_11 : decode cL_send 11 = .ok (.lastore, 1) := by decide +kernel
theorem dL_send_12 : decode cL_send 12 = .ok (.goto 11, 3) := by decide +kernel
theorem dL_send_15 : decode cL_send 15 = .ok (.astore 5, 2) := by decide +kernel
theorem dL_send_17 : decode cL_send 17 = .ok (.iconst 1, 1) := by decide +kernel
theorem dL_send_18 : decode cL_send 18 = .ok (.ireturn, 1) := by decide +kernel
theorem dL_send_19 : decode cL_send 19 = .ok (.astore 5, 2) := by decide +kernel
theorem dL_send_21 : decode cL_send 21 = .ok (.iconst 2, 1) := by decide +kernel
theorem dL_send_22 : decode cL_send 22 = .ok (.ireturn, 1) := by decide +kernel
theorem dL_send_23 : decode cL_send 23 = .ok (.iconst 0, 1) := by decide +kernel
theorem dL_send_24 : decode cL_send 24 = .ok (.ireturn, 1) := by decide +kernel
theorem cw_send : Cond.codeWith yL_send cL_send 6 (some .int) [(0, 12, 15, 21), (0, 12, 19, 15)] ∈ WT := (wtm_6 5 (by decide +kernel) (by decide +kernel))
def sL_send (w : Wl) (l1 : Int32) (l2 : Int32) (l3 : Int32) : Option (Int32 × Wl) := (sX12_send w l1 l2 l3).bind (lwW (some 1) none (some 2) w)
theorem kL_send {l : Launch} {Γ : Gl} {B : Bs} {w : Wl} {G : Gf} {sz : Nat} {l1 : Int32} {l2 : Int32} {l3 : Int32} {r : Int32 × Wl} (htr : l.stackTraces = false) (hC : GC Γ B) (hW : Wd Γ B w G) (h : sL_send w l1 l2 l3 = some r) : CtL l Γ yL_send cL_send 6 (some .int) [(0, 12, 15, 21), (0, 12, 19, 15)] 8 [.ref (B.1 + 0), .int l1, .int l2, .int l3, .ref (B.1 + 377)] G sz (fun v G' _ => v = some (.int r.1) ∧ Wd Γ B r.2 G') 1 6 := by
  refine CtL.of rfl (Nat.le_of_ble_eq_true rfl) fun X hx hr htb hl hΓ => ?_
  subst hl hΓ
  show J X 6 G sz 0 0 0 [some (.ref (B.1 + 0)), some (.int l1), some (.int l2), some (.int l3), some (.ref (B.1 + 377)), none] []
  unfold sL_send at h
  obtain ⟨res, hres, h⟩ := bnd h
  refine J_al hx rfl dL_send_0 ?_
  refine J_iconst hx (0 : Int32) dL_send_2 rfl ?_
  refine J_al4 hx rfl rfl dL_send_3 ?_
  refine J_il4 hx rfl rfl dL_send_4 ?_
  refine J_il4 hx rfl rfl dL_send_5 ?_
  refine J_il4 hx rfl rfl dL_send_6 ?_
  refine J_callVX hx htb (kX12_send htr hC hW hres) ml_L_62 lk_X12_send (ci := 10) rfl (hW.obj (rfl : kd 0 = 1) (by decide) (by decide)) (rest := [.int 0, .ref (B.1 + 377)]) rfl rfl (by decide) (by decide) (Nat.le_of_ble_eq_true rfl) (by decide) (by decide) dL_send_7 (fun v G1 sz1 hΨ => ?_) (fun E q sz1 hE => ?_)
  · obtain ⟨p, rfl, hv, hG, hz⟩ := hΨ
    subst hv
    obtain rfl := Option.some.inj h
    show J X 6 _ _ 1 6 10 [some (.ref (B.1 + 0)), some (.int l1), some (.int l2), some (.int l3), some (.ref (B.1 + 377)), none] [.int p.1, .int 0, .ref (B.1 + 377)]
    refine J_i2l hx dL_send_10 ?_
    refine J_outS hx hG dL_send_11 fun G2 hW2 => ?_
    refine J_goto hx 23 dL_send_12 rfl ?_
    refine J_iconst hx (0 : Int32) dL_send_23 rfl ?_
    exact J_iret hx hr dL_send_24 (by decide) (by decide) ⟨rfl, hW2⟩
  · cases res with
    | inr p => exact hE.elim
    | inl x =>
      rcases hE with ⟨rfl, rfl⟩ | ⟨rfl, rfl⟩ | ⟨rfl, rfl⟩
      · obtain rfl := Option.some.inj (h : some _ = some r)
        refine ⟨[], ⟨0, 12, 15, 21⟩, [⟨0, 12, 19, 15⟩], rfl, (fun z hz => nomatch hz), rfl, by decide, cl_L_21, (hx.kc hC).thr.2.2.2.2.2 _ (by decide +kernel), ?_⟩
        show J X 6 _ _ 1 6 15 [some (.ref (B.1 + 0)), some (.int l1), some (.int l2), some (.int l3), some (.ref (B.1 + 377)), none] [.ref q]
        refine J_as hx (by decide) (hc_of rfl) rfl dL_send_15 ?_
        refine J_iconst hx (1 : Int32) dL_send_17 rfl ?_
        exact J_iret hx hr dL_send_18 (by decide) (by decide) ⟨rfl, hW⟩
      · cases (show (none : Option (Int32 × Wl)) = some r from h)
      · obtain rfl := Option.some.inj (h : some _ = some r)
        refine ⟨[⟨0, 12, 15, 21⟩], ⟨0, 12, 19, 15⟩, [], rfl, (fun z hz => by
            rcases List.mem_cons.mp hz with rfl | hz
            · exact ⟨by decide, _, cl_L_21, (hx.kc hC).nc.2.1⟩
            cases hz), rfl, by decide, cl_L_15, (hx.kc hC).thr.2.2.2.2.2 _ (by decide +kernel), ?_⟩
        show J X 6 _ _ 1 6 19 [some (.ref (B.1 + 0)), some (.int l1), some (.int l2), some (.int l3), some (.ref (B.1 + 377)), none] [.ref q]
        refine J_as hx (by decide) (hc_of rfl) rfl dL_send_19 ?_
        refine J_iconst hx (2 : Int32) dL_send_21 rfl ?_
        exact J_iret hx hr dL_send_22 (by decide) (by decide) ⟨rfl, hW⟩
theorem dL_advance_0 : decode cL_advance 0 = .ok (.aload_n 2, 1) := by decide +kernel
theorem dL_advance_1 : decode cL_advance 1 = .ok (.iconst 0, 1) := by decide +kernel
theorem dL_advance_2 : decode cL_advance 2 = .ok (.aload_n 0, 1) := by decide +kernel
theorem dL_advance_3 : decode cL_advance 3 = .ok (.iload_n 1, 1) := by decide +kernel
theorem dL_advance_4 : decode cL_advance 4 = .ok (.invokevirtual 65, 3) := by decide +kernel
theorem dL_advance_7 : decode cL_advance 7 = .ok (.i2l, 1) := by decide +kernel
theorem dL_advance_8 : decode cL_advance 8 = .ok (.lastore, 1) := by decide +kernel
theorem dL_advance_9 : decode cL_advance 9 = .ok (.goto 6, 3) := by decide +kernel
theorem dL_advance_12 : decode cL_advance 12 = .ok (.astore_n 3, 1) := by decide +kernel
theorem dL_advance_13 : decode cL_advance 13 = .ok (.iconst 1, 1) := by decide +kernel
theorem dL_advance_14 : decode cL_advance 14 = .ok (.ireturn, 1) := by decide +kernel
theorem dL_advance_15 : decode cL_advance 15 = .ok (.iconst 0, 1) := by decide +kernel
theorem dL_advance_16 : decode cL_advance 16 = .ok (.ireturn, 1) := by decide +kernel
theorem cw_advance : Cond.codeWith yL_advance cL_advance 4 (some .int) [(0, 9, 12, 13)] ∈ WT := (wtm_6 12 (by decide +kernel) (by decide +kernel))
def sL_advance (w : Wl) (l1 : Int32) : Option (Int32 × Wl) := (sX12_advance w l1).bind (lwW none (some 1) none w)
theorem kL_advance {l : Launch} {Γ : Gl} {B : Bs} {w : Wl} {G : Gf} {sz : Nat} {l1 : Int32} {r : Int32 × Wl} (htr : l.stackTraces = false) (hC : GC Γ B) (hW : Wd Γ B w G) (h : sL_advance w l1 = some r) : CtL l Γ yL_advance cL_advance 4 (some .int) [(0, 9, 12, 13)] 8 [.ref (B.1 + 0), .int l1, .ref (B.1 + 377)] G sz (fun v G' _ => v = some (.int r.1) ∧ Wd Γ B r.2 G') 1 6 := by
  refine CtL.of rfl (Nat.le_of_ble_eq_true rfl) fun X hx hr htb hl hΓ => ?_
  subst hl hΓ
  show J X 4 G sz 0 0 0 [some (.ref (B.1 + 0)), some (.int l1), some (.ref (B.1 + 377)), none] []
  unfold sL_advance at h
  obtain ⟨res, hres, h⟩ := bnd h
  refine J_al4 hx rfl rfl dL_advance_0 ?_
  refine J_iconst hx (0 : Int32) dL_advance_1 rfl ?_
  refine J_al4 hx rfl rfl dL_advance_2 ?_
  refine J_il4 hx rfl rfl dL_advance_3 ?_
  refine J_callVX hx htb (kX12_advance htr hC hW hres) ml_L_65 lk_X12_advance (ci := 10) rfl (hW.obj (rfl : kd 0 = 1) (by decide) (by decide)) (rest := [.int 0, .ref (B.1 + 377)]) rfl rfl (by decide) (by decide) (Nat.le_of_ble_eq_true rfl) (by decide) (by decide) dL_advance_4 (fun v G1 sz1 hΨ => ?_) (fun E q sz1 hE => ?_)
  · obtain ⟨p, rfl, hv, hG, hz⟩ := hΨ
    subst hv
    obtain rfl := Option.some.inj h
    show J X 4 _ _ 1 6 7 [some (.ref (B.1 + 0)), some (.int l1), some (.ref (B.1 + 377)), none] [.int p.1, .int 0, .ref (B.1 + 377)]
    refine J_i2l hx dL_advance_7 ?_
    refine J_outS hx hG dL_advance_8 fun G2 hW2 => ?_
    refine J_goto hx 15 dL_advance_9 rfl ?_
    refine J_iconst hx (0 : Int32) dL_advance_15 rfl ?_
    exact J_iret hx hr dL_advance_16 (by decide) (by decide) ⟨rfl, hW2⟩
  · cases res with
    | inr p => exact hE.elim
    | inl x =>
      rcases hE with ⟨rfl, rfl⟩ | ⟨rfl, rfl⟩ | ⟨rfl, rfl⟩
      · cases (show (none : Option (Int32 × Wl)) = some r from h)
      · obtain rfl := Option.some.inj (h : some _ = some r)
        refine ⟨[], ⟨0, 9, 12, 13⟩, [], rfl, (fun z hz => nomatch hz), rfl, by decide, cl_L_13, (hx.kc hC).thr.2.2.2.2.2 _ (by decide +kernel), ?_⟩
        show J X 4 _ _ 1 6 12 [some (.ref (B.1 + 0)), some (.int l1), some (.ref (B.1 + 377)), none] [.ref q]
        refine J_as4 hx rfl (by decide) (hc_of rfl) rfl dL_advance_12 ?_
        refine J_iconst hx (1 : Int32) dL_advance_13 rfl ?_
        exact J_iret hx hr dL_advance_14 (by decide) (by decide) ⟨rfl, hW⟩
      · cases (show (none : Option (Int32 × Wl)) = some r from h)
theorem dL_refusal_0 : decode cL_refusal 0 = .ok (.aload 4, 2) := by decide +kernel
theorem dL_refusal_2 : decode cL_refusal 2 = .ok (.iconst 0, 1) := by decide +kernel
theorem dL_refusal_3 : decode cL_refusal 3 = .ok (.aload_n 0, 1) := by decide +kernel
theorem dL_refusal_4 : decode cL_refusal 4 = .ok (.iload_n 1, 1) := by decide +kernel
theorem dL_refusal_5 : decode cL_refusal 5 = .ok (.iload_n 2, 1) := by decide +kernel
theorem dL_refusal_6 : decode cL_refusal 6 = .ok (.iload_n 3, 1) := by decide +kernel
theorem dL_refusal_7 : decode cL_refusal 7 = .ok (.invokevirtual 68, 3) := by decide +kernel
theorem dL_refusal_10 : decode cL_refusal 10 = .ok (.i2l, 1) := by decide +kernel
theorem dL_refusal_11 : decode cL_refusal 11 = .ok (.lastore, 1) := by decide +kernel
theorem dL_refusal_12 : decode cL_refusal 12 = .ok (.goto 7, 3) := by decide +kernel
theorem dL_refusal_15 : decode cL_refusal 15 = .ok (.astore 5, 2) := by decide +kernel
theorem dL_refusal_17 : decode cL_refusal 17 = .ok (.iconst 1, 1) := by decide +kernel
theorem dL_refusal_18 : decode cL_refusal 18 = .ok (.ireturn, 1) := by decide +kernel
theorem dL_refusal_19 : decode cL_refusal 19 = .ok (.iconst 0, 1) := by decide +kernel
theorem dL_refusal_20 : decode cL_refusal 20 = .ok (.ireturn, 1) := by decide +kernel
theorem cw_refusal : Cond.codeWith yL_refusal cL_refusal 6 (some .int) [(0, 12, 15, 21)] ∈ WT := (wtm_6 19 (by decide +kernel) (by decide +kernel))
def sL_refusal (w : Wl) (l1 : Int32) (l2 : Int32) (l3 : Int32) : Option (Int32 × Wl) := (sX12_refusal w l1 l2 l3).bind (lwR (some 1) none none w)
theorem kL_refusal {l : Launch} {Γ : Gl} {B : Bs} {w : Wl} {G : Gf} {sz : Nat} {l1 : Int32} {l2 : Int32} {l3 : Int32} {r : Int32 × Wl} (htr : l.stackTraces = false) (hC : GC Γ B) (hW : Wd Γ B w G) (h : sL_refusal w l1 l2 l3 = some r) : CtL l Γ yL_refusal cL_refusal 6 (some .int) [(0, 12, 15, 21)] 8 [.ref (B.1 + 0), .int l1, .int l2, .int l3, .ref (B.1 + 377)] G sz (fun v G' _ => v = some (.int r.1) ∧ Wd Γ B r.2 G') 1 6 := by
  refine CtL.of rfl (Nat.le_of_ble_eq_true rfl) fun X hx hr htb hl hΓ => ?_
  subst hl hΓ
  show J X 6 G sz 0 0 0 [some (.ref (B.1 + 0)), some (.int l1), some (.int l2), some (.int l3), some (.ref (B.1 + 377)), none] []
  unfold sL_refusal at h
  obtain ⟨res, hres, h⟩ := bnd h
  refine J_al hx rfl dL_refusal_0 ?_
  refine J_iconst hx (0 : Int32) dL_refusal_2 rfl ?_
  refine J_al4 hx rfl rfl dL_refusal_3 ?_
  refine J_il4 hx rfl rfl dL_refusal_4 ?_
  refine J_il4 hx rfl rfl dL_refusal_5 ?_
  refine J_il4 hx rfl rfl dL_refusal_6 ?_
  refine J_callVX hx htb (kX12_refusal htr hC hW hres) ml_L_68 lk_X12_refusal (ci := 10) rfl (hW.obj (rfl : kd 0 = 1) (by decide) (by decide)) (rest := [.int 0, .ref (B.1 + 377)]) rfl rfl (by decide) (by decide) (Nat.le_of_ble_eq_true rfl) (by decide) (by decide) dL_refusal_7 (fun v G1 sz1 hΨ => ?_) (fun E q sz1 hE => ?_)
  · obtain ⟨p, rfl, hv, hG, hz⟩ := hΨ
    subst hv
    subst hG
    obtain rfl := Option.some.inj h
    show J X 6 _ _ 1 6 10 [some (.ref (B.1 + 0)), some (.int l1), some (.int l2), some (.int l3), some (.ref (B.1 + 377)), none] [.int p, .int 0, .ref (B.1 + 377)]
    refine J_i2l hx dL_refusal_10 ?_
    refine J_outS hx hW dL_refusal_11 fun G2 hW2 => ?_
    refine J_goto hx 19 dL_refusal_12 rfl ?_
    refine J_iconst hx (0 : Int32) dL_refusal_19 rfl ?_
    exact J_iret hx hr dL_refusal_20 (by decide) (by decide) ⟨rfl, hW2⟩
  · cases res with
    | inr p => exact hE.elim
    | inl x =>
      rcases hE with ⟨rfl, rfl⟩ | ⟨rfl, rfl⟩ | ⟨rfl, rfl⟩
      · obtain rfl := Option.some.inj (h : some _ = some r)
        refine ⟨[], ⟨0, 12, 15, 21⟩, [], rfl, (fun z hz => nomatch hz), rfl, by decide, cl_L_21, (hx.kc hC).thr.2.2.2.2.2 _ (by decide +kernel), ?_⟩
        show J X 6 _ _ 1 6 15 [some (.ref (B.1 + 0)), some (.int l1), some (.int l2), some (.int l3), some (.ref (B.1 + 377)), none] [.ref q]
        refine J_as hx (by decide) (hc_of rfl) rfl dL_refusal_15 ?_
        refine J_iconst hx (1 : Int32) dL_refusal_17 rfl ?_
        exact J_iret hx hr dL_refusal_18 (by decide) (by decide) ⟨rfl, hW⟩
      · cases (show (none : Option (Int32 × Wl)) = some r from h)
      · cases (show (none : Option (Int32 × Wl)) = some r from h)
theorem dL_crate_0 : decode cL_crate 0 = .ok (.aload_n 3, 1) := by decide +kernel
theorem dL_crate_1 : decode cL_crate 1 = .ok (.iconst 0, 1) := by decide +kernel
theorem dL_crate_2 : decode cL_crate 2 = .ok (.aload_n 0, 1) := by decide +kernel
theorem dL_crate_3 : decode cL_crate 3 = .ok (.iload_n 1, 1) := by decide +kernel
theorem dL_crate_4 : decode cL_crate 4 = .ok (.iload_n 2, 1) := by decide +kernel
theorem dL_crate_5 : decode cL_crate 5 = .ok (.invokevirtual 71, 3) := by decide +kernel
theorem dL_crate_8 : decode cL_crate 8 = .ok (.i2l, 1) := by decide +kernel
theorem dL_crate_9 : decode cL_crate 9 = .ok (.lastore, 1) := by decide +kernel
theorem dL_crate_10 : decode cL_crate 10 = .ok (.goto 11, 3) := by decide +kernel
theorem dL_crate_13 : decode cL_crate 13 = .ok (.astore 4, 2) := by decide +kernel
theorem dL_crate_15 : decode cL_crate 15 = .ok (.iconst 1, 1) := by decide +kernel
theorem dL_crate_16 : decode cL_crate 16 = .ok (.ireturn, 1) := by decide +kernel
theorem dL_crate_17 : decode cL_crate 17 = .ok (.astore 4, 2) := by decide +kernel
theorem dL_crate_19 : decode cL_crate 19 = .ok (.iconst 2, 1) := by decide +kernel
theorem dL_crate_20 : decode cL_crate 20 = .ok (.ireturn, 1) := by decide +kernel
theorem dL_crate_21 : decode cL_crate 21 = .ok (.iconst 0, 1) := by decide +kernel
theorem dL_crate_22 : decode cL_crate 22 = .ok (.ireturn, 1) := by decide +kernel
theorem cw_crate : Cond.codeWith yL_crate cL_crate 5 (some .int) [(0, 10, 13, 21), (0, 10, 17, 13)] ∈ WT := (wtm_6 28 (by decide +kernel) (by decide +kernel))
def sL_crate (w : Wl) (l1 : Int32) (l2 : Int32) : Option (Int32 × Wl) := (sX12_crate w l1 l2).bind (lwR (some 1) (some 2) none w)
theorem kL_crate {l : Launch} {Γ : Gl} {B : Bs} {w : Wl} {G : Gf} {sz : Nat} {l1 : Int32} {l2 : Int32} {r : Int32 × Wl} (htr : l.stackTraces = false) (hC : GC Γ B) (hW : Wd Γ B w G) (h : sL_crate w l1 l2 = some r) : CtL l Γ yL_crate cL_crate 5 (some .int) [(0, 10, 13, 21), (0, 10, 17, 13)] 8 [.ref (B.1 + 0), .int l1, .int l2, .ref (B.1 + 377)] G sz (fun v G' _ => v = some (.int r.1) ∧ Wd Γ B r.2 G') 1 6 := by
  refine CtL.of rfl (Nat.le_of_ble_eq_true rfl) fun X hx hr htb hl hΓ => ?_
  subst hl hΓ
  show J X 5 G sz 0 0 0 [some (.ref (B.1 + 0)), some (.int l1), some (.int l2), some (.ref (B.1 + 377)), none] []
  unfold sL_crate at h
  obtain ⟨res, hres, h⟩ := bnd h
  refine J_al4 hx rfl rfl dL_crate_0 ?_
  refine J_iconst hx (0 : Int32) dL_crate_1 rfl ?_
  refine J_al4 hx rfl rfl dL_crate_2 ?_
  refine J_il4 hx rfl rfl dL_crate_3 ?_
  refine J_il4 hx rfl rfl dL_crate_4 ?_
  refine J_callVX hx htb (kX12_crate htr hC hW hres) ml_L_71 lk_X12_crate (ci := 10) rfl (hW.obj (rfl : kd 0 = 1) (by decide) (by decide)) (rest := [.int 0, .ref (B.1 + 377)]) rfl rfl (by decide) (by decide) (Nat.le_of_ble_eq_true rfl) (by decide) (by decide) dL_crate_5 (fun v G1 sz1 hΨ => ?_) (fun E q sz1 hE => ?_)
  · obtain ⟨p, rfl, hv, hG, hz⟩ := hΨ
    subst hv
    subst hG
    obtain rfl := Option.some.inj h
    show J X 5 _ _ 1 6 8 [some (.ref (B.1 + 0)), some (.int l1), some (.int l2), some (.ref (B.1 + 377)), none] [.int p, .int 0, .ref (B.1 + 377)]
    refine J_i2l hx dL_crate_8 ?_
    refine J_outS hx hW dL_crate_9 fun G2 hW2 => ?_
    refine J_goto hx 21 dL_crate_10 rfl ?_
    refine J_iconst hx (0 : Int32) dL_crate_21 rfl ?_
    exact J_iret hx hr dL_crate_22 (by decide) (by decide) ⟨rfl, hW2⟩
  · cases res with
    | inr p => exact hE.elim
    | inl x =>
      rcases hE with ⟨rfl, rfl⟩ | ⟨rfl, rfl⟩ | ⟨rfl, rfl⟩
      · obtain rfl := Option.some.inj (h : some _ = some r)
        refine ⟨[], ⟨0, 10, 13, 21⟩, [⟨0, 10, 17, 13⟩], rfl, (fun z hz => nomatch hz), rfl, by decide, cl_L_21, (hx.kc hC).thr.2.2.2.2.2 _ (by decide +kernel), ?_⟩
        show J X 5 _ _ 1 6 13 [some (.ref (B.1 + 0)), some (.int l1), some (.int l2), some (.ref (B.1 + 377)), none] [.ref q]
        refine J_as hx (by decide) (hc_of rfl) rfl dL_crate_13 ?_
        refine J_iconst hx (1 : Int32) dL_crate_15 rfl ?_
        exact J_iret hx hr dL_crate_16 (by decide) (by decide) ⟨rfl, hW⟩
      · obtain rfl := Option.some.inj (h : some _ = some r)
        refine ⟨[⟨0, 10, 13, 21⟩], ⟨0, 10, 17, 13⟩, [], rfl, (fun z hz => by
            rcases List.mem_cons.mp hz with rfl | hz
            · exact ⟨by decide, _, cl_L_21, (hx.kc hC).nc.1⟩
            cases hz), rfl, by decide, cl_L_13, (hx.kc hC).thr.2.2.2.2.2 _ (by decide +kernel), ?_⟩
        show J X 5 _ _ 1 6 17 [some (.ref (B.1 + 0)), some (.int l1), some (.int l2), some (.ref (B.1 + 377)), none] [.ref q]
        refine J_as hx (by decide) (hc_of rfl) rfl dL_crate_17 ?_
        refine J_iconst hx (2 : Int32) dL_crate_19 rfl ?_
        exact J_iret hx hr dL_crate_20 (by decide) (by decide) ⟨rfl, hW⟩
      · cases (show (none : Option (Int32 × Wl)) = some r from h)
theorem dL_work_0 : decode cL_work 0 = .ok (.aload_n 3, 1) := by decide +kernel
theorem dL_work_1 : decode cL_work 1 = .ok (.iconst 0, 1) := by decide +kernel
theorem dL_work_2 : decode cL_work 2 = .ok (.aload_n 0, 1) := by decide +kernel
theorem dL_work_3 : decode cL_work 3 = .ok (.iload_n 1, 1) := by decide +kernel
theorem dL_work_4 : decode cL_work 4 = .ok (.iload_n 2, 1) := by decide +kernel
theorem dL_work_5 : decode cL_work 5 = .ok (.invokevirtual 74, 3) := by decide +kernel
theorem dL_work_8 : decode cL_work 8 = .ok (.i2l, 1) := by decide +kernel
theorem dL_work_9 : decode cL_work 9 = .ok (.lastore, 1) := by decide +kernel
theorem dL_work_10 : decode cL_work 10 = .ok (.goto 11, 3) := by decide +kernel
theorem dL_work_13 : decode cL_work 13 = .ok (.astore 4, 2) := by decide +kernel
theorem dL_work_15 : decode cL_work 15 = .ok (.iconst 1, 1) := by decide +kernel
theorem dL_work_16 : decode cL_work 16 = .ok (.ireturn, 1) := by decide +kernel
theorem dL_work_17 : decode cL_work 17 = .ok (.astore 4, 2) := by decide +kernel
theorem dL_work_19 : decode cL_work 19 = .ok (.iconst 2, 1) := by decide +kernel
theorem dL_work_20 : decode cL_work 20 = .ok (.ireturn, 1) := by decide +kernel
theorem dL_work_21 : decode cL_work 21 = .ok (.iconst 0, 1) := by decide +kernel
theorem dL_work_22 : decode cL_work 22 = .ok (.ireturn, 1) := by decide +kernel
theorem cw_work : Cond.codeWith yL_work cL_work 5 (some .int) [(0, 10, 13, 21), (0, 10, 17, 13)] ∈ WT := (wtm_6 40 (by decide +kernel) (by decide +kernel))
def sL_work (w : Wl) (l1 : Int32) (l2 : Int32) : Option (Int32 × Wl) := (sX12_work w l1 l2).bind (lwR (some 1) (some 2) none w)
theorem kL_work {l : Launch} {Γ : Gl} {B : Bs} {w : Wl} {G : Gf} {sz : Nat} {l1 : Int32} {l2 : Int32} {r : Int32 × Wl} (htr : l.stackTraces = false) (hC : GC Γ B) (hW : Wd Γ B w G) (h : sL_work w l1 l2 = some r) : CtL l Γ yL_work cL_work 5 (some .int) [(0, 10, 13, 21), (0, 10, 17, 13)] 8 [.ref (B.1 + 0), .int l1, .int l2, .ref (B.1 + 377)] G sz (fun v G' _ => v = some (.int r.1) ∧ Wd Γ B r.2 G') 1 6 := by
  refine CtL.of rfl (Nat.le_of_ble_eq_true rfl) fun X hx hr htb hl hΓ => ?_
  subst hl hΓ
  show J X 5 G sz 0 0 0 [some (.ref (B.1 + 0)), some (.int l1), some (.int l2), some (.ref (B.1 + 377)), none] []
  unfold sL_work at h
  obtain ⟨res, hres, h⟩ := bnd h
  refine J_al4 hx rfl rfl dL_work_0 ?_
  refine J_iconst hx (0 : Int32) dL_work_1 rfl ?_
  refine J_al4 hx rfl rfl dL_work_2 ?_
  refine J_il4 hx rfl rfl dL_work_3 ?_
  refine J_il4 hx rfl rfl dL_work_4 ?_
  refine J_callVX hx htb (kX12_work htr hC hW hres) ml_L_74 lk_X12_work (ci := 10) rfl (hW.obj (rfl : kd 0 = 1) (by decide) (by decide)) (rest := [.int 0, .ref (B.1 + 377)]) rfl rfl (by decide) (by decide) (Nat.le_of_ble_eq_true rfl) (by decide) (by decide) dL_work_5 (fun v G1 sz1 hΨ => ?_) (fun E q sz1 hE => ?_)
  · obtain ⟨p, rfl, hv, hG, hz⟩ := hΨ
    subst hv
    subst hG
    obtain rfl := Option.some.inj h
    show J X 5 _ _ 1 6 8 [some (.ref (B.1 + 0)), some (.int l1), some (.int l2), some (.ref (B.1 + 377)), none] [.int p, .int 0, .ref (B.1 + 377)]
    refine J_i2l hx dL_work_8 ?_
    refine J_outS hx hW dL_work_9 fun G2 hW2 => ?_
    refine J_goto hx 21 dL_work_10 rfl ?_
    refine J_iconst hx (0 : Int32) dL_work_21 rfl ?_
    exact J_iret hx hr dL_work_22 (by decide) (by decide) ⟨rfl, hW2⟩
  · cases res with
    | inr p => exact hE.elim
    | inl x =>
      rcases hE with ⟨rfl, rfl⟩ | ⟨rfl, rfl⟩ | ⟨rfl, rfl⟩
      · obtain rfl := Option.some.inj (h : some _ = some r)
        refine ⟨[], ⟨0, 10, 13, 21⟩, [⟨0, 10, 17, 13⟩], rfl, (fun z hz => nomatch hz), rfl, by decide, cl_L_21, (hx.kc hC).thr.2.2.2.2.2 _ (by decide +kernel), ?_⟩
        show J X 5 _ _ 1 6 13 [some (.ref (B.1 + 0)), some (.int l1), some (.int l2), some (.ref (B.1 + 377)), none] [.ref q]
        refine J_as hx (by decide) (hc_of rfl) rfl dL_work_13 ?_
        refine J_iconst hx (1 : Int32) dL_work_15 rfl ?_
        exact J_iret hx hr dL_work_16 (by decide) (by decide) ⟨rfl, hW⟩
      · obtain rfl := Option.some.inj (h : some _ = some r)
        refine ⟨[⟨0, 10, 13, 21⟩], ⟨0, 10, 17, 13⟩, [], rfl, (fun z hz => by
            rcases List.mem_cons.mp hz with rfl | hz
            · exact ⟨by decide, _, cl_L_21, (hx.kc hC).nc.1⟩
            cases hz), rfl, by decide, cl_L_13, (hx.kc hC).thr.2.2.2.2.2 _ (by decide +kernel), ?_⟩
        show J X 5 _ _ 1 6 17 [some (.ref (B.1 + 0)), some (.int l1), some (.int l2), some (.ref (B.1 + 377)), none] [.ref q]
        refine J_as hx (by decide) (hc_of rfl) rfl dL_work_17 ?_
        refine J_iconst hx (2 : Int32) dL_work_19 rfl ?_
        exact J_iret hx hr dL_work_20 (by decide) (by decide) ⟨rfl, hW⟩
      · cases (show (none : Option (Int32 × Wl)) = some r from h)
theorem dL_noted_0 : decode cL_noted 0 = .ok (.aload_n 3, 1) := by decide +kernel
theorem dL_noted_1 : decode cL_noted 1 = .ok (.iconst 0, 1) := by decide +kernel
theorem dL_noted_2 : decode cL_noted 2 = .ok (.aload_n 0, 1) := by decide +kernel
theorem dL_noted_3 : decode cL_noted 3 = .ok (.iload_n 1, 1) := by decide +kernel
theorem dL_noted_4 : decode cL_noted 4 = .ok (.iload_n 2, 1) := by decide +kernel
theorem dL_noted_5 : decode cL_noted 5 = .ok (.invokevirtual 77, 3) := by decide +kernel
theorem dL_noted_8 : decode cL_noted 8 = .ok (.i2l, 1) := by decide +kernel
theorem dL_noted_9 : decode cL_noted 9 = .ok (.lastore, 1) := by decide +kernel
theorem dL_noted_10 : decode cL_noted 10 = .ok (.goto 11, 3) := by decide +kernel
theorem dL_noted_13 : decode cL_noted 13 = .ok (.astore 4, 2) := by decide +kernel
theorem dL_noted_15 : decode cL_noted 15 = .ok (.iconst 1, 1) := by decide +kernel
theorem dL_noted_16 : decode cL_noted 16 = .ok (.ireturn, 1) := by decide +kernel
theorem dL_noted_17 : decode cL_noted 17 = .ok (.astore 4, 2) := by decide +kernel
theorem dL_noted_19 : decode cL_noted 19 = .ok (.iconst 2, 1) := by decide +kernel
theorem dL_noted_20 : decode cL_noted 20 = .ok (.ireturn, 1) := by decide +kernel
theorem dL_noted_21 : decode cL_noted 21 = .ok (.iconst 0, 1) := by decide +kernel
theorem dL_noted_22 : decode cL_noted 22 = .ok (.ireturn, 1) := by decide +kernel
theorem cw_noted : Cond.codeWith yL_noted cL_noted 5 (some .int) [(0, 10, 13, 21), (0, 10, 17, 13)] ∈ WT := (wtm_6 48 (by decide +kernel) (by decide +kernel))
def sL_noted (w : Wl) (l1 : Int32) (l2 : Int32) : Option (Int32 × Wl) := (sX12_noted w l1 l2).bind (lwR (some 1) (some 2) none w)
theorem kL_noted {l : Launch} {Γ : Gl} {B : Bs} {w : Wl} {G : Gf} {sz : Nat} {l1 : Int32} {l2 : Int32} {r : Int32 × Wl} (htr : l.stackTraces = false) (hC : GC Γ B) (hW : Wd Γ B w G) (h : sL_noted w l1 l2 = some r) : CtL l Γ yL_noted cL_noted 5 (some .int) [(0, 10, 13, 21), (0, 10, 17, 13)] 8 [.ref (B.1 + 0), .int l1, .int l2, .ref (B.1 + 377)] G sz (fun v G' _ => v = some (.int r.1) ∧ Wd Γ B r.2 G') 1 6 := by
  refine CtL.of rfl (Nat.le_of_ble_eq_true rfl) fun X hx hr htb hl hΓ => ?_
  subst hl hΓ
  show J X 5 G sz 0 0 0 [some (.ref (B.1 + 0)), some (.int l1), some (.int l2), some (.ref (B.1 + 377)), none] []
  unfold sL_noted at h
  obtain ⟨res, hres, h⟩ := bnd h
  refine J_al4 hx rfl rfl dL_noted_0 ?_
  refine J_iconst hx (0 : Int32) dL_noted_1 rfl ?_
  refine J_al4 hx rfl rfl dL_noted_2 ?_
  refine J_il4 hx rfl rfl dL_noted_3 ?_
  refine J_il4 hx rfl rfl dL_noted_4 ?_
  refine J_callVX hx htb (kX12_noted htr hC hW hres) ml_L_77 lk_X12_noted (ci := 10) rfl (hW.obj (rfl : kd 0 = 1) (by decide) (by decide)) (rest := [.int 0, .ref (B.1 + 377)]) rfl rfl (by decide) (by decide) (Nat.le_of_ble_eq_true rfl) (by decide) (by decide) dL_noted_5 (fun v G1 sz1 hΨ => ?_) (fun E q sz1 hE => ?_)
  · obtain ⟨p, rfl, hv, hG, hz⟩ := hΨ
    subst hv
    subst hG
    obtain rfl := Option.some.inj h
    show J X 5 _ _ 1 6 8 [some (.ref (B.1 + 0)), some (.int l1), some (.int l2), some (.ref (B.1 + 377)), none] [.int p, .int 0, .ref (B.1 + 377)]
    refine J_i2l hx dL_noted_8 ?_
    refine J_outS hx hW dL_noted_9 fun G2 hW2 => ?_
    refine J_goto hx 21 dL_noted_10 rfl ?_
    refine J_iconst hx (0 : Int32) dL_noted_21 rfl ?_
    exact J_iret hx hr dL_noted_22 (by decide) (by decide) ⟨rfl, hW2⟩
  · cases res with
    | inr p => exact hE.elim
    | inl x =>
      rcases hE with ⟨rfl, rfl⟩ | ⟨rfl, rfl⟩ | ⟨rfl, rfl⟩
      · obtain rfl := Option.some.inj (h : some _ = some r)
        refine ⟨[], ⟨0, 10, 13, 21⟩, [⟨0, 10, 17, 13⟩], rfl, (fun z hz => nomatch hz), rfl, by decide, cl_L_21, (hx.kc hC).thr.2.2.2.2.2 _ (by decide +kernel), ?_⟩
        show J X 5 _ _ 1 6 13 [some (.ref (B.1 + 0)), some (.int l1), some (.int l2), some (.ref (B.1 + 377)), none] [.ref q]
        refine J_as hx (by decide) (hc_of rfl) rfl dL_noted_13 ?_
        refine J_iconst hx (1 : Int32) dL_noted_15 rfl ?_
        exact J_iret hx hr dL_noted_16 (by decide) (by decide) ⟨rfl, hW⟩
      · obtain rfl := Option.some.inj (h : some _ = some r)
        refine ⟨[⟨0, 10, 13, 21⟩], ⟨0, 10, 17, 13⟩, [], rfl, (fun z hz => by
            rcases List.mem_cons.mp hz with rfl | hz
            · exact ⟨by decide, _, cl_L_21, (hx.kc hC).nc.1⟩
            cases hz), rfl, by decide, cl_L_13, (hx.kc hC).thr.2.2.2.2.2 _ (by decide +kernel), ?_⟩
        show J X 5 _ _ 1 6 17 [some (.ref (B.1 + 0)), some (.int l1), some (.int l2), some (.ref (B.1 + 377)), none] [.ref q]
        refine J_as hx (by decide) (hc_of rfl) rfl dL_noted_17 ?_
        refine J_iconst hx (2 : Int32) dL_noted_19 rfl ?_
        exact J_iret hx hr dL_noted_20 (by decide) (by decide) ⟨rfl, hW⟩
      · cases (show (none : Option (Int32 × Wl)) = some r from h)
theorem dL_venue_0 : decode cL_venue 0 = .ok (.aload_n 3, 1) := by decide +kernel
theorem dL_venue_1 : decode cL_venue 1 = .ok (.iconst 0, 1) := by decide +kernel
theorem dL_venue_2 : decode cL_venue 2 = .ok (.aload_n 0, 1) := by decide +kernel
theorem dL_venue_3 : decode cL_venue 3 = .ok (.iload_n 1, 1) := by decide +kernel
theorem dL_venue_4 : decode cL_venue 4 = .ok (.iload_n 2, 1) := by decide +kernel
theorem dL_venue_5 : decode cL_venue 5 = .ok (.invokevirtual 80, 3) := by decide +kernel
theorem dL_venue_8 : decode cL_venue 8 = .ok (.i2l, 1) := by decide +kernel
theorem dL_venue_9 : decode cL_venue 9 = .ok (.lastore, 1) := by decide +kernel
theorem dL_venue_10 : decode cL_venue 10 = .ok (.goto 11, 3) := by decide +kernel
theorem dL_venue_13 : decode cL_venue 13 = .ok (.astore 4, 2) := by decide +kernel
theorem dL_venue_15 : decode cL_venue 15 = .ok (.iconst 1, 1) := by decide +kernel
theorem dL_venue_16 : decode cL_venue 16 = .ok (.ireturn, 1) := by decide +kernel
theorem dL_venue_17 : decode cL_venue 17 = .ok (.astore 4, 2) := by decide +kernel
theorem dL_venue_19 : decode cL_venue 19 = .ok (.iconst 2, 1) := by decide +kernel
theorem dL_venue_20 : decode cL_venue 20 = .ok (.ireturn, 1) := by decide +kernel
theorem dL_venue_21 : decode cL_venue 21 = .ok (.iconst 0, 1) := by decide +kernel
theorem dL_venue_22 : decode cL_venue 22 = .ok (.ireturn, 1) := by decide +kernel
theorem cw_venue : Cond.codeWith yL_venue cL_venue 5 (some .int) [(0, 10, 13, 21), (0, 10, 17, 13)] ∈ WT := (wtm_6 59 (by decide +kernel) (by decide +kernel))
def sL_venue (w : Wl) (l1 : Int32) (l2 : Int32) : Option (Int32 × Wl) := (sX12_venue w l1 l2).bind (lwR (some 1) (some 2) none w)
theorem kL_venue {l : Launch} {Γ : Gl} {B : Bs} {w : Wl} {G : Gf} {sz : Nat} {l1 : Int32} {l2 : Int32} {r : Int32 × Wl} (htr : l.stackTraces = false) (hC : GC Γ B) (hW : Wd Γ B w G) (h : sL_venue w l1 l2 = some r) : CtL l Γ yL_venue cL_venue 5 (some .int) [(0, 10, 13, 21), (0, 10, 17, 13)] 8 [.ref (B.1 + 0), .int l1, .int l2, .ref (B.1 + 377)] G sz (fun v G' _ => v = some (.int r.1) ∧ Wd Γ B r.2 G') 1 6 := by
  refine CtL.of rfl (Nat.le_of_ble_eq_true rfl) fun X hx hr htb hl hΓ => ?_
  subst hl hΓ
  show J X 5 G sz 0 0 0 [some (.ref (B.1 + 0)), some (.int l1), some (.int l2), some (.ref (B.1 + 377)), none] []
  unfold sL_venue at h
  obtain ⟨res, hres, h⟩ := bnd h
  refine J_al4 hx rfl rfl dL_venue_0 ?_
  refine J_iconst hx (0 : Int32) dL_venue_1 rfl ?_
  refine J_al4 hx rfl rfl dL_venue_2 ?_
  refine J_il4 hx rfl rfl dL_venue_3 ?_
  refine J_il4 hx rfl rfl dL_venue_4 ?_
  refine J_callVX hx htb (kX12_venue htr hC hW hres) ml_L_80 lk_X12_venue (ci := 10) rfl (hW.obj (rfl : kd 0 = 1) (by decide) (by decide)) (rest := [.int 0, .ref (B.1 + 377)]) rfl rfl (by decide) (by decide) (Nat.le_of_ble_eq_true rfl) (by decide) (by decide) dL_venue_5 (fun v G1 sz1 hΨ => ?_) (fun E q sz1 hE => ?_)
  · obtain ⟨p, rfl, hv, hG, hz⟩ := hΨ
    subst hv
    subst hG
    obtain rfl := Option.some.inj h
    show J X 5 _ _ 1 6 8 [some (.ref (B.1 + 0)), some (.int l1), some (.int l2), some (.ref (B.1 + 377)), none] [.int p, .int 0, .ref (B.1 + 377)]
    refine J_i2l hx dL_venue_8 ?_
    refine J_outS hx hW dL_venue_9 fun G2 hW2 => ?_
    refine J_goto hx 21 dL_venue_10 rfl ?_
    refine J_iconst hx (0 : Int32) dL_venue_21 rfl ?_
    exact J_iret hx hr dL_venue_22 (by decide) (by decide) ⟨rfl, hW2⟩
  · cases res with
    | inr p => exact hE.elim
    | inl x =>
      rcases hE with ⟨rfl, rfl⟩ | ⟨rfl, rfl⟩ | ⟨rfl, rfl⟩
      · obtain rfl := Option.some.inj (h : some _ = some r)
        refine ⟨[], ⟨0, 10, 13, 21⟩, [⟨0, 10, 17, 13⟩], rfl, (fun z hz => nomatch hz), rfl, by decide, cl_L_21, (hx.kc hC).thr.2.2.2.2.2 _ (by decide +kernel), ?_⟩
        show J X 5 _ _ 1 6 13 [some (.ref (B.1 + 0)), some (.int l1), some (.int l2), some (.ref (B.1 + 377)), none] [.ref q]
        refine J_as hx (by decide) (hc_of rfl) rfl dL_venue_13 ?_
        refine J_iconst hx (1 : Int32) dL_venue_15 rfl ?_
        exact J_iret hx hr dL_venue_16 (by decide) (by decide) ⟨rfl, hW⟩
      · obtain rfl := Option.some.inj (h : some _ = some r)
        refine ⟨[⟨0, 10, 13, 21⟩], ⟨0, 10, 17, 13⟩, [], rfl, (fun z hz => by
            rcases List.mem_cons.mp hz with rfl | hz
            · exact ⟨by decide, _, cl_L_21, (hx.kc hC).nc.1⟩
            cases hz), rfl, by decide, cl_L_13, (hx.kc hC).thr.2.2.2.2.2 _ (by decide +kernel), ?_⟩
        show J X 5 _ _ 1 6 17 [some (.ref (B.1 + 0)), some (.int l1), some (.int l2), some (.ref (B.1 + 377)), none] [.ref q]
        refine J_as hx (by decide) (hc_of rfl) rfl dL_venue_17 ?_
        refine J_iconst hx (2 : Int32) dL_venue_19 rfl ?_
        exact J_iret hx hr dL_venue_20 (by decide) (by decide) ⟨rfl, hW⟩
      · cases (show (none : Option (Int32 × Wl)) = some r from h)
theorem dL_courier_0 : decode cL_courier 0 = .ok (.aload_n 2, 1) := by decide +kernel
theorem dL_courier_1 : decode cL_courier 1 = .ok (.iconst 0, 1) := by decide +kernel
theorem dL_courier_2 : decode cL_courier 2 = .ok (.aload_n 0, 1) := by decide +kernel
theorem dL_courier_3 : decode cL_courier 3 = .ok (.iload_n 1, 1) := by decide +kernel
theorem dL_courier_4 : decode cL_courier 4 = .ok (.invokevirtual 83, 3) := by decide +kernel
theorem dL_courier_7 : decode cL_courier 7 = .ok (.i2l, 1) := by decide +kernel
theorem dL_courier_8 : decode cL_courier 8 = .ok (.lastore, 1) := by decide +kernel
theorem dL_courier_9 : decode cL_courier 9 = .ok (.goto 6, 3) := by decide +kernel
theorem dL_courier_12 : decode cL_courier 12 = .ok (.astore_n 3, 1) := by decide +kernel
theorem dL_courier_13 : decode cL_courier 13 = .ok (.iconst 1, 1) := by decide +kernel
theorem dL_courier_14 : decode cL_courier 14 = .ok (.ireturn, 1) := by decide +kernel
theorem dL_courier_15 : decode cL_courier 15 = .ok (.iconst 0, 1) := by decide +kernel
theorem dL_courier_16 : decode cL_courier 16 = .ok (.ireturn, 1) := by decide +kernel
theorem cw_courier : Cond.codeWith yL_courier cL_courier 4 (some .int) [(0, 9, 12, 21)] ∈ WT := (wtm_6 67 (by decide +kernel) (by decide +kernel))
def sL_courier (w : Wl) (l1 : Int32) : Option (Int32 × Wl) := (sX12_courier w l1).bind (lwR (some 1) none none w)
theorem kL_courier {l : Launch} {Γ : Gl} {B : Bs} {w : Wl} {G : Gf} {sz : Nat} {l1 : Int32} {r : Int32 × Wl} (htr : l.stackTraces = false) (hC : GC Γ B) (hW : Wd Γ B w G) (h : sL_courier w l1 = some r) : CtL l Γ yL_courier cL_courier 4 (some .int) [(0, 9, 12, 21)] 8 [.ref (B.1 + 0), .int l1, .ref (B.1 + 377)] G sz (fun v G' _ => v = some (.int r.1) ∧ Wd Γ B r.2 G') 1 6 := by
  refine CtL.of rfl (Nat.le_of_ble_eq_true rfl) fun X hx hr htb hl hΓ => ?_
  subst hl hΓ
  show J X 4 G sz 0 0 0 [some (.ref (B.1 + 0)), some (.int l1), some (.ref (B.1 + 377)), none] []
  unfold sL_courier at h
  obtain ⟨res, hres, h⟩ := bnd h
  refine J_al4 hx rfl rfl dL_courier_0 ?_
  refine J_iconst hx (0 : Int32) dL_courier_1 rfl ?_
  refine J_al4 hx rfl rfl dL_courier_2 ?_
  refine J_il4 hx rfl rfl dL_courier_3 ?_
  refine J_callVX hx htb (kX12_courier htr hC hW hres) ml_L_83 lk_X12_courier (ci := 10) rfl (hW.obj (rfl : kd 0 = 1) (by decide) (by decide)) (rest := [.int 0, .ref (B.1 + 377)]) rfl rfl (by decide) (by decide) (Nat.le_of_ble_eq_true rfl) (by decide) (by decide) dL_courier_4 (fun v G1 sz1 hΨ => ?_) (fun E q sz1 hE => ?_)
  · obtain ⟨p, rfl, hv, hG, hz⟩ := hΨ
    subst hv
    subst hG
    obtain rfl := Option.some.inj h
    show J X 4 _ _ 1 6 7 [some (.ref (B.1 + 0)), some (.int l1), some (.ref (B.1 + 377)), none] [.int p, .int 0, .ref (B.1 + 377)]
    refine J_i2l hx dL_courier_7 ?_
    refine J_outS hx hW dL_courier_8 fun G2 hW2 => ?_
    refine J_goto hx 15 dL_courier_9 rfl ?_
    refine J_iconst hx (0 : Int32) dL_courier_15 rfl ?_
    exact J_iret hx hr dL_courier_16 (by decide) (by decide) ⟨rfl, hW2⟩
  · cases res with
    | inr p => exact hE.elim
    | inl x =>
      rcases hE with ⟨rfl, rfl⟩ | ⟨rfl, rfl⟩ | ⟨rfl, rfl⟩
      · obtain rfl := Option.some.inj (h : some _ = some r)
        refine ⟨[], ⟨0, 9, 12, 21⟩, [], rfl, (fun z hz => nomatch hz), rfl, by decide, cl_L_21, (hx.kc hC).thr.2.2.2.2.2 _ (by decide +kernel), ?_⟩
        show J X 4 _ _ 1 6 12 [some (.ref (B.1 + 0)), some (.int l1), some (.ref (B.1 + 377)), none] [.ref q]
        refine J_as4 hx rfl (by decide) (hc_of rfl) rfl dL_courier_12 ?_
        refine J_iconst hx (1 : Int32) dL_courier_13 rfl ?_
        exact J_iret hx hr dL_courier_14 (by decide) (by decide) ⟨rfl, hW⟩
      · cases (show (none : Option (Int32 × Wl)) = some r from h)
      · cases (show (none : Option (Int32 × Wl)) = some r from h)
theorem dL_whole_0 : decode cL_whole 0 = .ok (.aload_n 2, 1) := by decide +kernel
theorem dL_whole_1 : decode cL_whole 1 = .ok (.iconst 0, 1) := by decide +kernel
theorem dL_whole_2 : decode cL_whole 2 = .ok (.aload_n 0, 1) := by decide +kernel
theorem dL_whole_3 : decode cL_whole 3 = .ok (.iload_n 1, 1) := by decide +kernel
theorem dL_whole_4 : decode cL_whole 4 = .ok (.invokevirtual 86, 3) := by decide +kernel
theorem dL_whole_7 : decode cL_whole 7 = .ok (.i2l, 1) := by decide +kernel
theorem dL_whole_8 : decode cL_whole 8 = .ok (.lastore, 1) := by decide +kernel
theorem dL_whole_9 : decode cL_whole 9 = .ok (.goto 6, 3) := by decide +kernel
theorem dL_whole_12 : decode cL_whole 12 = .ok (.astore_n 3, 1) := by decide +kernel
theorem dL_whole_13 : decode cL_whole 13 = .ok (.iconst 1, 1) := by decide +kernel
theorem dL_whole_14 : decode cL_whole 14 = .ok (.ireturn, 1) := by decide +kernel
theorem dL_whole_15 : decode cL_whole 15 = .ok (.iconst 0, 1) := by decide +kernel
theorem dL_whole_16 : decode cL_whole 16 = .ok (.ireturn, 1) := by decide +kernel
theorem cw_whole : Cond.codeWith yL_whole cL_whole 4 (some .int) [(0, 9, 12, 13)] ∈ WT := (wtm_6 76 (by decide +kernel) (by decide +kernel))
def sL_whole (w : Wl) (l1 : Int32) : Option (Int32 × Wl) := (sX12_whole w l1).bind (lwR none (some 1) none w)
theorem kL_whole {l : Launch} {Γ : Gl} {B : Bs} {w : Wl} {G : Gf} {sz : Nat} {l1 : Int32} {r : Int32 × Wl} (htr : l.stackTraces = false) (hC : GC Γ B) (hW : Wd Γ B w G) (h : sL_whole w l1 = some r) : CtL l Γ yL_whole cL_whole 4 (some .int) [(0, 9, 12, 13)] 8 [.ref (B.1 + 0), .int l1, .ref (B.1 + 377)] G sz (fun v G' _ => v = some (.int r.1) ∧ Wd Γ B r.2 G') 1 6 := by
  refine CtL.of rfl (Nat.le_of_ble_eq_true rfl) fun X hx hr htb hl hΓ => ?_
  subst hl hΓ
  show J X 4 G sz 0 0 0 [some (.ref (B.1 + 0)), some (.int l1), some (.ref (B.1 + 377)), none] []
  unfold sL_whole at h
  obtain ⟨res, hres, h⟩ := bnd h
  refine J_al4 hx rfl rfl dL_whole_0 ?_
  refine J_iconst hx (0 : Int32) dL_whole_1 rfl ?_
  refine J_al4 hx rfl rfl dL_whole_2 ?_
  refine J_il4 hx rfl rfl dL_whole_3 ?_
  refine J_callVX hx htb (kX12_whole htr hC hW hres) ml_L_86 lk_X12_whole (ci := 10) rfl (hW.obj (rfl : kd 0 = 1) (by decide) (by decide)) (rest := [.int 0, .ref (B.1 + 377)]) rfl rfl (by decide) (by decide) (Nat.le_of_ble_eq_true rfl) (by decide) (by decide) dL_whole_4 (fun v G1 sz1 hΨ => ?_) (fun E q sz1 hE => ?_)
  · obtain ⟨p, rfl, hv, hG, hz⟩ := hΨ
    subst hv
    subst hG
    obtain rfl := Option.some.inj h
    show J X 4 _ _ 1 6 7 [some (.ref (B.1 + 0)), some (.int l1), some (.ref (B.1 + 377)), none] [.int p, .int 0, .ref (B.1 + 377)]
    refine J_i2l hx dL_whole_7 ?_
    refine J_outS hx hW dL_whole_8 fun G2 hW2 => ?_
    refine J_goto hx 15 dL_whole_9 rfl ?_
    refine J_iconst hx (0 : Int32) dL_whole_15 rfl ?_
    exact J_iret hx hr dL_whole_16 (by decide) (by decide) ⟨rfl, hW2⟩
  · cases res with
    | inr p => exact hE.elim
    | inl x =>
      rcases hE with ⟨rfl, rfl⟩ | ⟨rfl, rfl⟩ | ⟨rfl, rfl⟩
      · cases (show (none : Option (Int32 × Wl)) = some r from h)
      · obtain rfl := Option.some.inj (h : some _ = some r)
        refine ⟨[], ⟨0, 9, 12, 13⟩, [], rfl, (fun z hz => nomatch hz), rfl, by decide, cl_L_13, (hx.kc hC).thr.2.2.2.2.2 _ (by decide +kernel), ?_⟩
        show J X 4 _ _ 1 6 12 [some (.ref (B.1 + 0)), some (.int l1), some (.ref (B.1 + 377)), none] [.ref q]
        refine J_as4 hx rfl (by decide) (hc_of rfl) rfl dL_whole_12 ?_
        refine J_iconst hx (1 : Int32) dL_whole_13 rfl ?_
        exact J_iret hx hr dL_whole_14 (by decide) (by decide) ⟨rfl, hW⟩
      · cases (show (none : Option (Int32 × Wl)) = some r from h)
theorem dL_readyAt_0 : decode cL_readyAt 0 = .ok (.aload_n 2, 1) := by decide +kernel
theorem dL_readyAt_1 : decode cL_readyAt 1 = .ok (.iconst 0, 1) := by decide +kernel
theorem dL_readyAt_2 : decode cL_readyAt 2 = .ok (.aload_n 0, 1) := by decide +kernel
theorem dL_readyAt_3 : decode cL_readyAt 3 = .ok (.iload_n 1, 1) := by decide +kernel
theorem dL_readyAt_4 : decode cL_readyAt 4 = .ok (.invokevirtual 89, 3) := by decide +kernel
theorem dL_readyAt_7 : decode cL_readyAt 7 = .ok (.i2l, 1) := by decide +kernel
theorem dL_readyAt_8 : decode cL_readyAt 8 = .ok (.lastore, 1) := by decide +kernel
theorem dL_readyAt_9 : decode cL_readyAt 9 = .ok (.goto 6, 3) := by decide +kernel
theorem dL_readyAt_12 : decode cL_readyAt 12 = .ok (.astore_n 3, 1) := by decide +kernel
theorem dL_readyAt_13 : decode cL_readyAt 13 = .ok (.iconst 1, 1) := by decide +kernel
theorem dL_readyAt_14 : decode cL_readyAt 14 = .ok (.ireturn, 1) := by decide +kernel
theorem dL_readyAt_15 : decode cL_readyAt 15 = .ok (.iconst 0, 1) := by decide +kernel
theorem dL_readyAt_16 : decode cL_readyAt 16 = .ok (.ireturn, 1) := by decide +kernel
theorem cw_readyAt : Cond.codeWith yL_readyAt cL_readyAt 4 (some .int) [(0, 9, 12, 21)] ∈ WT := (wtm_6 83 (by decide +kernel) (by decide +kernel))
def sL_readyAt (w : Wl) (l1 : Int32) : Option (Int32 × Wl) := (sX12_readyAt w l1).bind (lwW (some 1) none none w)
theorem kL_readyAt {l : Launch} {Γ : Gl} {B : Bs} {w : Wl} {G : Gf} {sz : Nat} {l1 : Int32} {r : Int32 × Wl} (htr : l.stackTraces = false) (hC : GC Γ B) (hW : Wd Γ B w G) (h : sL_readyAt w l1 = some r) : CtL l Γ yL_readyAt cL_readyAt 4 (some .int) [(0, 9, 12, 21)] 8 [.ref (B.1 + 0), .int l1, .ref (B.1 + 377)] G sz (fun v G' _ => v = some (.int r.1) ∧ Wd Γ B r.2 G') 1 6 := by
  refine CtL.of rfl (Nat.le_of_ble_eq_true rfl) fun X hx hr htb hl hΓ => ?_
  subst hl hΓ
  show J X 4 G sz 0 0 0 [some (.ref (B.1 + 0)), some (.int l1), some (.ref (B.1 + 377)), none] []
  unfold sL_readyAt at h
  obtain ⟨res, hres, h⟩ := bnd h
  refine J_al4 hx rfl rfl dL_readyAt_0 ?_
  refine J_iconst hx (0 : Int32) dL_readyAt_1 rfl ?_
  refine J_al4 hx rfl rfl dL_readyAt_2 ?_
  refine J_il4 hx rfl rfl dL_readyAt_3 ?_
  refine J_callVX hx htb (kX12_readyAt htr hC hW hres) ml_L_89 lk_X12_readyAt (ci := 10) rfl (hW.obj (rfl : kd 0 = 1) (by decide) (by decide)) (rest := [.int 0, .ref (B.1 + 377)]) rfl rfl (by decide) (by decide) (Nat.le_of_ble_eq_true rfl) (by decide) (by decide) dL_readyAt_4 (fun v G1 sz1 hΨ => ?_) (fun E q sz1 hE => ?_)
  · obtain ⟨p, rfl, hv, hG, hz⟩ := hΨ
    subst hv
    obtain rfl := Option.some.inj h
    show J X 4 _ _ 1 6 7 [some (.ref (B.1 + 0)), some (.int l1), some (.ref (B.1 + 377)), none] [.int p.1, .int 0, .ref (B.1 + 377)]
    refine J_i2l hx dL_readyAt_7 ?_
    refine J_outS hx hG dL_readyAt_8 fun G2 hW2 => ?_
    refine J_goto hx 15 dL_readyAt_9 rfl ?_
    refine J_iconst hx (0 : Int32) dL_readyAt_15 rfl ?_
    exact J_iret hx hr dL_readyAt_16 (by decide) (by decide) ⟨rfl, hW2⟩
  · cases res with
    | inr p => exact hE.elim
    | inl x =>
      rcases hE with ⟨rfl, rfl⟩ | ⟨rfl, rfl⟩ | ⟨rfl, rfl⟩
      · obtain rfl := Option.some.inj (h : some _ = some r)
        refine ⟨[], ⟨0, 9, 12, 21⟩, [], rfl, (fun z hz => nomatch hz), rfl, by decide, cl_L_21, (hx.kc hC).thr.2.2.2.2.2 _ (by decide +kernel), ?_⟩
        show J X 4 _ _ 1 6 12 [some (.ref (B.1 + 0)), some (.int l1), some (.ref (B.1 + 377)), none] [.ref q]
        refine J_as4 hx rfl (by decide) (hc_of rfl) rfl dL_readyAt_12 ?_
        refine J_iconst hx (1 : Int32) dL_readyAt_13 rfl ?_
        exact J_iret hx hr dL_readyAt_14 (by decide) (by decide) ⟨rfl, hW⟩
      · cases (show (none : Option (Int32 × Wl)) = some r from h)
      · cases (show (none : Option (Int32 × Wl)) = some r from h)
theorem dL_allReadyAt_0 : decode cL_allReadyAt 0 = .ok (.aload_n 2, 1) := by decide +kernel
theorem dL_allReadyAt_1 : decode cL_allReadyAt 1 = .ok (.iconst 0, 1) := by decide +kernel
theorem dL_allReadyAt_2 : decode cL_allReadyAt 2 = .ok (.aload_n 0, 1) := by decide +kernel
theorem dL_allReadyAt_3 : decode cL_allReadyAt 3 = .ok (.iload_n 1, 1) := by decide +kernel
theorem dL_allReadyAt_4 : decode cL_allReadyAt 4 = .ok (.invokevirtual 92, 3) := by decide +kernel
theorem dL_allReadyAt_7 : decode cL_allReadyAt 7 = .ok (.i2l, 1) := by decide +kernel
theorem dL_allReadyAt_8 : decode cL_allReadyAt 8 = .ok (.lastore, 1) := by decide +kernel
theorem dL_allReadyAt_9 : decode cL_allReadyAt 9 = .ok (.goto 6, 3) := by decide +kernel
theorem dL_allReadyAt_12 : decode cL_allReadyAt 12 = .ok (.astore_n 3, 1) := by decide +kernel
theorem dL_allReadyAt_13 : decode cL_allReadyAt 13 = .ok (.iconst 1, 1) := by decide +kernel
theorem dL_allReadyAt_14 : decode cL_allReadyAt 14 = .ok (.ireturn, 1) := by decide +kernel
theorem dL_allReadyAt_15 : decode cL_allReadyAt 15 = .ok (.iconst 0, 1) := by decide +kernel
theorem dL_allReadyAt_16 : decode cL_allReadyAt 16 = .ok (.ireturn, 1) := by decide +kernel
theorem cw_allReadyAt : Cond.codeWith yL_allReadyAt cL_allReadyAt 4 (some .int) [(0, 9, 12, 21)] ∈ WT := (wtm_6 90 (by decide +kernel) (by decide +kernel))
def sL_allReadyAt (w : Wl) (l1 : Int32) : Option (Int32 × Wl) := (sX12_allReadyAt w l1).bind (lwW (some 1) none none w)
theorem kL_allReadyAt {l : Launch} {Γ : Gl} {B : Bs} {w : Wl} {G : Gf} {sz : Nat} {l1 : Int32} {r : Int32 × Wl} (htr : l.stackTraces = false) (hC : GC Γ B) (hW : Wd Γ B w G) (h : sL_allReadyAt w l1 = some r) : CtL l Γ yL_allReadyAt cL_allReadyAt 4 (some .int) [(0, 9, 12, 21)] 8 [.ref (B.1 + 0), .int l1, .ref (B.1 + 377)] G sz (fun v G' _ => v = some (.int r.1) ∧ Wd Γ B r.2 G') 1 6 := by
  refine CtL.of rfl (Nat.le_of_ble_eq_true rfl) fun X hx hr htb hl hΓ => ?_
  subst hl hΓ
  show J X 4 G sz 0 0 0 [some (.ref (B.1 + 0)), some (.int l1), some (.ref (B.1 + 377)), none] []
  unfold sL_allReadyAt at h
  obtain ⟨res, hres, h⟩ := bnd h
  refine J_al4 hx rfl rfl dL_allReadyAt_0 ?_
  refine J_iconst hx (0 : Int32) dL_allReadyAt_1 rfl ?_
  refine J_al4 hx rfl rfl dL_allReadyAt_2 ?_
  refine J_il4 hx rfl rfl dL_allReadyAt_3 ?_
  refine J_callVX hx htb (kX12_allReadyAt htr hC hW hres) ml_L_92 lk_X12_allReadyAt (ci := 10) rfl (hW.obj (rfl : kd 0 = 1) (by decide) (by decide)) (rest := [.int 0, .ref (B.1 + 377)]) rfl rfl (by decide) (by decide) (Nat.le_of_ble_eq_true rfl) (by decide) (by decide) dL_allReadyAt_4 (fun v G1 sz1 hΨ => ?_) (fun E q sz1 hE => ?_)
  · obtain ⟨p, rfl, hv, hG, hz⟩ := hΨ
    subst hv
    obtain rfl := Option.some.inj h
    show J X 4 _ _ 1 6 7 [some (.ref (B.1 + 0)), some (.int l1), some (.ref (B.1 + 377)), none] [.int p.1, .int 0, .ref (B.1 + 377)]
    refine J_i2l hx dL_allReadyAt_7 ?_
    refine J_outS hx hG dL_allReadyAt_8 fun G2 hW2 => ?_
    refine J_goto hx 15 dL_allReadyAt_9 rfl ?_
    refine J_iconst hx (0 : Int32) dL_allReadyAt_15 rfl ?_
    exact J_iret hx hr dL_allReadyAt_16 (by decide) (by decide) ⟨rfl, hW2⟩
  · cases res with
    | inr p => exact hE.elim
    | inl x =>
      rcases hE with ⟨rfl, rfl⟩ | ⟨rfl, rfl⟩ | ⟨rfl, rfl⟩
      · obtain rfl := Option.some.inj (h : some _ = some r)
        refine ⟨[], ⟨0, 9, 12, 21⟩, [], rfl, (fun z hz => nomatch hz), rfl, by decide, cl_L_21, (hx.kc hC).thr.2.2.2.2.2 _ (by decide +kernel), ?_⟩
        show J X 4 _ _ 1 6 12 [some (.ref (B.1 + 0)), some (.int l1), some (.ref (B.1 + 377)), none] [.ref q]
        refine J_as4 hx rfl (by decide) (hc_of rfl) rfl dL_allReadyAt_12 ?_
        refine J_iconst hx (1 : Int32) dL_allReadyAt_13 rfl ?_
        exact J_iret hx hr dL_allReadyAt_14 (by decide) (by decide) ⟨rfl, hW⟩
      · cases (show (none : Option (Int32 × Wl)) = some r from h)
      · cases (show (none : Option (Int32 × Wl)) = some r from h)
theorem dL_bestVenue_0 : decode cL_bestVenue 0 = .ok (.aload_n 3, 1) := by decide +kernel
theorem dL_bestVenue_1 : decode cL_bestVenue 1 = .ok (.iconst 0, 1) := by decide +kernel
theorem dL_bestVenue_2 : decode cL_bestVenue 2 = .ok (.aload_n 0, 1) := by decide +kernel
theorem dL_bestVenue_3 : decode cL_bestVenue 3 = .ok (.iload_n 1, 1) := by decide +kernel
theorem dL_bestVenue_4 : decode cL_bestVenue 4 = .ok (.iload_n 2, 1) := by decide +kernel
theorem dL_bestVenue_5 : decode cL_bestVenue 5 = .ok (.invokevirtual 95, 3) := by decide +kernel
theorem dL_bestVenue_8 : decode cL_bestVenue 8 = .ok (.i2l, 1) := by decide +kernel
theorem dL_bestVenue_9 : decode cL_bestVenue 9 = .ok (.lastore, 1) := by decide +kernel
theorem dL_bestVenue_10 : decode cL_bestVenue 10 = .ok (.goto 7, 3) := by decide +kernel
theorem dL_bestVenue_13 : decode cL_bestVenue 13 = .ok (.astore 4, 2) := by decide +kernel
theorem dL_bestVenue_15 : decode cL_bestVenue 15 = .ok (.iconst 1, 1) := by decide +kernel
theorem dL_bestVenue_16 : decode cL_bestVenue 16 = .ok (.ireturn, 1) := by decide +kernel
theorem dL_bestVenue_17 : decode cL_bestVenue 17 = .ok (.iconst 0, 1) := by decide +kernel
theorem dL_bestVenue_18 : decode cL_bestVenue 18 = .ok (.ireturn, 1) := by decide +kernel
theorem cw_bestVenue : Cond.codeWith yL_bestVenue cL_bestVenue 5 (some .int) [(0, 10, 13, 21)] ∈ WT := (wtm_6 97 (by decide +kernel) (by decide +kernel))
def sL_bestVenue (w : Wl) (l1 : Int32) (l2 : Int32) : Option (Int32 × Wl) := (sX12_bestVenue w l1 l2).bind (lwW (some 1) none none w)
theorem kL_bestVenue {l : Launch} {Γ : Gl} {B : Bs} {w : Wl} {G : Gf} {sz : Nat} {l1 : Int32} {l2 : Int32} {r : Int32 × Wl} (htr : l.stackTraces = false) (hC : GC Γ B) (hW : Wd Γ B w G) (h : sL_bestVenue w l1 l2 = some r) : CtL l Γ yL_bestVenue cL_bestVenue 5 (some .int) [(0, 10, 13, 21)] 8 [.ref (B.1 + 0), .int l1, .int l2, .ref (B.1 + 377)] G sz (fun v G' _ => v = some (.int r.1) ∧ Wd Γ B r.2 G') 1 6 := by
  refine CtL.of rfl (Nat.le_of_ble_eq_true rfl) fun X hx hr htb hl hΓ => ?_
  subst hl hΓ
  show J X 5 G sz 0 0 0 [some (.ref (B.1 + 0)), some (.int l1), some (.int l2), some (.ref (B.1 + 377)), none] []
  unfold sL_bestVenue at h
  obtain ⟨res, hres, h⟩ := bnd h
  refine J_al4 hx rfl rfl dL_bestVenue_0 ?_
  refine J_iconst hx (0 : Int32) dL_bestVenue_1 rfl ?_
  refine J_al4 hx rfl rfl dL_bestVenue_2 ?_
  refine J_il4 hx rfl rfl dL_bestVenue_3 ?_
  refine J_il4 hx rfl rfl dL_bestVenue_4 ?_
  refine J_callVX hx htb (kX12_bestVenue htr hC hW hres) ml_L_95 lk_X12_bestVenue (ci := 10) rfl (hW.obj (rfl : kd 0 = 1) (by decide) (by decide)) (rest := [.int 0, .ref (B.1 + 377)]) rfl rfl (by decide) (by decide) (Nat.le_of_ble_eq_true rfl) (by decide) (by decide) dL_bestVenue_5 (fun v G1 sz1 hΨ => ?_) (fun E q sz1 hE => ?_)
  · obtain ⟨p, rfl, hv, hG, hz⟩ := hΨ
    subst hv
    obtain rfl := Option.some.inj h
    show J X 5 _ _ 1 6 8 [some (.ref (B.1 + 0)), some (.int l1), some (.int l2), some (.ref (B.1 + 377)), none] [.int p.1, .int 0, .ref (B.1 + 377)]
    refine J_i2l hx dL_bestVenue_8 ?_
    refine J_outS hx hG dL_bestVenue_9 fun G2 hW2 => ?_
    refine J_goto hx 17 dL_bestVenue_10 rfl ?_
    refine J_iconst hx (0 : Int32) dL_bestVenue_17 rfl ?_
    exact J_iret hx hr dL_bestVenue_18 (by decide) (by decide) ⟨rfl, hW2⟩
  · cases res with
    | inr p => exact hE.elim
    | inl x =>
      rcases hE with ⟨rfl, rfl⟩ | ⟨rfl, rfl⟩ | ⟨rfl, rfl⟩
      · obtain rfl := Option.some.inj (h : some _ = some r)
        refine ⟨[], ⟨0, 10, 13, 21⟩, [], rfl, (fun z hz => nomatch hz), rfl, by decide, cl_L_21, (hx.kc hC).thr.2.2.2.2.2 _ (by decide +kernel), ?_⟩
        show J X 5 _ _ 1 6 13 [some (.ref (B.1 + 0)), some (.int l1), some (.int l2), some (.ref (B.1 + 377)), none] [.ref q]
        refine J_as hx (by decide) (hc_of rfl) rfl dL_bestVenue_13 ?_
        refine J_iconst hx (1 : Int32) dL_bestVenue_15 rfl ?_
        exact J_iret hx hr dL_bestVenue_16 (by decide) (by decide) ⟨rfl, hW⟩
      · cases (show (none : Option (Int32 × Wl)) = some r from h)
      · cases (show (none : Option (Int32 × Wl)) = some r from h)
theorem dL_type_0 : decode cL_type 0 = .ok (.aload_n 2, 1) := by decide +kernel
theorem dL_type_1 : decode cL_type 1 = .ok (.iconst 0, 1) := by decide +kernel
theorem dL_type_2 : decode cL_type 2 = .ok (.aload_n 0, 1) := by decide +kernel
theorem dL_type_3 : decode cL_type 3 = .ok (.iload_n 1, 1) := by decide +kernel
theorem dL_type_4 : decode cL_type 4 = .ok (.invokevirtual 98, 3) := by decide +kernel
theorem dL_type_7 : decode cL_type 7 = .ok (.i2l, 1) := by decide +kernel
theorem dL_type_8 : decode cL_type 8 = .ok (.lastore, 1) := by decide +kernel
theorem dL_type_9 : decode cL_type 9 = .ok (.goto 9, 3) := by decide +kernel
theorem dL_type_12 : decode cL_type 12 = .ok (.astore_n 3, 1) := by decide +kernel
theorem dL_type_13 : decode cL_type 13 = .ok (.iconst 1, 1) := by decide +kernel
theorem dL_type_14 : decode cL_type 14 = .ok (.ireturn, 1) := by decide +kernel
theorem dL_type_15 : decode cL_type 15 = .ok (.astore_n 3, 1) := by decide +kernel
theorem dL_type_16 : decode cL_type 16 = .ok (.iconst 2, 1) := by decide +kernel
theorem dL_type_17 : decode cL_type 17 = .ok (.ireturn, 1) := by decide +kernel
theorem dL_type_18 : decode cL_type 18 = .ok (.iconst 0, 1) := by decide +kernel
theorem dL_type_19 : decode cL_type 19 = .ok (.ireturn, 1) := by decide +kernel
theorem cw_type : Cond.codeWith yL_type cL_type 4 (some .int) [(0, 9, 12, 13), (0, 9, 15, 15)] ∈ WT := (wtm_6 115 (by decide +kernel) (by decide +kernel))
def sL_type (w : Wl) (l1 : Int32) : Option (Int32 × Wl) := (sX12_type w l1).bind (lwW none (some 1) (some 2) w)
theorem kL_type {l : Launch} {Γ : Gl} {B : Bs} {w : Wl} {G : Gf} {sz : Nat} {l1 : Int32} {r : Int32 × Wl} (htr : l.stackTraces = false) (hC : GC Γ B) (hW : Wd Γ B w G) (h : sL_type w l1 = some r) : CtL l Γ yL_type cL_type 4 (some .int) [(0, 9, 12, 13), (0, 9, 15, 15)] 8 [.ref (B.1 + 0), .int l1, .ref (B.1 + 377)] G sz (fun v G' _ => v = some (.int r.1) ∧ Wd Γ B r.2 G') 1 6 := by
  refine CtL.of rfl (Nat.le_of_ble_eq_true rfl) fun X hx hr htb hl hΓ => ?_
  subst hl hΓ
  show J X 4 G sz 0 0 0 [some (.ref (B.1 + 0)), some (.int l1), some (.ref (B.1 + 377)), none] []
  unfold sL_type at h
  obtain ⟨res, hres, h⟩ := bnd h
  refine J_al4 hx rfl rfl dL_type_0 ?_
  refine J_iconst hx (0 : Int32) dL_type_1 rfl ?_
  refine J_al4 hx rfl rfl dL_type_2 ?_
  refine J_il4 hx rfl rfl dL_type_3 ?_
  refine J_callVX hx htb (kX12_type htr hC hW hres) ml_L_98 lk_X12_type (ci := 10) rfl (hW.obj (rfl : kd 0 = 1) (by decide) (by decide)) (rest := [.int 0, .ref (B.1 + 377)]) rfl rfl (by decide) (by decide) (Nat.le_of_ble_eq_true rfl) (by decide) (by decide) dL_type_4 (fun v G1 sz1 hΨ => ?_) (fun E q sz1 hE => ?_)
  · obtain ⟨p, rfl, hv, hG, hz⟩ := hΨ
    subst hv
    obtain rfl := Option.some.inj h
    show J X 4 _ _ 1 6 7 [some (.ref (B.1 + 0)), some (.int l1), some (.ref (B.1 + 377)), none] [.int p.1, .int 0, .ref (B.1 + 377)]
    refine J_i2l hx dL_type_7 ?_
    refine J_outS hx hG dL_type_8 fun G2 hW2 => ?_
    refine J_goto hx 18 dL_type_9 rfl ?_
    refine J_iconst hx (0 : Int32) dL_type_18 rfl ?_
    exact J_iret hx hr dL_type_19 (by decide) (by decide) ⟨rfl, hW2⟩
  · cases res with
    | inr p => exact hE.elim
    | inl x =>
      rcases hE with ⟨rfl, rfl⟩ | ⟨rfl, rfl⟩ | ⟨rfl, rfl⟩
      · cases (show (none : Option (Int32 × Wl)) = some r from h)
      · obtain rfl := Option.some.inj (h : some _ = some r)
        refine ⟨[], ⟨0, 9, 12, 13⟩, [⟨0, 9, 15, 15⟩], rfl, (fun z hz => nomatch hz), rfl, by decide, cl_L_13, (hx.kc hC).thr.2.2.2.2.2 _ (by decide +kernel), ?_⟩
        show J X 4 _ _ 1 6 12 [some (.ref (B.1 + 0)), some (.int l1), some (.ref (B.1 + 377)), none] [.ref q]
        refine J_as4 hx rfl (by decide) (hc_of rfl) rfl dL_type_12 ?_
        refine J_iconst hx (1 : Int32) dL_type_13 rfl ?_
        exact J_iret hx hr dL_type_14 (by decide) (by decide) ⟨rfl, hW⟩
      · obtain rfl := Option.some.inj (h : some _ = some r)
        refine ⟨[⟨0, 9, 12, 13⟩], ⟨0, 9, 15, 15⟩, [], rfl, (fun z hz => by
            rcases List.mem_cons.mp hz with rfl | hz
            · exact ⟨by decide, _, cl_L_13, (hx.kc hC).nc.2.2⟩
            cases hz), rfl, by decide, cl_L_15, (hx.kc hC).thr.2.2.2.2.2 _ (by decide +kernel), ?_⟩
        show J X 4 _ _ 1 6 15 [some (.ref (B.1 + 0)), some (.int l1), some (.ref (B.1 + 377)), none] [.ref q]
        refine J_as4 hx rfl (by decide) (hc_of rfl) rfl dL_type_15 ?_
        refine J_iconst hx (2 : Int32) dL_type_16 rfl ?_
        exact J_iret hx hr dL_type_17 (by decide) (by decide) ⟨rfl, hW⟩
theorem dL_undo_0 : decode cL_undo 0 = .ok (.aload_n 1, 1) := by decide +kernel
theorem dL_undo_1 : decode cL_undo 1 = .ok (.iconst 0, 1) := by decide +kernel
theorem dL_undo_2 : decode cL_undo 2 = .ok (.aload_n 0, 1) := by decide +kernel
theorem dL_undo_3 : decode cL_undo 3 = .ok (.invokevirtual 101, 3) := by decide +kernel
theorem dL_undo_6 : decode cL_undo 6 = .ok (.i2l, 1) := by decide +kernel
theorem dL_undo_7 : decode cL_undo 7 = .ok (.lastore, 1) := by decide +kernel
theorem dL_undo_8 : decode cL_undo 8 = .ok (.goto 6, 3) := by decide +kernel
theorem dL_undo_11 : decode cL_undo 11 = .ok (.astore_n 2, 1) := by decide +kernel
theorem dL_undo_12 : decode cL_undo 12 = .ok (.iconst 1, 1) := by decide +kernel
theorem dL_undo_13 : decode cL_undo 13 = .ok (.ireturn, 1) := by decide +kernel
theorem dL_undo_14 : decode cL_undo 14 = .ok (.iconst 0, 1) := by decide +kernel
theorem dL_undo_15 : decode cL_undo 15 = .ok (.ireturn, 1) := by decide +kernel
theorem cw_undo : Cond.codeWith yL_undo cL_undo 3 (some .int) [(0, 8, 11, 15)] ∈ WT := (wtm_6 130 (by decide +kernel) (by decide +kernel))
def sL_undo (w : Wl) : Option (Int32 × Wl) := (sX12_undo w ).bind (lwW none none (some 1) w)
theorem kL_undo {l : Launch} {Γ : Gl} {B : Bs} {w : Wl} {G : Gf} {sz : Nat} {r : Int32 × Wl} (htr : l.stackTraces = false) (hC : GC Γ B) (hW : Wd Γ B w G) (h : sL_undo w  = some r) : CtL l Γ yL_undo cL_undo 3 (some .int) [(0, 8, 11, 15)] 8 [.ref (B.1 + 0), .ref (B.1 + 377)] G sz (fun v G' _ => v = some (.int r.1) ∧ Wd Γ B r.2 G') 1 6 := by
  refine CtL.of rfl (Nat.le_of_ble_eq_true rfl) fun X hx hr htb hl hΓ => ?_
  subst hl hΓ
  show J X 3 G sz 0 0 0 [some (.ref (B.1 + 0)), some (.ref (B.1 + 377)), none] []
  unfold sL_undo at h
  obtain ⟨res, hres, h⟩ := bnd h
  refine J_al4 hx rfl rfl dL_undo_0 ?_
  refine J_iconst hx (0 : Int32) dL_undo_1 rfl ?_
  refine J_al4 hx rfl rfl dL_undo_2 ?_
  refine J_callVX hx htb (kX12_undo htr hC hW hres) ml_L_101 lk_X12_undo (ci := 10) rfl (hW.obj (rfl : kd 0 = 1) (by decide) (by decide)) (rest := [.int 0, .ref (B.1 + 377)]) rfl rfl (by decide) (by decide) (Nat.le_of_ble_eq_true rfl) (by decide) (by decide) dL_undo_3 (fun v G1 sz1 hΨ => ?_) (fun E q sz1 hE => ?_)
  · obtain ⟨p, rfl, hv, hG, hz⟩ := hΨ
    subst hv
    obtain rfl := Option.some.inj h
    show J X 3 _ _ 1 6 6 [some (.ref (B.1 + 0)), some (.ref (B.1 + 377)), none] [.int p.1, .int 0, .ref (B.1 + 377)]
    refine J_i2l hx dL_undo_6 ?_
    refine J_outS hx hG dL_undo_7 fun G2 hW2 => ?_
    refine J_goto hx 14 dL_undo_8 rfl ?_
    refine J_iconst hx (0 : Int32) dL_undo_14 rfl ?_
    exact J_iret hx hr dL_undo_15 (by decide) (by decide) ⟨rfl, hW2⟩
  · cases res with
    | inr p => exact hE.elim
    | inl x =>
      rcases hE with ⟨rfl, rfl⟩ | ⟨rfl, rfl⟩ | ⟨rfl, rfl⟩
      · cases (show (none : Option (Int32 × Wl)) = some r from h)
      · cases (show (none : Option (Int32 × Wl)) = some r from h)
      · obtain rfl := Option.some.inj (h : some _ = some r)
        refine ⟨[], ⟨0, 8, 11, 15⟩, [], rfl, (fun z hz => nomatch hz), rfl, by decide, cl_L_15, (hx.kc hC).thr.2.2.2.2.2 _ (by decide +kernel), ?_⟩
        show J X 3 _ _ 1 6 11 [some (.ref (B.1 + 0)), some (.ref (B.1 + 377)), none] [.ref q]
        refine J_as4 hx rfl (by decide) (hc_of rfl) rfl dL_undo_11 ?_
        refine J_iconst hx (1 : Int32) dL_undo_12 rfl ?_
        exact J_iret hx hr dL_undo_13 (by decide) (by decide) ⟨rfl, hW⟩
