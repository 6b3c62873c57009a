/-! METHODS THAT MAY THROW. Written by wip/whole/gen_throw.py -/
theorem th_b1 : ∀ w ∈ (vx_atS RX12 316 "java/lang/IndexOutOfBoundsException" thN).filter (fun w => !goodWord w), w ∈ thB := by decide +kernel
theorem th_g1 : ∀ w ∈ (vx_atS RX12 316 "java/lang/IndexOutOfBoundsException" thN).filter goodWord, w ∈ tables_1 := by decide +kernel
theorem th_o1 : ∀ w ∈ vx_atS RX12 316 "java/lang/IndexOutOfBoundsException" thN, vx_ot w = true := by decide +kernel
theorem th_i1 : Cond.initialized "java/lang/IndexOutOfBoundsException" ∈ WT := (wtm_1 18 (by decide +kernel) (by decide +kernel))
theorem th_b2 : ∀ w ∈ (vx_atS RX12 323 "java/lang/IllegalArgumentException" thN).filter (fun w => !goodWord w), w ∈ thB := by decide +kernel
theorem th_g2 : ∀ w ∈ (vx_atS RX12 323 "java/lang/IllegalArgumentException" thN).filter goodWord, w ∈ tables_1 := by decide +kernel
theorem th_o2 : ∀ w ∈ vx_atS RX12 323 "java/lang/IllegalArgumentException" thN, vx_ot w = true := by decide +kernel
theorem th_i2 : Cond.initialized "java/lang/IllegalArgumentException" ∈ WT := (wtm_1 19 (by decide +kernel) (by decide +kernel))
theorem th_b3 : ∀ w ∈ (vx_atS RX12 328 "java/lang/IllegalStateException" thN).filter (fun w => !goodWord w), w ∈ thB := by decide +kernel
theorem th_g3 : ∀ w ∈ (vx_atS RX12 328 "java/lang/IllegalStateException" thN).filter goodWord, w ∈ tables_1 := by decide +kernel
theorem th_o3 : ∀ w ∈ vx_atS RX12 328 "java/lang/IllegalStateException" thN, vx_ot w = true := by decide +kernel
theorem th_i3 : Cond.initialized "java/lang/IllegalStateException" ∈ WT := (wtm_1 20 (by decide +kernel) (by decide +kernel))
theorem WT_t {w : Cond} (h : w ∈ tables_1) (g : goodWord w = true) : w ∈ WT := List.mem_filter.mpr ⟨List.mem_append_right _ h, g⟩
def XcO (Γ : Gl) (G : Gf) (EX : String → Prop) : String → State → State → Prop := fun E _ t => EX E ∧ ∃ sz' : Nat, Hp Γ G sz' t.heap
/-- a contract of one that returns with Ψ, or throws one of EX, nothing changed -/
def CtX (l : Launch) (Γ : Gl) (y : MethodName) (cc : ByteArray) (nL : Nat) (ret : Option FieldType) (t : Nat) (av : List Value) (G : Gf) (sz : Nat) (Ψ : Option Value → Gf → Nat → Prop) (EX : String → Prop) (mc ms : Nat) : Prop :=
  vx_Met l y (wy y cc nL ret) (rmL t mc ms) (va_Pc av (fun U => KV Γ U ∧ Hp Γ G sz U.heap)) (QcO Γ Ψ) (XcO Γ G EX) mc ms (aA Γ)
/-- the frame of a body that may throw -/
def Xe (X : Cx) (G : Gf) (sz : Nat) (Ψ : Option Value → Gf → Nat → Prop) (EX : String → Prop) (mc ms : Nat) : Prop :=
  (∀ x ∈ (xc X).exceptionTable.toList, False) ∧ xQ X = vx_MQ (xb X) (QcO (xΓ X) Ψ) (XcO (xΓ X) G EX) (xa X) (xs X) mc ms (aA (xΓ X)) ∧ (xl X).stackTraces = false ∧ Hp (xΓ X) G sz (xs X).heap
theorem CtX.of {l : Launch} {Γ : Gl} {y : MethodName} {cc : ByteArray} {nL : Nat} {ret : Option FieldType} {t : Nat} {av : List Value} {G : Gf} {sz : Nat} {Ψ : Option Value → Gf → Nat → Prop} {EX : String → Prop} {mc ms : Nat} (htr : l.stackTraces = false) (hy : plainName y.cls = true) (hlen : (lg_sl av).length ≤ nL)
    (body : ∀ X : Cx, Fx X cc nL y.cls t mc ms → Rt X ret mc ms Ψ → Xe X G sz Ψ EX mc ms → xl X = l → xΓ X = Γ → (xM X).name = y.name → J X nL G sz 0 0 0 (initO av nL) []) : CtX l Γ y cc nL ret t av G sz Ψ EX mc ms := by
  refine vx_ofW (cc := cc) (maxL := nL) (ret := ret) hy rfl ?_
  intro p e s m args below meth c s₁ B hml htab hv
  obtain ⟨rfl, hK, hH⟩ := hv
  have hts := atoms_spec (ws := wy y cc nL ret) B.pre
  have hown : s.vm.findClass y.cls = some m.cls := findClass_of_methodNamed B.named
  have hin : meth.name = y.name := (name_of_methodNamed B.named B.method).1
  have hl := lv_entry av (n := nL) hlen
  have key := body (p, l, e, rmL t mc ms, s, m, av.toArray, below, meth, c, vx_MQ below (QcO Γ Ψ) (XcO Γ G EX) av.toArray s mc ms (aA Γ), Γ) ⟨B.exec, B.bytes, hml, hown, wy_WT hts, hK, rfl, B.notSynchronized⟩ ⟨B.returns, fun H locs g h => vx_ret h⟩ ⟨htab, rfl, htr, hH⟩ rfl rfl hin s.heap [] _ hH (fun q hq => nomatch hq) ⟨hl.1, hl.2.1, fun i v h => hl.2.2 (i, v) (by have := initO_get av nL i 0 v h; rwa [Nat.zero_add] at this)⟩
  rw [lg_entry_eq]
  exact key
theorem Hp.grow {Γ : Gl} {G : Gf} {sz : Nat} {H H1 : Heap} (h : Hp Γ G sz H) (z : H.size ≤ H1.size) (oq : ∀ q : Nat, q < H.size → H1[q]? = H[q]?) : Hp Γ G H1.size H1 :=
  ⟨rfl, Nat.le_trans h.2.1 z, fun q hq => (oq q (Nat.lt_of_lt_of_le hq h.2.1)).trans (h.2.2.1 q hq), fun a e he => ⟨(h.2.2.2 a e he).1.kept (oq a (h.2.2.2.lt he)), (h.2.2.2 a e he).2⟩⟩
section JX
variable {X : Cx} {cc : ByteArray} {nL : Nat} {t mc ms : Nat} {G : Gf} {sz k n pc : Nat} {ls : List (Option Value)} {st : List Value} {B : Bs} {Ψ : Option Value → Gf → Nat → Prop} {EX : String → Prop}
theorem J_thr (hx : Fx X cc nL RX12 t mc ms) (hC : GC (xΓ X) B) (he : Xe X G sz Ψ EX mc ms) {cls text : String} {ik is ic sa : Nat} (hfit : Bundle.fit cls = true) (hk : Cond.classLink RX12 ik cls ∈ WT) (hini : Cond.initialized cls ∈ WT) (hstr : vk_R RX12 is text sa (xs X))
    (hg : ∀ w ∈ (vx_atS RX12 ic cls thN).filter goodWord, w ∈ tables_1) (hb : ∀ w ∈ (vx_atS RX12 ic cls thN).filter (fun w => !goodWord w), w ∈ thB) (hot : ∀ w ∈ vx_atS RX12 ic cls thN, vx_ot w = true)
    (d0 : decode cc pc = .ok (.new ik, 3)) (d3 : decode cc (pc + 3) = .ok (.dup, 1)) (d4 : decode cc (pc + 4) = .ok (.ldc_w is, 3)) (d7 : decode cc (pc + 7) = .ok (.invokespecial ic, 3)) (d10 : decode cc (pc + 10) = .ok (.athrow, 1))
    (ht : 5 < t) (hw : (st.map fun v => v.category).sum + 82 ≤ 30 * t) (hkc : k + 1 ≤ mc) (hns : n + 6 ≤ ms) (hEX : EX cls) : J X nL G sz k n pc ls st := fun H locs lsA hH hlc hv2 => by
  have hts := hx.2.2.2.2.1
  have hR := hx.2.2.2.2.2.2.1
  have hc := (hx.kc hC).thr
  have hs := he.2.2.2
  have hat : ∀ w ∈ vx_atS RX12 ic cls thN, w.before (xa X) (xs X) = true := vx_hat (B := thB) (fun w hw => hts _ (WT_t (hg w hw) (List.mem_filter.mp hw).2)) hb (fun w hw => by
    have h1 := hc.2.2.2.2.2 w hw
    have h2 : w.onTables = true := (by decide +kernel : ∀ w ∈ thB, w.onTables = true) w hw
    exact va_Nw.use h2 h1)
  have hgood : ∀ w ∈ Cond.classLink RX12 ik cls :: Cond.initialized cls :: vx_atS RX12 ic cls thN, vx_ot w = true := by
    intro w hw
    rcases List.mem_cons.mp hw with h | hw
    · rw [h]; rfl
    rcases List.mem_cons.mp hw with h | hw
    · rw [h]; rfl
    exact hot w hw
  have hU := hc.2.2.2.1.kept (Hp.old hs)
  have hN := hc.2.2.2.2.1.kept (Hp.old hs)
  have hS : va_S (aA (xΓ X)) (xs X).heap H locs := ⟨by rw [hs.1, hH.1]; exact Nat.le_refl _, fun q hq hA => by
    have hq' : q < (xΓ X).2.2.1.size := Nat.not_le.mp hA
    rw [hH.2.2.1 q hq', hs.2.2.1 q hq'], hlc⟩
  show W (xp X) (xl X) (xe X) (xR X) (xs X) (xm X) (xa X) (xb X) (xM X) (xc X) H locs k n (xQ X) (F0 (xm X) pc lsA st)
  rw [he.2.1]
  refine vx_throwSW (A := aA (xΓ X)) hx.1 hx.2.1 he.2.2.1 hx.2.2.2.1 hfit (by decide +kernel) (hts _ hk) (hts _ hini) hstr hat hgood hU hN hS (hv2.1.trans hx.2.2.1.symm) d0 d3 d4 d7 d10 (fun x hx' => (he.1 x hx').elim) (by rw [hR]; exact ht) (by rw [hR]; exact hw) (by rw [hR]; exact hkc) (by rw [hR]; exact hns) hx.2.2.2.2.2.2.2 (fun U _ hz hq => ⟨hEX, U.heap.size, hH.grow hz hq⟩) hlc hkc hns
theorem J_callXS {own : String} (hx : Fx X cc nL own t mc ms) {sz0 : Nat} {G0 : Gf} (he : Xe X G0 sz0 Ψ EX mc ms) {idx : Nat} {y : MethodName} {bytes : ByteArray} {maxL : Nat} {ret : Option FieldType} {nA t' mc' ms' : Nat} {As rest : List Value} {Ψ' : Option Value → Gf → Nat → Prop} {EX' : String → Prop}
    (ct : CtX (xl X) (xΓ X) y bytes maxL ret t' As G0 sz Ψ' EX' mc' ms') (hml : Cond.methodLink own idx y ∈ WT) (hm : LkS y bytes maxL ret nA)
    (hst : st = As.reverse ++ rest) (hn : As.length = nA) (ht : t' + 1 ≤ t) (hlo : 19 + maxL + 30 * t' ≤ 30 * t) (hw : (rest.map fun v => v.category).sum ≤ 8) (hk : k + mc' ≤ mc) (hs : n + ms' ≤ ms) (hd : decode cc pc = .ok (.invokestatic idx, 3))
    (hEX : ∀ E, EX' E → EX E) (kk : ∀ (r : Option Value) (G' : Gf) (sz' : Nat), Ψ' r G' sz' → J X nL G' sz' (k + mc') (n + ms') (pc + 3) ls (r.toList ++ rest)) : J X nL G0 sz k n pc ls st := fun H locs lsA hH hlc hv2 => by
  have hts := hx.2.2.2.2.1
  have hK := hx.2.2.2.2.2.1
  have hR := hx.2.2.2.2.2.2.1
  intro T hT Xs
  rcases vx_runS (As := As) (fix_of hx) ct ⟨callB_J hx hml hm.1 ht hlo, hts _ hm.2⟩ ⟨Pc_blind, fun U hU hW => ⟨rfl, hK.warm hW, by rw [hU]; exact hH⟩⟩ (H := H) (locs := locs) (cells := k) (slots := n) (g := F0 (xm X) pc lsA st) rfl hn hv2.1 hst (by show 2 * 0 + _ ≤ 8; omega) hd (by rw [hR]; exact ⟨hk, hs⟩) T hT Xs with ⟨v, st₀, U, T', L, h0, X', hL, e1, e2, ⟨r, G', sz', hv, hΨ, hH'⟩, stp⟩ | ⟨q, st₀, U, T', L, E, ce, h0, X', hL, e1, e2, ⟨hE, sz', hH'⟩, hce, hcv, hcl, stp⟩
  · cases hv
    obtain ⟨t2, a1, b1⟩ := kk _ G' sz' hΨ T'.heap (locs ++ L) lsA (by rw [e1]; exact hH') (fun q hq => by
      rcases List.mem_append.mp hq with h | h
      · exact hlc q h
      · exact hL q h) hv2 T' rfl X'
    exact ⟨t2, stp t2 a1, b1⟩
  · have := vx_out (Qc := QcO (xΓ X) Ψ) (XC := XcO (xΓ X) G0 EX) (pc := pc) (ls := lsA) (rest := rest) (E := E) (ce := ce) (q := q) (H := T'.heap) (locs := locs ++ L) (cells := k + mc') (slots := n + ms') (mc := mc) (ms := ms) (free := aA (xΓ X)) (p := xp X) (l := xl X) (e := xe X) (R := xR X) (s := xs X) (m := xm X) (args := xa X) (below := xb X) (meth := xM X) (c := xc X) (fun x hx' => (he.1 x hx').elim) hx.2.2.2.2.2.2.2 (by rw [e1]; exact hce) hcv hcl (fun V hV _ => ⟨hEX E hE, sz', by rw [hV, e1]; exact hH'⟩) (fun z hz => by
      rcases List.mem_append.mp hz with h | h
      · exact hlc z h
      · exact hL z h) hk hs
    obtain ⟨t2, a1, b1⟩ := this T' rfl X'
    refine ⟨t2, stp.trans a1, ?_⟩
    rw [he.2.1]
    exact b1
end JX
def eIO : String := "java/lang/IndexOutOfBoundsException"
def eIA : String := "java/lang/IllegalArgumentException"
def eIS : String := "java/lang/IllegalStateException"
/-- which exception a number stands for -/
def tiE (x : Int32) (E : String) : Prop := (x = 1 ∧ E = eIO) ∨ (x = 2 ∧ E = eIA) ∨ (x = 3 ∧ E = eIS)
def exq {β : Type} : Sum Int32 β → String → Prop
  | .inl k, E => tiE k E
  | .inr _, _ => False
def tiF (x : Int32) : Prop := ¬ x = 1 ∧ ¬ x = 2 ∧ ¬ x = 3
/-- the mirror of throwIfWrong: what throws, or goes on -/
def tiw {β : Type} (x : Int32) (A : Option (Sum Int32 β)) : Option (Sum Int32 β) := if x = 1 then some (.inl 1) else if x = 2 then some (.inl 2) else if x = 3 then some (.inl 3) else A
theorem tiw_x {β : Type} {x : Int32} {A : Option (Sum Int32 β)} {res : Sum Int32 β} (h : tiw x A = some res) : ∀ E, tiE x E → exq res E := by
  intro E hE
  unfold tiw at h
  rcases hE with ⟨e, hE⟩ | ⟨e, hE⟩ | ⟨e, hE⟩
  · subst e; rw [if_pos rfl] at h; cases h; exact Or.inl ⟨rfl, hE⟩
  · subst e; rw [if_neg (by decide), if_pos rfl] at h; cases h; exact Or.inr (Or.inl ⟨rfl, hE⟩)
  · subst e; rw [if_neg (by decide), if_neg (by decide), if_pos rfl] at h; cases h; exact Or.inr (Or.inr ⟨rfl, hE⟩)
theorem tiw_n {β : Type} {x : Int32} {A : Option (Sum Int32 β)} {res : Sum Int32 β} (h : tiw x A = some res) (hx : tiF x) : A = some res := by
  unfold tiw at h
  rw [if_neg hx.1, if_neg hx.2.1, if_neg hx.2.2] at h
  exact h
theorem dX12_throwIfWrong_0 : decode cX12_throwIfWrong 0 = .ok (.iload_n 0, 1) := by decide +kernel
theorem dX12_throwIfWrong_1 : decode cX12_throwIfWrong 1 = .ok (.iconst 1, 1) := by decide +kernel
theorem dX12_throwIfWrong_2 : decode cX12_throwIfWrong 2 = .ok (.if_icmp .ne 14, 3) := by decide +kernel
theorem dX12_throwIfWrong_5 : decode cX12_throwIfWrong 5 = .ok (.new 312, 3) := by decide +kernel
theorem dX12_throwIfWrong_8 : decode cX12_throwIfWrong 8 = .ok (.dup, 1) := by decide +kernel
theorem dX12_throwIfWrong_9 : decode cX12_throwIfWrong 9 = .ok (.ldc_w 314, 3) := by decide +kernel
theorem dX12_throwIfWrong_12 : decode cX12_throwIfWrong 12 = .ok (.invokespecial 316, 3) := by decide +kernel
theorem dX12_throwIfWrong_15 : decode cX12_throwIfWrong 15 = .ok (.athrow, 1) := by decide +kernel
theorem dX12_throwIfWrong_16 : decode cX12_throwIfWrong 16 = .ok (.iload_n 0, 1) := by decide +kernel
theorem dX12_throwIfWrong_17 : decode cX12_throwIfWrong 17 = .ok (.iconst 2, 1) := by decide +kernel
theorem dX12_throwIfWrong_18 : decode cX12_throwIfWrong 18 = .ok (.if_icmp .ne 14, 3) := by decide +kernel
theorem dX12_throwIfWrong_21 : decode cX12_throwIfWrong 21 = .ok (.new 319, 3) := by decide +kernel
theorem dX12_throwIfWrong_24 : decode cX12_throwIfWrong 24 = .ok (.dup, 1) := by decide +kernel
theorem dX12_throwIfWrong_25 : decode cX12_throwIfWrong 25 = .ok (.ldc_w 321, 3) := by decide +kernel
theorem dX12_throwIfWrong_28 : decode cX12_throwIfWrong 28 = .ok (.invokespecial 323, 3) := by decide +kernel
theorem dX12_throwIfWrong_31 : decode cX12_throwIfWrong 31 = .ok (.athrow, 1) := by decide +kernel
theorem dX12_throwIfWrong_32 : decode cX12_throwIfWrong 32 = .ok (.iload_n 0, 1) := by decide +kernel
theorem dX12_throwIfWrong_33 : decode cX12_throwIfWrong 33 = .ok (.iconst 3, 1) := by decide +kernel
theorem dX12_throwIfWrong_34 : decode cX12_throwIfWrong 34 = .ok (.if_icmp .ne 14, 3) := by decide +kernel
theorem dX12_throwIfWrong_37 : decode cX12_throwIfWrong 37 = .ok (.new 324, 3) := by decide +kernel
theorem dX12_throwIfWrong_40 : decode cX12_throwIfWrong 40 = .ok (.dup, 1) := by decide +kernel
theorem dX12_throwIfWrong_41 : decode cX12_throwIfWrong 41 = .ok (.ldc_w 326, 3) := by decide +kernel
theorem dX12_throwIfWrong_44 : decode cX12_throwIfWrong 44 = .ok (.invokespecial 328, 3) := by decide +kernel
theorem dX12_throwIfWrong_47 : decode cX12_throwIfWrong 47 = .ok (.athrow, 1) := by decide +kernel
theorem dX12_throwIfWrong_48 : decode cX12_throwIfWrong 48 = .ok (.return_, 1) := by decide +kernel
theorem kX12_throwIfWrong {l : Launch} {Γ : Gl} {B : Bs} {G : Gf} {sz : Nat} {l0 : Int32} (htr : l.stackTraces = false) (hC : GC Γ B) : CtX l Γ yX12_throwIfWrong cX12_throwIfWrong 1 none 6 [.int l0] G sz (fun r G' sz' => tiF l0 ∧ r = none ∧ G' = G ∧ sz' = sz) (tiE l0) 1 6 := by
  refine CtX.of htr rfl (Nat.le_of_ble_eq_true rfl) fun X hx hr he hl hΓ hnm => ?_
  subst hl hΓ
  show J X 1 G sz 0 0 0 [some (.int l0)] []
  refine J_il4 hx rfl rfl dX12_throwIfWrong_0 ?_
  refine J_iconst hx (1 : Int32) dX12_throwIfWrong_1 rfl ?_
  refine J_icmp_ne hx 16 dX12_throwIfWrong_2 rfl (fun h1 => ?_) (fun h1 => ?_)
  · refine J_il4 hx rfl rfl dX12_throwIfWrong_16 ?_
    refine J_iconst hx (2 : Int32) dX12_throwIfWrong_17 rfl ?_
    refine J_icmp_ne hx 32 dX12_throwIfWrong_18 rfl (fun h2 => ?_) (fun h2 => ?_)
    · refine J_il4 hx rfl rfl dX12_throwIfWrong_32 ?_
      refine J_iconst hx (3 : Int32) dX12_throwIfWrong_33 rfl ?_
      refine J_icmp_ne hx 48 dX12_throwIfWrong_34 rfl (fun h3 => ?_) (fun h3 => ?_)
      · exact J_vret hx hr dX12_throwIfWrong_48 (Nat.zero_le _) (Nat.zero_le _) ⟨⟨h1, h2, h3⟩, rfl, rfl, rfl⟩
      · exact J_thr hx hC he (by decide +kernel) cl_X12_324 th_i3 (hx.kc hC).thr.2.2.1 th_g3 th_b3 th_o3 dX12_throwIfWrong_37 dX12_throwIfWrong_40 dX12_throwIfWrong_41 dX12_throwIfWrong_44 dX12_throwIfWrong_47 (by decide) (Nat.le_of_ble_eq_true rfl) (Nat.le_refl 1) (Nat.le_refl 6) (Or.inr (Or.inr ⟨h3, rfl⟩))
    · exact J_thr hx hC he (by decide +kernel) cl_X12_319 th_i2 (hx.kc hC).thr.2.1 th_g2 th_b2 th_o2 dX12_throwIfWrong_21 dX12_throwIfWrong_24 dX12_throwIfWrong_25 dX12_throwIfWrong_28 dX12_throwIfWrong_31 (by decide) (Nat.le_of_ble_eq_true rfl) (Nat.le_refl 1) (Nat.le_refl 6) (Or.inr (Or.inl ⟨h2, rfl⟩))
  · exact J_thr hx hC he (by decide +kernel) cl_X12_312 th_i1 (hx.kc hC).thr.1 th_g1 th_b1 th_o1 dX12_throwIfWrong_5 dX12_throwIfWrong_8 dX12_throwIfWrong_9 dX12_throwIfWrong_12 dX12_throwIfWrong_15 (by decide) (Nat.le_of_ble_eq_true rfl) (Nat.le_refl 1) (Nat.le_refl 6) (Or.inl ⟨h1, rfl⟩)
