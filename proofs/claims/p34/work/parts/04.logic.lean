/-! THE LOGIC: contracts over one heap G (a partial map from addresses to what lies there), and a judgement J, a row an instruction. -/
/-- the fixed data of a run: class numbers, array classes, the heap at the law's start, what is known of constants -/
abbrev Gl : Type := va_G × (Nat → ClassId) × Heap × (State → Prop)
abbrev Gf : Type := Nat → Option va_E
def gTys (c : Nat → ClassId) : List (ClassId × FieldType) := [(c 0, .byte), (c 1, .int), (c 2, .int), (c 3, .object "CrateTour$Crate"), (c 4, .object "CrateTour$State"), (c 5, .object "CrateTour$Venue"), (c 6, .object "CrateTour$Work"), (c 7, .array .int)]
def aA (Γ : Gl) : Nat → Prop := fun q => Γ.2.2.1.size ≤ q
def Rp (Γ : Gl) (G : Gf) (H : Heap) : Prop := ∀ (a : Nat) (e : va_E), G a = some e → va_at Γ.1 vwCl (a, e) H ∧ aA Γ a
def Hp (Γ : Gl) (G : Gf) (sz : Nat) (H : Heap) : Prop := H.size = sz ∧ Γ.2.2.1.size ≤ H.size ∧ (∀ q : Nat, q < Γ.2.2.1.size → H[q]? = Γ.2.2.1[q]?) ∧ Rp Γ G H
def Clo (Γ : Gl) : Prop := (∀ s U : State, s.WarmedH U.vm → Γ.2.2.2 s → Γ.2.2.2 U) ∧ ∀ (U : State) (g : JFrame) (mk : MethodId) (a : Array Value), Γ.2.2.2 U → Γ.2.2.2 (U.calling g mk a)
def KV (Γ : Gl) (U : State) : Prop := va_K Γ.1 vwCl (gTys Γ.2.1) U ∧ Γ.2.2.2 U ∧ Clo Γ
def WT : List Cond := lw_tbl.filter goodWord
def wy (y : MethodName) (cc : ByteArray) (nL : Nat) (ret : Option FieldType) : List Cond := .code y cc nL ret :: WT
def rmL (t mc ms : Nat) : Room := { frames := t, cells := mc, slots := ms, locals := 30 * t }
def QcO (Γ : Gl) (Ψ : Option Value → Gf → Nat → Prop) : Array Value → State → Outcome → State → Prop := fun _ _ o t => ∃ (r : Option Value) (G' : Gf) (sz' : Nat), o = .returned r ∧ Ψ r G' sz' ∧ Hp Γ G' sz' t.heap
/-- a contract: from the heap G, of size sz, the method y called with av returns, with Ψ (answer, heap, size); t: how deep its own calls go -/
def Ct (l : Launch) (Γ : Gl) (y : MethodName) (cc : ByteArray) (nL : Nat) (ret : Option FieldType) (t : Nat) (av : List Value) (G : Gf) (sz : Nat) (Ψ : Option Value → Gf → Nat → Prop) (mc ms : Nat) : Prop :=
  Met l y (wy y cc nL ret) (rmL t mc ms) (va_Pc av (fun U => KV Γ U ∧ Hp Γ G sz U.heap)) (QcO Γ Ψ) mc ms (aA Γ)
def updG (G : Gf) (a : Nat) (e : va_E) : Gf := fun b => if b = a then some e else G b
theorem updG_self {G : Gf} {a : Nat} {e : va_E} : updG G a e a = some e := if_pos rfl
theorem updG_ne {G : Gf} {a b : Nat} {e : va_E} (h : b ≠ a) : updG G a e b = G b := if_neg h
/-- the frame that a method's body stands in -/
abbrev Cx : Type := Program × Launch × Env × Room × State × MethodId × Array Value × List Frame × Method × Code × (State → Prop) × Gl
abbrev xp (X : Cx) : Program := X.1
abbrev xl (X : Cx) : Launch := X.2.1
abbrev xe (X : Cx) : Env := X.2.2.1
abbrev xR (X : Cx) : Room := X.2.2.2.1
abbrev xs (X : Cx) : State := X.2.2.2.2.1
abbrev xm (X : Cx) : MethodId := X.2.2.2.2.2.1
abbrev xa (X : Cx) : Array Value := X.2.2.2.2.2.2.1
abbrev xb (X : Cx) : List Frame := X.2.2.2.2.2.2.2.1
abbrev xM (X : Cx) : Method := X.2.2.2.2.2.2.2.2.1
abbrev xc (X : Cx) : Code := X.2.2.2.2.2.2.2.2.2.1
abbrev xQ (X : Cx) : State → Prop := X.2.2.2.2.2.2.2.2.2.2.1
abbrev xΓ (X : Cx) : Gl := X.2.2.2.2.2.2.2.2.2.2.2
abbrev xW (X : Cx) (H : Heap) (locs : List Loc) (k n : Nat) (g : JFrame) : Prop := W (xp X) (xl X) (xe X) (xR X) (xs X) (xm X) (xa X) (xb X) (xM X) (xc X) H locs k n (xQ X) g
def lvO (lsA : Array Slot) (nL : Nat) (ls : List (Option Value)) : Prop := lsA.size = nL ∧ lv_wf lsA ∧ ∀ (i : Nat) (v : Value), ls[i]? = some (some v) → lsA[i]? = some (.val v)
def lo_l (ls : List (Option Value)) : List (Nat × Value) := (List.range ls.length).filterMap fun i => (ls[i]?).join.map fun v => (i, v)
theorem lo_mem {ls : List (Option Value)} {q : Nat × Value} : q ∈ lo_l ls ↔ ls[q.1]? = some (some q.2) := by
  unfold lo_l
  rw [List.mem_filterMap]
  constructor
  · rintro ⟨i, -, h⟩
    rw [Option.map_eq_some_iff] at h
    obtain ⟨v, h1, h2⟩ := h
    subst h2
    exact Option.join_eq_some_iff.mp h1
  · intro h
    refine ⟨q.1, List.mem_range.mpr (List.getElem?_eq_some_iff.mp h).1, ?_⟩
    rw [h]
    rfl
theorem lvO_has {lsA : Array Slot} {nL : Nat} {ls : List (Option Value)} (h : lvO lsA nL ls) : lv_has lsA nL (lo_l ls) := ⟨h.1, h.2.1, fun q hq => h.2.2 q.1 q.2 (lo_mem.mp hq)⟩
theorem lvO_st1 {ls' : Array Slot} {nL i : Nat} {v : Value} {ls : List (Option Value)} (h : lv_has ls' nL ((i, v) :: (lo_l ls).filter (fun q => !(q.1 == i) && !(q.1 + 1 == i && q.2.category == 2)))) (hc : ∀ w : Value, i ≠ 0 → ls[i - 1]? = some (some w) → w.category = 1) : lvO ls' nL (ls.set i (some v)) := by
  refine ⟨h.1, h.2.1, fun j w hj => ?_⟩
  by_cases e : j = i
  · subst e
    have hl : j < ls.length := by
      have := (List.getElem?_eq_some_iff.mp hj).1
      simpa using this
    rw [List.getElem?_set_self hl] at hj
    cases hj
    exact h.2.2 (j, v) List.mem_cons_self
  · rw [List.getElem?_set_ne (Ne.symm e)] at hj
    refine h.2.2 (j, w) (List.mem_cons_of_mem _ (List.mem_filter.mpr ⟨lo_mem.mpr hj, ?_⟩))
    simp only [Bool.and_eq_true, Bool.not_eq_true', beq_eq_false_iff_ne, ne_eq, Bool.and_eq_false_iff]
    refine ⟨e, ?_⟩
    by_cases e2 : j + 1 = i
    · right
      have hw := hc w (by omega) (by rw [show i - 1 = j by omega]; exact hj)
      rw [hw]; decide
    · exact Or.inl e2
theorem lvO_st2 {ls' : Array Slot} {nL i : Nat} {v : Value} {ls : List (Option Value)} (h : lv_has ls' nL ((i, v) :: (lo_l ls).filter (fun q => !(q.1 == i) && (!(q.1 == i + 1) && !(q.1 + 1 == i && q.2.category == 2))))) (hc : ∀ w : Value, i ≠ 0 → ls[i - 1]? = some (some w) → w.category = 1) : lvO ls' nL ((ls.set i (some v)).set (i + 1) none) := by
  refine ⟨h.1, h.2.1, fun j w hj => ?_⟩
  by_cases e1 : j = i + 1
  · subst e1
    by_cases hl : i + 1 < (ls.set i (some v)).length
    · rw [List.getElem?_set_self hl] at hj; cases hj
    · rw [List.getElem?_eq_none (by simpa using hl)] at hj; cases hj
  rw [List.getElem?_set_ne (Ne.symm e1)] at hj
  by_cases e : j = i
  · subst e
    have hl : j < ls.length := by
      have := (List.getElem?_eq_some_iff.mp hj).1
      simpa using this
    rw [List.getElem?_set_self hl] at hj
    cases hj
    exact h.2.2 (j, v) List.mem_cons_self
  · rw [List.getElem?_set_ne (Ne.symm e)] at hj
    refine h.2.2 (j, w) (List.mem_cons_of_mem _ (List.mem_filter.mpr ⟨lo_mem.mpr hj, ?_⟩))
    simp only [Bool.and_eq_true, Bool.not_eq_true', beq_eq_false_iff_ne, ne_eq, Bool.and_eq_false_iff]
    refine ⟨e, e1, ?_⟩
    by_cases e2 : j + 1 = i
    · right
      have hw := hc w (by omega) (by rw [show i - 1 = j by omega]; exact hj)
      rw [hw]; decide
    · exact Or.inl e2
def J (X : Cx) (nL : Nat) (G : Gf) (sz k n pc : Nat) (ls : List (Option Value)) (st : List Value) : Prop :=
  ∀ (H : Heap) (locs : List Loc) (lsA : Array Slot), Hp (xΓ X) G sz H → (∀ q ∈ locs, aA (xΓ X) q.base) → lvO lsA nL ls → xW X H locs k n (F0 (xm X) pc lsA st)
def Fx (X : Cx) (cc : ByteArray) (nL : Nat) (own : String) (t mc ms : Nat) : Prop :=
  (xp X).tables.exec = Jvm.exec ∧ (xc X).code = cc ∧ (xc X).maxLocals = nL ∧ (xs X).vm.findClass own = some (xm X).cls ∧ (∀ w ∈ WT, w.before (xa X) (xs X) = true) ∧ KV (xΓ X) (xs X) ∧ xR X = rmL t mc ms ∧ (xM X).locks = false
/-- how a method's body may end: what holds behind a return -/
def Rt (X : Cx) (ret : Option FieldType) (mc ms : Nat) (Ψ : Option Value → Gf → Nat → Prop) : Prop :=
  (xM X).sig.returnType = ret ∧ ∀ (H : Heap) (locs : List Loc) (g : JFrame), W (xp X) (xl X) (xe X) (xR X) (xs X) (xm X) (xa X) (xb X) (xM X) (xc X) H locs mc ms (MQ (xb X) (QcO (xΓ X) Ψ) (xa X) (xs X) mc ms (aA (xΓ X))) g → xW X H locs mc ms g
section JR
variable {X : Cx} {cc : ByteArray} {nL : Nat} {own : String} {t mc ms : Nat} {G : Gf} {sz k n pc : Nat} {ls : List (Option Value)} {st : List Value}
theorem J_iconst (hx : Fx X cc nL own t mc ms) {i : Int} (v : Int32) (hd : decode cc pc = .ok (.iconst i, 1)) (hv : Int32.ofInt i = v) (kk : J X nL G sz k n (pc + 1) ls (.int v :: st)) : J X nL G sz k n pc ls st :=
  fun H locs lsA hH hl hv2 => lv_iconst hx.1 hx.2.1 hd hv (kk H locs lsA hH hl hv2)
theorem J_bipush (hx : Fx X cc nL own t mc ms) {i : Int} (v : Int32) (hd : decode cc pc = .ok (.bipush i, 2)) (hv : (Int8.ofInt i).toInt32 = v) (kk : J X nL G sz k n (pc + 2) ls (.int v :: st)) : J X nL G sz k n pc ls st :=
  fun H locs lsA hH hl hv2 => lv_bipush hx.1 hx.2.1 hd hv (kk H locs lsA hH hl hv2)
theorem J_sipush (hx : Fx X cc nL own t mc ms) {i : Int} (v : Int32) (hd : decode cc pc = .ok (.sipush i, 3)) (hv : (Int16.ofInt i).toInt32 = v) (kk : J X nL G sz k n (pc + 3) ls (.int v :: st)) : J X nL G sz k n pc ls st :=
  fun H locs lsA hH hl hv2 => lv_sipush hx.1 hx.2.1 hd hv (kk H locs lsA hH hl hv2)
theorem J_lconst (hx : Fx X cc nL own t mc ms) {i : Fin 2} (v : Int64) (hd : decode cc pc = .ok (.lconst i, 1)) (hv : Int64.ofNat (i : Nat) = v) (kk : J X nL G sz k n (pc + 1) ls (.long v :: st)) : J X nL G sz k n pc ls st :=
  fun H locs lsA hH hl hv2 => lv_lconst hx.1 hx.2.1 hd hv (kk H locs lsA hH hl hv2)
theorem J_ldc (hx : Fx X cc nL own t mc ms) {i : Nat} {v : Int32} (hc : Cond.constant own i v ∈ WT) (hd : decode cc pc = .ok (.ldc i, 2)) (kk : J X nL G sz k n (pc + 2) ls (.int v :: st)) : J X nL G sz k n pc ls st :=
  fun H locs lsA hH hl hv2 => lv_ldc hx.1 hx.2.1 hx.2.2.2.1 (hx.2.2.2.2.1 _ hc) hd (kk H locs lsA hH hl hv2)
theorem J_ldcw (hx : Fx X cc nL own t mc ms) {i : Nat} {v : Int32} (hc : Cond.constant own i v ∈ WT) (hd : decode cc pc = .ok (.ldc_w i, 3)) (kk : J X nL G sz k n (pc + 3) ls (.int v :: st)) : J X nL G sz k n pc ls st :=
  fun H locs lsA hH hl hv2 => lv_ldcw hx.1 hx.2.1 hx.2.2.2.1 (hx.2.2.2.2.1 _ hc) hd (kk H locs lsA hH hl hv2)
theorem J_ldc2 (hx : Fx X cc nL own t mc ms) {i : Nat} {v : Int64} (hc : Cond.constantLong own i v ∈ WT) (hd : decode cc pc = .ok (.ldc2_w i, 3)) (kk : J X nL G sz k n (pc + 3) ls (.long v :: st)) : J X nL G sz k n pc ls st :=
  fun H locs lsA hH hl hv2 => lv_ldc2 hx.1 hx.2.1 hx.2.2.2.1 (hx.2.2.2.2.1 _ hc) hd (kk H locs lsA hH hl hv2)
-- locals, by their places
theorem J_il4 (hx : Fx X cc nL own t mc ms) {q : Fin 4} {i : Nat} {v : Int32} (hi : (q : Nat) = i) (hg : ls[i]? = some (some (.int v))) (hd : decode cc pc = .ok (.iload_n q, 1)) (kk : J X nL G sz k n (pc + 1) ls (.int v :: st)) : J X nL G sz k n pc ls st :=
  fun H locs lsA hH hl hv2 => lv_iload_n hx.1 hx.2.1 hd hi (hv2.2.2 _ _ hg) (kk H locs lsA hH hl hv2)
theorem J_il (hx : Fx X cc nL own t mc ms) {i : Nat} {v : Int32} (hg : ls[i]? = some (some (.int v))) (hd : decode cc pc = .ok (.iload i, 2)) (kk : J X nL G sz k n (pc + 2) ls (.int v :: st)) : J X nL G sz k n pc ls st :=
  fun H locs lsA hH hl hv2 => lv_iload hx.1 hx.2.1 hd (hv2.2.2 _ _ hg) (kk H locs lsA hH hl hv2)
theorem J_ll4 (hx : Fx X cc nL own t mc ms) {q : Fin 4} {i : Nat} {v : Int64} (hi : (q : Nat) = i) (hg : ls[i]? = some (some (.long v))) (hd : decode cc pc = .ok (.lload_n q, 1)) (kk : J X nL G sz k n (pc + 1) ls (.long v :: st)) : J X nL G sz k n pc ls st :=
  fun H locs lsA hH hl hv2 => lv_lload_n hx.1 hx.2.1 hd hi (hv2.2.2 _ _ hg) (kk H locs lsA hH hl hv2)
theorem J_ll (hx : Fx X cc nL own t mc ms) {i : Nat} {v : Int64} (hg : ls[i]? = some (some (.long v))) (hd : decode cc pc = .ok (.lload i, 2)) (kk : J X nL G sz k n (pc + 2) ls (.long v :: st)) : J X nL G sz k n pc ls st :=
  fun H locs lsA hH hl hv2 => lv_lload hx.1 hx.2.1 hd (hv2.2.2 _ _ hg) (kk H locs lsA hH hl hv2)
theorem J_al4 (hx : Fx X cc nL own t mc ms) {q : Fin 4} {i : Nat} {v : Nat} (hi : (q : Nat) = i) (hg : ls[i]? = some (some (.ref v))) (hd : decode cc pc = .ok (.aload_n q, 1)) (kk : J X nL G sz k n (pc + 1) ls (.ref v :: st)) : J X nL G sz k n pc ls st :=
  fun H locs lsA hH hl hv2 => lv_aload_n hx.1 hx.2.1 hd hi (hv2.2.2 _ _ hg) (kk H locs lsA hH hl hv2)
theorem J_al (hx : Fx X cc nL own t mc ms) {i : Nat} {v : Nat} (hg : ls[i]? = some (some (.ref v))) (hd : decode cc pc = .ok (.aload i, 2)) (kk : J X nL G sz k n (pc + 2) ls (.ref v :: st)) : J X nL G sz k n pc ls st :=
  fun H locs lsA hH hl hv2 => lv_aload hx.1 hx.2.1 hd (hv2.2.2 _ _ hg) (kk H locs lsA hH hl hv2)
theorem J_is4 (hx : Fx X cc nL own t mc ms) {q : Fin 4} {i : Nat} {v : Int32} {ls' : List (Option Value)} (hi : (q : Nat) = i) (hn : i < nL) (hc : ∀ w : Value, i ≠ 0 → ls[i - 1]? = some (some w) → w.category = 1) (e : ls.set i (some (.int v)) = ls') (hd : decode cc pc = .ok (.istore_n q, 1)) (kk : J X nL G sz k n (pc + 1) ls' st) : J X nL G sz k n pc ls (.int v :: st) :=
  fun H locs lsA hH hl hv2 => lv_istore_n hx.1 hx.2.1 hd hi (lvO_has hv2) hn rfl (fun ls2 h2 => kk H locs ls2 hH hl (e ▸ lvO_st1 h2 hc))
theorem J_is (hx : Fx X cc nL own t mc ms) {i : Nat} {v : Int32} {ls' : List (Option Value)} (hn : i < nL) (hc : ∀ w : Value, i ≠ 0 → ls[i - 1]? = some (some w) → w.category = 1) (e : ls.set i (some (.int v)) = ls') (hd : decode cc pc = .ok (.istore i, 2)) (kk : J X nL G sz k n (pc + 2) ls' st) : J X nL G sz k n pc ls (.int v :: st) :=
  fun H locs lsA hH hl hv2 => lv_istore hx.1 hx.2.1 hd (lvO_has hv2) hn rfl (fun ls2 h2 => kk H locs ls2 hH hl (e ▸ lvO_st1 h2 hc))
theorem J_as4 (hx : Fx X cc nL own t mc ms) {q : Fin 4} {i : Nat} {v : Nat} {ls' : List (Option Value)} (hi : (q : Nat) = i) (hn : i < nL) (hc : ∀ w : Value, i ≠ 0 → ls[i - 1]? = some (some w) → w.category = 1) (e : ls.set i (some (.ref v)) = ls') (hd : decode cc pc = .ok (.astore_n q, 1)) (kk : J X nL G sz k n (pc + 1) ls' st) : J X nL G sz k n pc ls (.ref v :: st) :=
  fun H locs lsA hH hl hv2 => lv_astore_n hx.1 hx.2.1 hd hi (lvO_has hv2) hn rfl (fun ls2 h2 => kk H locs ls2 hH hl (e ▸ lvO_st1 h2 hc))
theorem J_as (hx : Fx X cc nL own t mc ms) {i : Nat} {v : Nat} {ls' : List (Option Value)} (hn : i < nL) (hc : ∀ w : Value, i ≠ 0 → ls[i - 1]? = some (some w) → w.category = 1) (e : ls.set i (some (.ref v)) = ls') (hd : decode cc pc = .ok (.astore i, 2)) (kk : J X nL G sz k n (pc + 2) ls' st) : J X nL G sz k n pc ls (.ref v :: st) :=
  fun H locs lsA hH hl hv2 => lv_astore hx.1 hx.2.1 hd (lvO_has hv2) hn rfl (fun ls2 h2 => kk H locs ls2 hH hl (e ▸ lvO_st1 h2 hc))
theorem J_ls4 (hx : Fx X cc nL own t mc ms) {q : Fin 4} {i : Nat} {v : Int64} {ls' : List (Option Value)} (hi : (q : Nat) = i) (hn : i + 1 < nL) (hc : ∀ w : Value, i ≠ 0 → ls[i - 1]? = some (some w) → w.category = 1) (e : (ls.set i (some (.long v))).set (i + 1) none = ls') (hd : decode cc pc = .ok (.lstore_n q, 1)) (kk : J X nL G sz k n (pc + 1) ls' st) : J X nL G sz k n pc ls (.long v :: st) :=
  fun H locs lsA hH hl hv2 => lv_lstore_n hx.1 hx.2.1 hd hi (lvO_has hv2) hn rfl (fun ls2 h2 => kk H locs ls2 hH hl (e ▸ lvO_st2 h2 hc))
theorem J_iinc (hx : Fx X cc nL own t mc ms) {i : Nat} {d : Int} {v v' : Int32} {ls' : List (Option Value)} (hg : ls[i]? = some (some (.int v))) (hv' : v + Int32.ofInt d = v') (hn : i < nL) (hc : ∀ w : Value, i ≠ 0 → ls[i - 1]? = some (some w) → w.category = 1) (e : ls.set i (some (.int v')) = ls') (hd : decode cc pc = .ok (.iinc i d, 3)) (kk : J X nL G sz k n (pc + 3) ls' st) : J X nL G sz k n pc ls st := fun H locs lsA hH hl hv2 => by
  obtain ⟨kq, hkq⟩ := List.getElem?_of_mem (lo_mem.mpr hg : (i, Value.int v) ∈ lo_l ls)
  exact lv_iinc hx.1 hx.2.1 hd (lvO_has hv2) hkq hv' hn rfl (fun ls2 h2 => kk H locs ls2 hH hl (e ▸ lvO_st1 h2 hc))
-- arithmetic
theorem J_iadd (hx : Fx X cc nL own t mc ms) {x y : Int32} (hd : decode cc pc = .ok (.iadd, 1)) (kk : J X nL G sz k n (pc + 1) ls (.int (x + y) :: st)) : J X nL G sz k n pc ls (.int y :: .int x :: st) :=
  fun H locs lsA hH hl hv2 => lv_iadd hx.1 hx.2.1 hd (kk H locs lsA hH hl hv2)
theorem J_isub (hx : Fx X cc nL own t mc ms) {x y : Int32} (hd : decode cc pc = .ok (.isub, 1)) (kk : J X nL G sz k n (pc + 1) ls (.int (x - y) :: st)) : J X nL G sz k n pc ls (.int y :: .int x :: st) :=
  fun H locs lsA hH hl hv2 => lv_isub hx.1 hx.2.1 hd (kk H locs lsA hH hl hv2)
theorem J_imul (hx : Fx X cc nL own t mc ms) {x y : Int32} (hd : decode cc pc = .ok (.imul, 1)) (kk : J X nL G sz k n (pc + 1) ls (.int (x * y) :: st)) : J X nL G sz k n pc ls (.int y :: .int x :: st) :=
  fun H locs lsA hH hl hv2 => lv_imul hx.1 hx.2.1 hd (kk H locs lsA hH hl hv2)
theorem J_iand (hx : Fx X cc nL own t mc ms) {x y : Int32} (hd : decode cc pc = .ok (.iand, 1)) (kk : J X nL G sz k n (pc + 1) ls (.int (x &&& y) :: st)) : J X nL G sz k n pc ls (.int y :: .int x :: st) :=
  fun H locs lsA hH hl hv2 => lv_iand hx.1 hx.2.1 hd (kk H locs lsA hH hl hv2)
theorem J_idiv (hx : Fx X cc nL own t mc ms) {x y : Int32} (hne : ¬ y = 0) (hd : decode cc pc = .ok (.idiv, 1)) (kk : J X nL G sz k n (pc + 1) ls (.int (x / y) :: st)) : J X nL G sz k n pc ls (.int y :: .int x :: st) :=
  fun H locs lsA hH hl hv2 => lv_idiv hx.1 hx.2.1 hd hne (kk H locs lsA hH hl hv2)
theorem J_irem (hx : Fx X cc nL own t mc ms) {x y : Int32} (hne : ¬ y = 0) (hd : decode cc pc = .ok (.irem, 1)) (kk : J X nL G sz k n (pc + 1) ls (.int (x - (x / y) * y) :: st)) : J X nL G sz k n pc ls (.int y :: .int x :: st) :=
  fun H locs lsA hH hl hv2 => lv_irem hx.1 hx.2.1 hd hne (kk H locs lsA hH hl hv2)
theorem J_ineg (hx : Fx X cc nL own t mc ms) {x : Int32} (hd : decode cc pc = .ok (.ineg, 1)) (kk : J X nL G sz k n (pc + 1) ls (.int (-x) :: st)) : J X nL G sz k n pc ls (.int x :: st) :=
  fun H locs lsA hH hl hv2 => lv_ineg hx.1 hx.2.1 hd (kk H locs lsA hH hl hv2)
theorem J_ishr (hx : Fx X cc nL own t mc ms) {x y : Int32} (hd : decode cc pc = .ok (.ishr, 1)) (kk : J X nL G sz k n (pc + 1) ls (.int (x >>> (y &&& 31)) :: st)) : J X nL G sz k n pc ls (.int y :: .int x :: st) :=
  fun H locs lsA hH hl hv2 => lv_ishr hx.1 hx.2.1 hd (kk H locs lsA hH hl hv2)
theorem J_ladd (hx : Fx X cc nL own t mc ms) {x y : Int64} (hd : decode cc pc = .ok (.ladd, 1)) (kk : J X nL G sz k n (pc + 1) ls (.long (x + y) :: st)) : J X nL G sz k n pc ls (.long y :: .long x :: st) :=
  fun H locs lsA hH hl hv2 => lv_ladd hx.1 hx.2.1 hd (kk H locs lsA hH hl hv2)
theorem J_lsub (hx : Fx X cc nL own t mc ms) {x y : Int64} (hd : decode cc pc = .ok (.lsub, 1)) (kk : J X nL G sz k n (pc + 1) ls (.long (x - y) :: st)) : J X nL G sz k n pc ls (.long y :: .long x :: st) :=
  fun H locs lsA hH hl hv2 => lv_lsub hx.1 hx.2.1 hd (kk H locs lsA hH hl hv2)
theorem J_lmul (hx : Fx X cc nL own t mc ms) {x y : Int64} (hd : decode cc pc = .ok (.lmul, 1)) (kk : J X nL G sz k n (pc + 1) ls (.long (x * y) :: st)) : J X nL G sz k n pc ls (.long y :: .long x :: st) :=
  fun H locs lsA hH hl hv2 => lv_lmul hx.1 hx.2.1 hd (kk H locs lsA hH hl hv2)
theorem J_ldiv (hx : Fx X cc nL own t mc ms) {x y : Int64} (hne : ¬ y = 0) (hd : decode cc pc = .ok (.ldiv, 1)) (kk : J X nL G sz k n (pc + 1) ls (.long (x / y) :: st)) : J X nL G sz k n pc ls (.long y :: .long x :: st) :=
  fun H locs lsA hH hl hv2 => lv_ldiv hx.1 hx.2.1 hd hne (kk H locs lsA hH hl hv2)
theorem J_lcmp (hx : Fx X cc nL own t mc ms) {x y : Int64} (hd : decode cc pc = .ok (.lcmp, 1)) (kk : J X nL G sz k n (pc + 1) ls (.int (lg_cmp x y) :: st)) : J X nL G sz k n pc ls (.long y :: .long x :: st) :=
  fun H locs lsA hH hl hv2 => W.lcmp hx.1 hx.2.1 hd (kk H locs lsA hH hl hv2)
theorem J_i2l (hx : Fx X cc nL own t mc ms) {x : Int32} (hd : decode cc pc = .ok (.i2l, 1)) (kk : J X nL G sz k n (pc + 1) ls (.long x.toInt64 :: st)) : J X nL G sz k n pc ls (.int x :: st) :=
  fun H locs lsA hH hl hv2 => lv_i2l hx.1 hx.2.1 hd rfl (kk H locs lsA hH hl hv2)
theorem J_l2i (hx : Fx X cc nL own t mc ms) {x : Int64} (hd : decode cc pc = .ok (.l2i, 1)) (kk : J X nL G sz k n (pc + 1) ls (.int x.toInt32 :: st)) : J X nL G sz k n pc ls (.long x :: st) :=
  fun H locs lsA hH hl hv2 => lv_l2i hx.1 hx.2.1 hd rfl (kk H locs lsA hH hl hv2)
theorem J_i2b (hx : Fx X cc nL own t mc ms) {x : Int32} (hd : decode cc pc = .ok (.i2b, 1)) (kk : J X nL G sz k n (pc + 1) ls (.int x.toInt8.toInt32 :: st)) : J X nL G sz k n pc ls (.int x :: st) :=
  fun H locs lsA hH hl hv2 => lv_i2b hx.1 hx.2.1 hd rfl (kk H locs lsA hH hl hv2)
theorem J_dup (hx : Fx X cc nL own t mc ms) {v : Value} (hd : decode cc pc = .ok (.dup, 1)) (kk : J X nL G sz k n (pc + 1) ls (v :: v :: st)) (hc : v.category = 1 := by rfl) : J X nL G sz k n pc ls (v :: st) :=
  fun H locs lsA hH hl hv2 => lv_dup hx.1 hx.2.1 hd hc (kk H locs lsA hH hl hv2)
theorem J_pop (hx : Fx X cc nL own t mc ms) {v : Value} (hd : decode cc pc = .ok (.pop, 1)) (kk : J X nL G sz k n (pc + 1) ls st) (hc : v.category = 1 := by rfl) : J X nL G sz k n pc ls (v :: st) :=
  fun H locs lsA hH hl hv2 => lv_pop hx.1 hx.2.1 hd hc (kk H locs lsA hH hl hv2)
theorem J_dup2 (hx : Fx X cc nL own t mc ms) {v w : Value} (hd : decode cc pc = .ok (.dup2, 1)) (kk : J X nL G sz k n (pc + 1) ls (v :: w :: v :: w :: st)) (hc : v.category = 1 := by rfl) (hc2 : w.category = 1 := by rfl) : J X nL G sz k n pc ls (v :: w :: st) :=
  fun H locs lsA hH hl hv2 => lv_dup2_11 hx.1 hx.2.1 hd hc hc2 (kk H locs lsA hH hl hv2)
theorem J_goto (hx : Fx X cc nL own t mc ms) {off : Int} (tgt : Nat) (hd : decode cc pc = .ok (.goto off, 3)) (ht : (pc : Int) + off = (tgt : Int)) (kk : J X nL G sz k n tgt ls st) : J X nL G sz k n pc ls st :=
  fun H locs lsA hH hl hv2 => lv_goto hx.1 hx.2.1 hd ht (kk H locs lsA hH hl hv2)
theorem J_if_eq (hx : Fx X cc nL own t mc ms) {x : Int32} {off : Int} (tgt : Nat) (hd : decode cc pc = .ok (.ifCond .eq off, 3)) (ht : (pc : Int) + off = (tgt : Int)) (kt : x = 0 → J X nL G sz k n tgt ls st) (kf : ¬ x = 0 → J X nL G sz k n (pc + 3) ls st) : J X nL G sz k n pc ls (.int x :: st) :=
  fun H locs lsA hH hl hv2 => lv_if_eq hx.1 hx.2.1 hd ht (fun h => kt h H locs lsA hH hl hv2) (fun h => kf h H locs lsA hH hl hv2)
theorem J_icmp_eq (hx : Fx X cc nL own t mc ms) {x y : Int32} {off : Int} (tgt : Nat) (hd : decode cc pc = .ok (.if_icmp .eq off, 3)) (ht : (pc : Int) + off = (tgt : Int)) (kt : x = y → J X nL G sz k n tgt ls st) (kf : ¬ x = y → J X nL G sz k n (pc + 3) ls st) : J X nL G sz k n pc ls (.int y :: .int x :: st) :=
  fun H locs lsA hH hl hv2 => lv_icmp_eq hx.1 hx.2.1 hd ht (fun h => kt h H locs lsA hH hl hv2) (fun h => kf h H locs lsA hH hl hv2)
theorem J_if_ne (hx : Fx X cc nL own t mc ms) {x : Int32} {off : Int} (tgt : Nat) (hd : decode cc pc = .ok (.ifCond .ne off, 3)) (ht : (pc : Int) + off = (tgt : Int)) (kt : ¬ x = 0 → J X nL G sz k n tgt ls st) (kf : x = 0 → J X nL G sz k n (pc + 3) ls st) : J X nL G sz k n pc ls (.int x :: st) :=
  fun H locs lsA hH hl hv2 => lv_if_ne hx.1 hx.2.1 hd ht (fun h => kt h H locs lsA hH hl hv2) (fun h => kf h H locs lsA hH hl hv2)
theorem J_icmp_ne (hx : Fx X cc nL own t mc ms) {x y : Int32} {off : Int} (tgt : Nat) (hd : decode cc pc = .ok (.if_icmp .ne off, 3)) (ht : (pc : Int) + off = (tgt : Int)) (kt : ¬ x = y → J X nL G sz k n tgt ls st) (kf : x = y → J X nL G sz k n (pc + 3) ls st) : J X nL G sz k n pc ls (.int y :: .int x :: st) :=
  fun H locs lsA hH hl hv2 => lv_icmp_ne hx.1 hx.2.1 hd ht (fun h => kt h H locs lsA hH hl hv2) (fun h => kf h H locs lsA hH hl hv2)
theorem J_if_lt (hx : Fx X cc nL own t mc ms) {x : Int32} {off : Int} (tgt : Nat) (hd : decode cc pc = .ok (.ifCond .lt off, 3)) (ht : (pc : Int) + off = (tgt : Int)) (kt : x < 0 → J X nL G sz k n tgt ls st) (kf : ¬ x < 0 → J X nL G sz k n (pc + 3) ls st) : J X nL G sz k n pc ls (.int x :: st) :=
  fun H locs lsA hH hl hv2 => lv_if_lt hx.1 hx.2.1 hd ht (fun h => kt h H locs lsA hH hl hv2) (fun h => kf h H locs lsA hH hl hv2)
theorem J_icmp_lt (hx : Fx X cc nL own t mc ms) {x y : Int32} {off : Int} (tgt : Nat) (hd : decode cc pc = .ok (.if_icmp .lt off, 3)) (ht : (pc : Int) + off = (tgt : Int)) (kt : x < y → J X nL G sz k n tgt ls st) (kf : ¬ x < y → J X nL G sz k n (pc + 3) ls st) : J X nL G sz k n pc ls (.int y :: .int x :: st) :=
  fun H locs lsA hH hl hv2 => lv_icmp_lt hx.1 hx.2.1 hd ht (fun h => kt h H locs lsA hH hl hv2) (fun h => kf h H locs lsA hH hl hv2)
theorem J_if_ge (hx : Fx X cc nL own t mc ms) {x : Int32} {off : Int} (tgt : Nat) (hd : decode cc pc = .ok (.ifCond .ge off, 3)) (ht : (pc : Int) + off = (tgt : Int)) (kt : 0 ≤ x → J X nL G sz k n tgt ls st) (kf : ¬ 0 ≤ x → J X nL G sz k n (pc + 3) ls st) : J X nL G sz k n pc ls (.int x :: st) :=
  fun H locs lsA hH hl hv2 => lv_if_ge hx.1 hx.2.1 hd ht (fun h => kt h H locs lsA hH hl hv2) (fun h => kf h H locs lsA hH hl hv2)
theorem J_icmp_ge (hx : Fx X cc nL own t mc ms) {x y : Int32} {off : Int} (tgt : Nat) (hd : decode cc pc = .ok (.if_icmp .ge off, 3)) (ht : (pc : Int) + off = (tgt : Int)) (kt : y ≤ x → J X nL G sz k n tgt ls st) (kf : ¬ y ≤ x → J X nL G sz k n (pc + 3) ls st) : J X nL G sz k n pc ls (.int y :: .int x :: st) :=
  fun H locs lsA hH hl hv2 => lv_icmp_ge hx.1 hx.2.1 hd ht (fun h => kt h H locs lsA hH hl hv2) (fun h => kf h H locs lsA hH hl hv2)
theorem J_if_gt (hx : Fx X cc nL own t mc ms) {x : Int32} {off : Int} (tgt : Nat) (hd : decode cc pc = .ok (.ifCond .gt off, 3)) (ht : (pc : Int) + off = (tgt : Int)) (kt : 0 < x → J X nL G sz k n tgt ls st) (kf : ¬ 0 < x → J X nL G sz k n (pc + 3) ls st) : J X nL G sz k n pc ls (.int x :: st) :=
  fun H locs lsA hH hl hv2 => lv_if_gt hx.1 hx.2.1 hd ht (fun h => kt h H locs lsA hH hl hv2) (fun h => kf h H locs lsA hH hl hv2)
theorem J_icmp_gt (hx : Fx X cc nL own t mc ms) {x y : Int32} {off : Int} (tgt : Nat) (hd : decode cc pc = .ok (.if_icmp .gt off, 3)) (ht : (pc : Int) + off = (tgt : Int)) (kt : y < x → J X nL G sz k n tgt ls st) (kf : ¬ y < x → J X nL G sz k n (pc + 3) ls st) : J X nL G sz k n pc ls (.int y :: .int x :: st) :=
  fun H locs lsA hH hl hv2 => lv_icmp_gt hx.1 hx.2.1 hd ht (fun h => kt h H locs lsA hH hl hv2) (fun h => kf h H locs lsA hH hl hv2)
theorem J_if_le (hx : Fx X cc nL own t mc ms) {x : Int32} {off : Int} (tgt : Nat) (hd : decode cc pc = .ok (.ifCond .le off, 3)) (ht : (pc : Int) + off = (tgt : Int)) (kt : x ≤ 0 → J X nL G sz k n tgt ls st) (kf : ¬ x ≤ 0 → J X nL G sz k n (pc + 3) ls st) : J X nL G sz k n pc ls (.int x :: st) :=
  fun H locs lsA hH hl hv2 => lv_if_le hx.1 hx.2.1 hd ht (fun h => kt h H locs lsA hH hl hv2) (fun h => kf h H locs lsA hH hl hv2)
theorem J_icmp_le (hx : Fx X cc nL own t mc ms) {x y : Int32} {off : Int} (tgt : Nat) (hd : decode cc pc = .ok (.if_icmp .le off, 3)) (ht : (pc : Int) + off = (tgt : Int)) (kt : x ≤ y → J X nL G sz k n tgt ls st) (kf : ¬ x ≤ y → J X nL G sz k n (pc + 3) ls st) : J X nL G sz k n pc ls (.int y :: .int x :: st) :=
  fun H locs lsA hH hl hv2 => lv_icmp_le hx.1 hx.2.1 hd ht (fun h => kt h H locs lsA hH hl hv2) (fun h => kf h H locs lsA hH hl hv2)
theorem J_swOut (hx : Fx X cc nL own t mc ms) {dflt lo hi : Int} {offs : Array Int} {len : Nat} {x : Int32} (tgt : Nat) (hd : decode cc pc = .ok (.tableswitch dflt lo hi offs, len)) (h : x.toInt < lo ∨ hi < x.toInt) (ht : (pc : Int) + dflt = (tgt : Int)) (kk : J X nL G sz k n tgt ls st) : J X nL G sz k n pc ls (.int x :: st) :=
  fun H locs lsA hH hl hv2 => lv_tableOut hx.1 hx.2.1 hd h ht (kk H locs lsA hH hl hv2)
theorem J_swIn (hx : Fx X cc nL own t mc ms) {dflt lo hi : Int} {offs : Array Int} {len : Nat} {x : Int32} {off : Int} (tgt : Nat) (hd : decode cc pc = .ok (.tableswitch dflt lo hi offs, len)) (h1 : ¬ x.toInt < lo) (h2 : ¬ hi < x.toInt) (ho : offs[(x.toInt - lo).toNat]? = some off) (ht : (pc : Int) + off = (tgt : Int)) (kk : J X nL G sz k n tgt ls st) : J X nL G sz k n pc ls (.int x :: st) :=
  fun H locs lsA hH hl hv2 => lv_tableIn hx.1 hx.2.1 hd h1 h2 ho ht (kk H locs lsA hH hl hv2)
-- ends
theorem J_iret (hx : Fx X cc nL own t mc ms) {Ψ : Option Value → Gf → Nat → Prop} (hr : Rt X (some .int) mc ms Ψ) {v : Int32} (hd : decode cc pc = .ok (.ireturn, 1)) (hk : k ≤ mc) (hn : n ≤ ms) (hq : Ψ (some (.int v)) G sz) : J X nL G sz k n pc ls [.int v] :=
  fun H locs lsA hH hl hv2 => W.widen hk hn (hr.2 _ _ _ (W.iret hx.1 hx.2.1 hr.1 (fun u hu _ => ⟨_, G, sz, rfl, hq, hu ▸ hH⟩) hl hd hx.2.2.2.2.2.2.2))
theorem J_zret (hx : Fx X cc nL own t mc ms) {Ψ : Option Value → Gf → Nat → Prop} (hr : Rt X (some .boolean) mc ms Ψ) {v : Int32} (hd : decode cc pc = .ok (.ireturn, 1)) (hv : narrow .boolean (.int v) = .int v) (hk : k ≤ mc) (hn : n ≤ ms) (hq : Ψ (some (.int v)) G sz) : J X nL G sz k n pc ls [.int v] :=
  fun H locs lsA hH hl hv2 => W.widen hk hn (hr.2 _ _ _ (W.zret hx.1 hx.2.1 hr.1 hv (fun u hu _ => ⟨_, G, sz, rfl, hq, hu ▸ hH⟩) hl hd hx.2.2.2.2.2.2.2))
theorem J_vret (hx : Fx X cc nL own t mc ms) {Ψ : Option Value → Gf → Nat → Prop} (hr : Rt X none mc ms Ψ) (hd : decode cc pc = .ok (.return_, 1)) (hk : k ≤ mc) (hn : n ≤ ms) (hq : Ψ none G sz) : J X nL G sz k n pc ls [] :=
  fun H locs lsA hH hl hv2 => W.widen hk hn (hr.2 _ _ _ (W.vret hx.1 hx.2.1 hr.1 (fun u hu _ => ⟨_, G, sz, rfl, hq, hu ▸ hH⟩) hl hd hx.2.2.2.2.2.2.2))
end JR
/-- the locals at a method's entry -/
def initO : List Value → Nat → List (Option Value)
  | [], nL => List.replicate nL none
  | v :: vs, nL => if v.category = 2 then some v :: none :: initO vs (nL - 2) else some v :: initO vs (nL - 1)
theorem initO_get : ∀ (vs : List Value) (nL i b : Nat) (v : Value), (initO vs nL)[i]? = some (some v) → (b + i, v) ∈ lv_args b vs
  | [], nL, i, b, v, h => by
    simp only [initO] at h
    rw [List.getElem?_replicate] at h
    split at h <;> cases h
  | w :: vs, nL, i, b, v, h => by
    simp only [initO] at h
    simp only [lv_args]
    split at h
    next hc =>
      rw [if_pos hc]
      match i, h with
      | 0, h => cases h; exact List.mem_cons_self
      | 1, h => cases h
      | i + 2, h =>
        have := initO_get vs (nL - 2) i (b + 2) v h
        rw [show b + (i + 2) = b + 2 + i by omega]
        exact List.mem_cons_of_mem _ this
    next hc =>
      rw [if_neg hc]
      match i, h with
      | 0, h => cases h; exact List.mem_cons_self
      | i + 1, h =>
        have := initO_get vs (nL - 1) i (b + 1) v h
        rw [show b + (i + 1) = b + 1 + i by omega]
        exact List.mem_cons_of_mem _ this
theorem wy_WT {y : MethodName} {cc : ByteArray} {nL : Nat} {ret : Option FieldType} {args : Array Value} {s : State} (h : ∀ w ∈ wy y cc nL ret, w.before args s = true) : ∀ w ∈ WT, w.before args s = true := fun w hw => h w (List.mem_cons_of_mem _ hw)
/-- A CONTRACT OUT OF THE BODY'S WALK -/
theorem Ct.of {l : Launch} {Γ : Gl} {y : MethodName} {cc : ByteArray} {nL : Nat} {ret : Option FieldType} {t : Nat} {av : List Value} {G : Gf} {sz : Nat} {Ψ : Option Value → Gf → Nat → Prop} {mc ms : Nat} (hy : plainName y.cls = true) (hlen : (lg_sl av).length ≤ nL)
    (body : ∀ X : Cx, Fx X cc nL y.cls t mc ms → Rt X ret mc ms Ψ → xl X = l → xΓ X = Γ → (xM X).name = y.name → J X nL G sz 0 0 0 (initO av nL) []) : Ct l Γ y cc nL ret t av G sz Ψ mc ms := by
  refine Met.ofW (cc := cc) (maxL := nL) (ret := ret) hy rfl ?_
  intro p e s m args below meth c s₁ B hml hv
  obtain ⟨rfl, hK, hH⟩ := hv
  have hts := atoms_spec (ws := wy y cc nL ret) B.pre
  have hown : s.vm.findClass y.cls = some m.cls := findClass_of_methodNamed B.named
  have hin : meth.name = y.name := (name_of_methodNamed B.named B.method).1
  have hl := lv_entry av (n := nL) hlen
  have key := body (p, l, e, rmL t mc ms, s, m, av.toArray, below, meth, c, MQ below (QcO Γ Ψ) av.toArray s mc ms (aA Γ), Γ) ⟨B.exec, B.bytes, hml, hown, wy_WT hts, hK, rfl, B.notSynchronized⟩ ⟨B.returns, fun H locs g h => h⟩ rfl rfl hin s.heap [] _ hH (fun q hq => nomatch hq) ⟨hl.1, hl.2.1, fun i v h => hl.2.2 (i, v) (by have := initO_get av nL i 0 v h; rwa [Nat.zero_add] at this)⟩
  rw [lg_entry_eq]
  exact key
