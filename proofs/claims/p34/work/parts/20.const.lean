/-! THE CONSTANTS: ad d the word d (d < 9), ad 10 the table WORDS, ad 11 the map of the switches, ad (20 + d) the letters of word d, ad (30 + d) their bytes, ad 40 .. 42 the messages. Written by wip/whole/gen_const.py -/
def wnc (d : Nat) : Int32 := [1, 1, 2, 1, 2, 1, 2, 3, 1].getD d 0
def sbl (d : Nat) : List Int32 := [[111, 112, 101, 110], [99, 108, 111, 115, 101], [110, 101, 115, 116], [111, 117, 116], [112, 97, 99, 107], [117, 110, 112, 97, 99, 107], [115, 101, 110, 100], [101, 115, 99, 111, 114, 116], [119, 97, 105, 116]].getD d []
def slen (d : Nat) : Nat := (sbl d).length
def sby (d j : Nat) : Int32 := (sbl d).getD j 0
def smv (j : Nat) : Int32 := if j < 8 then Int32.ofNat (j + 1) else 0
def thN : List String := ["java/lang/RuntimeException", "java/lang/Exception"]
def thB : List Cond := [.castable "java/lang/IndexOutOfBoundsException" "java/lang/IndexOutOfBoundsException", .castable "java/lang/IllegalArgumentException" "java/lang/IllegalArgumentException", .castable "java/lang/IllegalStateException" "java/lang/IllegalStateException", .declares (Bundle.initS "java/lang/RuntimeException"), .declares (Bundle.initS "java/lang/Exception"), .declares (Bundle.initS Bundle.tN)]
/-- what is known of the constants at a state U, in the heap of the law's start -/
def KcU (Γ : Gl) (ad : Nat → Nat) (U : State) : Prop :=
  va_Z "CrateTour" "WORDS" "[LCrateTour$Word;" (.ref (ad 10)) (aA Γ) U Γ.2.2.1 ∧
  va_T (.object "CrateTour$Word") (ad 10) 9 (fun j => .ref (ad j)) (aA Γ) U Γ.2.2.1 ∧
  (∀ d, d < 9 → va_O "CrateTour$Word" (ad d) (aA Γ) U Γ.2.2.1 ∧ va_OF "java/lang/Enum" "ordinal" "I" (.int (Int32.ofNat d)) (ad d) (aA Γ) U Γ.2.2.1 ∧ va_OF "CrateTour$Word" "numberCount" "I" (.int (wnc d)) (ad d) (aA Γ) U Γ.2.2.1 ∧ va_OF "CrateTour$Word" "letters" "Ljava/lang/String;" (.ref (ad (20 + d))) (ad d) (aA Γ) U Γ.2.2.1) ∧
  va_Z "CrateTour$1" "$SwitchMap$CrateTour$Word" "[I" (.ref (ad 11)) (aA Γ) U Γ.2.2.1 ∧
  va_T .int (ad 11) 9 (fun j => .int (smv j)) (aA Γ) U Γ.2.2.1 ∧
  (∀ d, d < 9 → va_O "java/lang/String" (ad (20 + d)) (aA Γ) U Γ.2.2.1 ∧ va_OF "java/lang/String" "coder" "B" (.int 0) (ad (20 + d)) (aA Γ) U Γ.2.2.1 ∧ va_OF "java/lang/String" "value" "[B" (.ref (ad (30 + d))) (ad (20 + d)) (aA Γ) U Γ.2.2.1 ∧ va_T .byte (ad (30 + d)) (slen d) (fun j => .int (sby d j)) (aA Γ) U Γ.2.2.1) ∧
  va_Z "java/lang/String" "COMPACT_STRINGS" "Z" (.int 1) (aA Γ) U Γ.2.2.1 ∧
  va_Zq "jdk/internal/util/Preconditions" "SIOOBE_FORMATTER" "Ljava/util/function/BiFunction;" (aA Γ) U Γ.2.2.1 ∧
  va_Z "CrateTour$Word" "OPEN" "LCrateTour$Word;" (.ref (ad 0)) (aA Γ) U Γ.2.2.1 ∧
  va_Nw (.fieldLinkNest "CrateTour$CommandText" 57 "CrateTour" "WORDS" "[LCrateTour$Word;" "CrateTour") U ∧
  vk_R RX12 314 "there is nothing with this number" (ad 40) U ∧ vk_R RX12 321 "an argument is out of its range" (ad 41) U ∧ vk_R RX12 326 "this cannot be done as things stand" (ad 42) U ∧
  vx_Zq Bundle.tN "UNASSIGNED_STACK" Bundle.steD (aA Γ) U Γ.2.2.1 ∧ vx_Zq Bundle.tN "SUPPRESSED_SENTINEL" Bundle.listD (aA Γ) U Γ.2.2.1 ∧ (∀ w ∈ thB, va_Nw w U) ∧ va_Nc "java/lang/IllegalArgumentException" "java/lang/IndexOutOfBoundsException" U ∧ va_Nc "java/lang/IllegalStateException" "java/lang/IndexOutOfBoundsException" U ∧ va_Nc "java/lang/IllegalStateException" "java/lang/IllegalArgumentException" U
/-- the run knows its constants -/
def GC (Γ : Gl) (B : Bs) : Prop := ∀ U : State, Γ.2.2.2 U → KcU Γ B.2 U
theorem Fx.kc {X : Cx} {cc : ByteArray} {nL : Nat} {own : String} {t mc ms : Nat} {B : Bs} (hx : Fx X cc nL own t mc ms) (hC : GC (xΓ X) B) : KcU (xΓ X) B.2 (xs X) := hC _ hx.2.2.2.2.2.1.2.1
theorem KcU.z1 {Γ : Gl} {ad : Nat → Nat} {U : State} (h : KcU Γ ad U) : va_Z "CrateTour" "WORDS" "[LCrateTour$Word;" (.ref (ad 10)) (aA Γ) U Γ.2.2.1 := h.1
theorem KcU.t1 {Γ : Gl} {ad : Nat → Nat} {U : State} (h : KcU Γ ad U) : va_T (.object "CrateTour$Word") (ad 10) 9 (fun j => .ref (ad j)) (aA Γ) U Γ.2.2.1 := h.2.1
theorem KcU.wd {Γ : Gl} {ad : Nat → Nat} {U : State} (h : KcU Γ ad U) : ∀ d, d < 9 → va_O "CrateTour$Word" (ad d) (aA Γ) U Γ.2.2.1 ∧ va_OF "java/lang/Enum" "ordinal" "I" (.int (Int32.ofNat d)) (ad d) (aA Γ) U Γ.2.2.1 ∧ va_OF "CrateTour$Word" "numberCount" "I" (.int (wnc d)) (ad d) (aA Γ) U Γ.2.2.1 ∧ va_OF "CrateTour$Word" "letters" "Ljava/lang/String;" (.ref (ad (20 + d))) (ad d) (aA Γ) U Γ.2.2.1 := h.2.2.1
theorem KcU.z2 {Γ : Gl} {ad : Nat → Nat} {U : State} (h : KcU Γ ad U) : va_Z "CrateTour$1" "$SwitchMap$CrateTour$Word" "[I" (.ref (ad 11)) (aA Γ) U Γ.2.2.1 := h.2.2.2.1
theorem KcU.t2 {Γ : Gl} {ad : Nat → Nat} {U : State} (h : KcU Γ ad U) : va_T .int (ad 11) 9 (fun j => .int (smv j)) (aA Γ) U Γ.2.2.1 := h.2.2.2.2.1
theorem KcU.str {Γ : Gl} {ad : Nat → Nat} {U : State} (h : KcU Γ ad U) : ∀ d, d < 9 → va_O "java/lang/String" (ad (20 + d)) (aA Γ) U Γ.2.2.1 := fun d hd => (h.2.2.2.2.2.1 d hd).1
theorem KcU.nw {Γ : Gl} {ad : Nat → Nat} {U : State} (h : KcU Γ ad U) : va_Nw (.fieldLinkNest "CrateTour$CommandText" 57 "CrateTour" "WORDS" "[LCrateTour$Word;" "CrateTour") U := h.2.2.2.2.2.2.2.2.2.1
theorem KcU.thr {Γ : Gl} {ad : Nat → Nat} {U : State} (h : KcU Γ ad U) : vk_R RX12 314 "there is nothing with this number" (ad 40) U ∧ vk_R RX12 321 "an argument is out of its range" (ad 41) U ∧ vk_R RX12 326 "this cannot be done as things stand" (ad 42) U ∧ vx_Zq Bundle.tN "UNASSIGNED_STACK" Bundle.steD (aA Γ) U Γ.2.2.1 ∧ vx_Zq Bundle.tN "SUPPRESSED_SENTINEL" Bundle.listD (aA Γ) U Γ.2.2.1 ∧ ∀ w ∈ thB, va_Nw w U := ⟨h.2.2.2.2.2.2.2.2.2.2.1, h.2.2.2.2.2.2.2.2.2.2.2.1, h.2.2.2.2.2.2.2.2.2.2.2.2.1, h.2.2.2.2.2.2.2.2.2.2.2.2.2.1, h.2.2.2.2.2.2.2.2.2.2.2.2.2.2.1, h.2.2.2.2.2.2.2.2.2.2.2.2.2.2.2.1⟩
theorem KcU.nc {Γ : Gl} {ad : Nat → Nat} {U : State} (h : KcU Γ ad U) : va_Nc "java/lang/IllegalArgumentException" "java/lang/IndexOutOfBoundsException" U ∧ va_Nc "java/lang/IllegalStateException" "java/lang/IndexOutOfBoundsException" U ∧ va_Nc "java/lang/IllegalStateException" "java/lang/IllegalArgumentException" U := h.2.2.2.2.2.2.2.2.2.2.2.2.2.2.2.2
theorem Hp.old {Γ : Gl} {G : Gf} {sz : Nat} {H : Heap} (h : Hp Γ G sz H) : ∀ a : Nat, a < Γ.2.2.1.size → ¬ aA Γ a → H[a]? = Γ.2.2.1[a]? := fun a ha _ => h.2.2.1 a ha
section JK
variable {X : Cx} {cc : ByteArray} {nL : Nat} {own : String} {t mc ms : Nat} {G : Gf} {sz k n pc : Nat} {ls : List (Option Value)} {st : List Value} {B : Bs} {w : Wl}
theorem J_gets (hx : Fx X cc nL own t mc ms) {C nm d : String} {v : Value} {idx : Nat} (hZ : va_Z C nm d v (aA (xΓ X)) (xs X) (xΓ X).2.2.1) (hl : Cond.fieldLink own idx C nm d ∈ WT) (hd : decode cc pc = .ok (.getstatic idx, 3)) (kk : J X nL G sz k n (pc + 3) ls (v :: st)) : J X nL G sz k n pc ls st := fun H locs lsA hH hlc hv2 => by
  obtain ⟨cf, kf, fi, f, a, cell, h1, h2, h3, h4, h5, h6, h7, h8⟩ := hZ.kept hH.old
  exact W.gets hx.1 hx.2.1 hx.2.2.2.1 (hx.2.2.2.2.1 _ hl) h1 h2 h3 h4 h5 (fun e => by rw [e] at h6; cases h6) h7 rfl hd (kk H locs lsA hH hlc hv2)
theorem J_getsN (hx : Fx X cc nL own t mc ms) {C nm d host : String} {v : Value} {idx : Nat} (hZ : va_Z C nm d v (aA (xΓ X)) (xs X) (xΓ X).2.2.1) (hl : va_Nw (.fieldLinkNest own idx C nm d host) (xs X)) (hd : decode cc pc = .ok (.getstatic idx, 3)) (kk : J X nL G sz k n (pc + 3) ls (v :: st)) : J X nL G sz k n pc ls st := fun H locs lsA hH hlc hv2 => by
  obtain ⟨cf, kf, fi, f, a, cell, h1, h2, h3, h4, h5, h6, h7, h8⟩ := hZ.kept hH.old
  exact va_WgetsN hx.1 hx.2.1 hx.2.2.2.1 (va_Nw.use rfl hl) h1 h2 h3 h4 h5 (fun e => by rw [e] at h6; cases h6) h7 rfl hd (kk H locs lsA hH hlc hv2)
theorem J_getsq (hx : Fx X cc nL own t mc ms) {C nm d : String} {idx : Nat} (hZ : va_Zq C nm d (aA (xΓ X)) (xs X) (xΓ X).2.2.1) (hl : Cond.fieldLink own idx C nm d ∈ WT) (hd : decode cc pc = .ok (.getstatic idx, 3)) (kk : ∀ v : Value, (v = .null ∨ ∃ a, v = .ref a) → J X nL G sz k n (pc + 3) ls (v :: st)) : J X nL G sz k n pc ls st := by
  rcases hZ with h | ⟨a, h⟩
  · exact J_gets hx h hl hd (kk _ (Or.inl rfl))
  · exact J_gets hx h hl hd (kk _ (Or.inr ⟨a, rfl⟩))
theorem J_of (hx : Fx X cc nL own t mc ms) {o nm d : String} {v : Value} {q idx : Nat} (hF : va_OF o nm d v q (aA (xΓ X)) (xs X) (xΓ X).2.2.1) (hl : Cond.fieldLink own idx o nm d ∈ WT) (hd : decode cc pc = .ok (.getfield idx, 3)) (kk : J X nL G sz k n (pc + 3) ls (v :: st)) : J X nL G sz k n pc ls (.ref q :: st) := fun H locs lsA hH hlc hv2 => by
  obtain ⟨cf, kf, fi, f, cell, h1, h2, h3, h4, h5, h6⟩ := hF.kept hH.old
  exact W.getf hx.1 hx.2.1 hx.2.2.2.1 (hx.2.2.2.2.1 _ hl) h1 h2 h3 h4 h5 rfl rfl hd (kk H locs lsA hH hlc hv2)
theorem J_tlen (hx : Fx X cc nL own t mc ms) {ty : FieldType} {q N : Nat} {f : Nat → Value} (hT : va_T ty q N f (aA (xΓ X)) (xs X) (xΓ X).2.2.1) {v : Int32} (hv : Int32.ofNat N = v) (hd : decode cc pc = .ok (.arraylength, 1)) (kk : J X nL G sz k n (pc + 1) ls (.int v :: st)) : J X nL G sz k n pc ls (.ref q :: st) := fun H locs lsA hH hlc hv2 => by
  subst hv
  obtain ⟨cell, h1, h2, h3, h4, h5, h6, h7⟩ := hT.kept hH.old
  exact W.alen (n := Int32.ofNat N) hx.1 hx.2.1 h1 h2 h5 rfl rfl hd (kk H locs lsA hH hlc hv2)
theorem tin {N sz' c : Nat} {i : Int32} (hc : idx i N = some c) (h : N ≤ sz') : ¬ (i < 0 ∨ sz' ≤ i.toNatClampNeg) := fun q => by
  rcases q with q | q
  · exact idx_in hc (Or.inl q)
  · exact idx_in hc (Or.inr (Nat.le_trans h q))
theorem J_tiald (hx : Fx X cc nL own t mc ms) {q N c : Nat} {f : Nat → Value} (hT : va_T .int q N f (aA (xΓ X)) (xs X) (xΓ X).2.2.1) {i : Int32} (hc : idx i N = some c) (hd : decode cc pc = .ok (.iaload, 1)) (kk : J X nL G sz k n (pc + 1) ls (f c :: st)) : J X nL G sz k n pc ls (.int i :: .ref q :: st) := fun H locs lsA hH hlc hv2 => by
  obtain ⟨cell, h1, h2, h3, h4, h5, h6, h7⟩ := hT.kept hH.old
  exact W.iald (v := f c) hx.1 hx.2.1 h1 h2 h3 (tin hc h4) (by rw [idx_c hc]; exact h6 _ (idx_lt hc)) rfl rfl hd (kk H locs lsA hH hlc hv2)
theorem J_tbald (hx : Fx X cc nL own t mc ms) {q N c : Nat} {f : Nat → Value} (hT : va_T .byte q N f (aA (xΓ X)) (xs X) (xΓ X).2.2.1) {i : Int32} (hc : idx i N = some c) (hd : decode cc pc = .ok (.baload, 1)) (kk : J X nL G sz k n (pc + 1) ls (f c :: st)) : J X nL G sz k n pc ls (.int i :: .ref q :: st) := fun H locs lsA hH hlc hv2 => by
  obtain ⟨cell, h1, h2, h3, h4, h5, h6, h7⟩ := hT.kept hH.old
  exact W.bald (v := f c) hx.1 hx.2.1 h1 h2 h3 (tin hc h4) (by rw [idx_c hc]; exact h6 _ (idx_lt hc)) rfl rfl hd (kk H locs lsA hH hlc hv2)
theorem J_taald (hx : Fx X cc nL own t mc ms) {ty : FieldType} (href : ty.isReference = true) {q N c : Nat} {f : Nat → Value} (hT : va_T ty q N f (aA (xΓ X)) (xs X) (xΓ X).2.2.1) {i : Int32} (hc : idx i N = some c) (hd : decode cc pc = .ok (.aaload, 1)) (kk : J X nL G sz k n (pc + 1) ls (f c :: st)) : J X nL G sz k n pc ls (.int i :: .ref q :: st) := fun H locs lsA hH hlc hv2 => by
  obtain ⟨cell, h1, h2, h3, h4, h5, h6, h7⟩ := hT.kept hH.old
  exact W.aald (v := f c) (ty := ty) hx.1 hx.2.1 h1 h2 href h3 (tin hc h4) (by rw [idx_c hc]; exact h6 _ (idx_lt hc)) rfl rfl hd (kk H locs lsA hH hlc hv2)
theorem J_i2c (hx : Fx X cc nL own t mc ms) {x v : Int32} (hv : (x.toUInt32 % 65536).toInt32 = v) (hd : decode cc pc = .ok (.i2c, 1)) (kk : J X nL G sz k n (pc + 1) ls (.int v :: st)) : J X nL G sz k n pc ls (.int x :: st) :=
  fun H locs lsA hH hl hv2 => lv_i2c hx.1 hx.2.1 hd hv (kk H locs lsA hH hl hv2)
/-- a return of any small type -/
theorem J_tret (hx : Fx X cc nL own t mc ms) {ty : FieldType} {Ψ : Option Value → Gf → Nat → Prop} (hr : Rt X (some ty) mc ms Ψ) {v : Int32} (hd : decode cc pc = .ok (.ireturn, 1)) (hv : narrow ty (.int v) = .int v) (hk : k ≤ mc) (hn : n ≤ ms) (hq : Ψ (some (.int v)) G sz) : J X nL G sz k n pc ls [.int v] :=
  fun H locs lsA hH hl hv2 => W.widen hk hn (hr.2 _ _ _ (W.zret hx.1 hx.2.1 hr.1 hv (fun u hu _ => ⟨_, G, sz, rfl, hq, hu ▸ hH⟩) hl hd hx.2.2.2.2.2.2.2))
/-- a call of an instance method of a constant object -/
theorem J_callO (hx : Fx X cc nL own t mc ms) {idx : Nat} {y : MethodName} {bytes : ByteArray} {maxL : Nat} {ret : Option FieldType} {nA t' b : Nat} {As rest : List Value} {v : Value}
    (ct : CtR (xl X) (xΓ X) y bytes maxL ret t' (.ref b :: As) G sz v) (hml : Cond.methodLink own idx y ∈ WT) (hm : LkV y bytes maxL ret nA) (hO : va_O y.cls b (aA (xΓ X)) (xs X) (xΓ X).2.2.1)
    (hst : st = As.reverse ++ .ref b :: rest) (hn : As.length = nA) (ht : t' + 1 ≤ t) (hlo : 19 + maxL + 30 * t' ≤ 30 * t) (hw : (rest.map fun v => v.category).sum ≤ 8) (hk : k ≤ mc) (hs : n ≤ ms) (hd : decode cc pc = .ok (.invokevirtual idx, 3))
    (kk : J X nL G sz k n (pc + 3) ls (v :: rest)) : J X nL G sz k n pc ls st := by
  have hts := hx.2.2.2.2.1
  have hK := hx.2.2.2.2.2.1
  have hR := hx.2.2.2.2.2.2.1
  refine J_back (mc' := 0) (ms' := 0) (rest := rest) (Ψ := RdΨ v G sz) (Value.ref b :: As).toArray (fun H locs lsA hH hlc hv2 => ?_) (fun r G' sz' h => by obtain ⟨rfl, rfl, rfl⟩ := h; exact kk)
  refine va_runV (C := y.cls) (b := b) (As := As) (fix_of hx) ct ⟨callB_J hx hml hm.1 ht hlo, hts _ hm.2.1, hts _ hm.2.2⟩ ⟨Pc_blind, ?_, fun U hU hW => ⟨rfl, hK.warm hW, by rw [hU]; exact hH⟩⟩ rfl hn hv2.1 hst (by show 2 * 0 + _ ≤ 8; omega) hd (by rw [hR]; exact ⟨hk, hs⟩)
  obtain ⟨cell, h1, h2, h3, -⟩ := hO.kept hH.old
  exact ⟨cell, h1, h2, h3⟩
/-- a call of an inherited method of a constant object -/
theorem J_callU (hx : Fx X cc nL own t mc ms) {idx : Nat} {C : String} {x y : MethodName} {bytes : ByteArray} {maxL : Nat} {ret : Option FieldType} {nA t' b : Nat} {As rest : List Value} {v : Value}
    (ct : CtR (xl X) (xΓ X) y bytes maxL ret t' (.ref b :: As) G sz v) (hyx : y = ⟨y.cls, x.name, x.desc⟩) (hU : ∀ w ∈ va_wsU own idx C y.cls x y [], w ∈ WT) (hco : Cond.code y bytes maxL ret ∈ WT) (hdd : y.cls ≠ "java/lang/invoke/MethodHandle" ∧ y.cls ≠ "java/lang/invoke/VarHandle" ∧ (parseMethodDescriptor x.desc).map (fun d => d.parameters.length) = some nA) (hO : va_O C b (aA (xΓ X)) (xs X) (xΓ X).2.2.1)
    (hst : st = As.reverse ++ .ref b :: rest) (hn : As.length = nA) (ht : t' + 1 ≤ t) (hlo : 19 + maxL + 30 * t' ≤ 30 * t) (hw : (rest.map fun v => v.category).sum ≤ 8) (hk : k ≤ mc) (hs : n ≤ ms) (hd : decode cc pc = .ok (.invokevirtual idx, 3))
    (kk : J X nL G sz k n (pc + 3) ls (v :: rest)) : J X nL G sz k n pc ls st := by
  have hts := hx.2.2.2.2.1
  have hK := hx.2.2.2.2.2.1
  have hR := hx.2.2.2.2.2.2.1
  refine J_back (mc' := 0) (ms' := 0) (rest := rest) (Ψ := RdΨ v G sz) (Value.ref b :: As).toArray (fun H locs lsA hH hlc hv2 => ?_) (fun r G' sz' h => by obtain ⟨rfl, rfl, rfl⟩ := h; exact kk)
  have hG : GoodIn WT (va_wsU own idx C y.cls x y (wy y bytes maxL ret)) := fun w hw => by
    unfold va_wsU at hw
    rcases List.mem_append.mp hw with h | h
    · have := hU w (by unfold va_wsU; exact List.mem_append_left _ h)
      exact ⟨this, WT_good this⟩
    · exact wy_in hco w h
  refine va_runU (C := C) (owner := y.cls) (x := x) (b := b) (As := As) (fix_of hx) ct (va_cwU (rm := rmL t' 0 0) nA hts hG rfl rfl rfl hyx hdd (by rw [hR]; exact ⟨ht, by show 8 + (maxL + 11) + 30 * t' ≤ 30 * t; omega⟩)) ⟨Pc_blind, ?_, fun U hU hW => ⟨rfl, hK.warm hW, by rw [hU]; exact hH⟩⟩ rfl hn hv2.1 hst (by show 2 * 0 + _ ≤ 8; omega) hd (by rw [hR]; exact ⟨hk, hs⟩)
  obtain ⟨cell, h1, h2, h3, -⟩ := hO.kept hH.old
  exact ⟨cell, h1, h2, h3⟩
theorem gW2_4 (hx : Fx X cc nL own t mc ms) (hW : Wd (xΓ X) B w G) {q d : Nat} (hk : kd q = 17) {idx' : Nat} (hl : Cond.fieldLink own idx' (TX2 4).1 (TX2 4).2.1 (TX2 4).2.2.1 ∈ WT) (hdx : idx (w q 4) 9 = some d) (hd : decode cc pc = .ok (.getfield idx', 3)) (kk : J X nL G sz k n (pc + 3) ls (.ref (B.2 d) :: st)) : J X nL G sz k n pc ls (.ref (B.1 + q) :: st) := J_get hx clk_X2 4 (by decide) hl (hW.obj hk (by decide) (by decide)) (v := .ref (B.2 d)) (by show some (Value.ref (B.2 (w q 4).toNatClampNeg)) = _; rw [idx_c hdx]) hd kk
theorem pW2_4 (hx : Fx X cc nL own t mc ms) (hW : Wd (xΓ X) B w G) {q d : Nat} {v : Int32} (hk : kd q = 17) {idx' : Nat} (hl : Cond.fieldLink own idx' (TX2 4).1 (TX2 4).2.1 (TX2 4).2.2.1 ∈ WT) (hv : idx v 9 = some d) (hd : decode cc pc = .ok (.putfield idx', 3)) (kk : ∀ G', Wd (xΓ X) B (wst w q 4 v) G' → J X nL G' sz k n (pc + 3) ls st) : J X nL G sz k n pc ls (.ref (B.2 d) :: .ref (B.1 + q) :: st) := J_putW hx hW clk_X2 4 (by decide) hl rfl hk (hW.obj hk (by decide) (by decide)) (by decide : 4 < 6) rfl rfl ((ent_O (by decide)).trans (by simp [entO, upd, idx_c hv])) hd kk
end JK
theorem lk_J0_coder_7d493 : LkV yJ0_coder_7d493 cJ0_coder_7d493 1 (some .byte) 0 := ⟨⟨(wtm_2 220 (by decide +kernel) (by decide +kernel)), (wtm_1 22 (by decide +kernel) (by decide +kernel)), by decide +kernel, by decide +kernel, by decide +kernel⟩, (wtm_2 218 (by decide +kernel) (by decide +kernel)), (wtm_2 219 (by decide +kernel) (by decide +kernel))⟩
theorem lk_J0_length_8abf5 : LkV yJ0_length_8abf5 cJ0_length_8abf5 1 (some .int) 0 := ⟨⟨(wtm_2 216 (by decide +kernel) (by decide +kernel)), (wtm_1 22 (by decide +kernel) (by decide +kernel)), by decide +kernel, by decide +kernel, by decide +kernel⟩, (wtm_2 214 (by decide +kernel) (by decide +kernel)), (wtm_2 215 (by decide +kernel) (by decide +kernel))⟩
theorem lk_J0_isLatin1_aae02 : LkV yJ0_isLatin1_aae02 cJ0_isLatin1_aae02 1 (some .boolean) 0 := ⟨⟨(wtm_2 230 (by decide +kernel) (by decide +kernel)), (wtm_1 22 (by decide +kernel) (by decide +kernel)), by decide +kernel, by decide +kernel, by decide +kernel⟩, (wtm_2 228 (by decide +kernel) (by decide +kernel)), (wtm_2 229 (by decide +kernel) (by decide +kernel))⟩
theorem lk_J0_checkIndex_df160 : LkS yJ0_checkIndex_df160 cJ0_checkIndex_df160 2 none 2 := ⟨⟨(wtm_2 236 (by decide +kernel) (by decide +kernel)), (wtm_1 22 (by decide +kernel) (by decide +kernel)), by decide +kernel, by decide +kernel, by decide +kernel⟩, (wtm_2 235 (by decide +kernel) (by decide +kernel))⟩
theorem lk_J1_charAt_3b067 : LkS yJ1_charAt_3b067 cJ1_charAt_3b067 2 (some .char) 2 := ⟨⟨(wtm_2 233 (by decide +kernel) (by decide +kernel)), (wtm_1 23 (by decide +kernel) (by decide +kernel)), by decide +kernel, by decide +kernel, by decide +kernel⟩, (wtm_2 232 (by decide +kernel) (by decide +kernel))⟩
theorem lk_J0_charAt_5068e : LkV yJ0_charAt_5068e cJ0_charAt_5068e 2 (some .char) 1 := ⟨⟨(wtm_2 226 (by decide +kernel) (by decide +kernel)), (wtm_1 22 (by decide +kernel) (by decide +kernel)), by decide +kernel, by decide +kernel, by decide +kernel⟩, (wtm_2 224 (by decide +kernel) (by decide +kernel)), (wtm_2 225 (by decide +kernel) (by decide +kernel))⟩
theorem lk_J3_checkIndex_8e157 : LkS yJ3_checkIndex_8e157 cJ3_checkIndex_8e157 3 (some .int) 3 := ⟨⟨(wtm_3 1 (by decide +kernel) (by decide +kernel)), (wtm_1 24 (by decide +kernel) (by decide +kernel)), by decide +kernel, by decide +kernel, by decide +kernel⟩, (wtm_3 0 (by decide +kernel) (by decide +kernel))⟩
theorem mj_335 : Cond.methodLink RJ0 335 yJ0_coder_7d493 ∈ WT := (wtm_2 217 (by decide +kernel) (by decide +kernel))
theorem mj_492 : Cond.methodLink RJ0 492 yJ0_isLatin1_aae02 ∈ WT := (wtm_2 227 (by decide +kernel) (by decide +kernel))
theorem mj_495 : Cond.methodLink RJ0 495 yJ1_charAt_3b067 ∈ WT := (wtm_2 231 (by decide +kernel) (by decide +kernel))
theorem mj_1059 : Cond.methodLink RJ0 1059 yJ3_checkIndex_8e157 ∈ WT := (wtm_2 239 (by decide +kernel) (by decide +kernel))
theorem mj_9 : Cond.methodLink RJ1 9 yJ0_checkIndex_df160 ∈ WT := (wtm_2 234 (by decide +kernel) (by decide +kernel))
theorem mj_73 : Cond.methodLink RX2 73 yJ0_length_8abf5 ∈ WT := (wtm_2 213 (by decide +kernel) (by decide +kernel))
theorem mj_78 : Cond.methodLink RX2 78 yJ0_charAt_5068e ∈ WT := (wtm_2 223 (by decide +kernel) (by decide +kernel))
theorem fj_38 : Cond.fieldLink RJ0 38 "java/lang/String" "COMPACT_STRINGS" "Z" ∈ WT := (wtm_2 221 (by decide +kernel) (by decide +kernel))
theorem fj_1053 : Cond.fieldLink RJ0 1053 "jdk/internal/util/Preconditions" "SIOOBE_FORMATTER" "Ljava/util/function/BiFunction;" ∈ WT := (wtm_2 237 (by decide +kernel) (by decide +kernel))
theorem fj_9 : Cond.fieldLink RJ0 9 "java/lang/String" "value" "[B" ∈ WT := (wtm_6 162 (by decide +kernel) (by decide +kernel))
theorem fj_15 : Cond.fieldLink RJ0 15 "java/lang/String" "coder" "B" ∈ WT := (wtm_6 163 (by decide +kernel) (by decide +kernel))
