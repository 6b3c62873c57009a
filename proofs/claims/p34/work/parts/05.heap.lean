/-! THE LOGIC, heap and calls -/
def ClOk (ci : Nat) (C : String) (T : u_T) (N : Nat) (ty : Nat → FieldType) : Prop := vwCl[ci]? = some (C, T, N) ∧ (∀ w ∈ u_ws C T N, w ∈ WT) ∧ (∀ k, k < N → parseFieldDescriptor (T k).2.2.1 = some (ty k)) ∧ ∀ a, a < N → ∀ b, b < N → a ≠ b → (T a).2.1 ≠ (T b).2.1
theorem va_P1 {D : va_G} {cl : List vw_C} {a : Nat} {e : va_E} {H : Heap} (h : va_at D cl (a, e) H) : va_P D cl [(a, e)] H := fun k q hk => by
  match k, hk with
  | 0, hk => cases hk; exact h
  | k + 1, hk => simp at hk
theorem Rp.lt {Γ : Gl} {G : Gf} {H : Heap} (h : Rp Γ G H) {a : Nat} {e : va_E} (he : G a = some e) : a < H.size := va_at.lt (h a e he).1
theorem Hp.put {Γ : Gl} {G : Gf} {sz : Nat} {H H1 : Heap} (h : Hp Γ G sz H) {a : Nat} {e0 e : va_E} (hG : G a = some e0) (he : va_at Γ.1 vwCl (a, e) H1) (z : H1.size = H.size) (oq : ∀ q : Nat, q ≠ a → H1[q]? = H[q]?) : Hp Γ (updG G a e) sz H1 := by
  obtain ⟨h1, h2, h3, h4⟩ := h
  have ha := (h4 a e0 hG).2
  refine ⟨z.trans h1, by rw [z]; exact h2, fun q hq => ?_, fun b e' hb => ?_⟩
  · rw [oq q (fun e => by subst e; exact absurd hq (Nat.not_lt.mpr ha))]
    exact h3 q hq
  · by_cases hba : b = a
    · subst hba
      rw [updG_self] at hb
      cases hb
      exact ⟨he, ha⟩
    · rw [updG_ne hba] at hb
      exact ⟨(h4 b e' hb).1.kept (oq b hba), (h4 b e' hb).2⟩
theorem Hp.push {Γ : Gl} {G : Gf} {sz : Nat} {H H1 : Heap} (h : Hp Γ G sz H) {e : va_E} (he : va_at Γ.1 vwCl (sz, e) H1) (z : H1.size = sz + 1) (oq : ∀ q : Nat, q < sz → H1[q]? = H[q]?) : Hp Γ (updG G sz e) (sz + 1) H1 := by
  obtain ⟨h1, h2, h3, h4⟩ := h
  subst h1
  refine ⟨z, by omega, fun q hq => (oq q (Nat.lt_of_lt_of_le hq h2)).trans (h3 q hq), fun b e' hb => ?_⟩
  by_cases hba : b = H.size
  · subst hba
    rw [updG_self] at hb
    cases hb
    exact ⟨he, h2⟩
  · rw [updG_ne hba] at hb
    have hlt := h4.lt hb
    exact ⟨(h4 b e' hb).1.kept (oq b hlt), (h4 b e' hb).2⟩
theorem Hp.fresh {Γ : Gl} {G : Gf} {sz : Nat} {H : Heap} (h : Hp Γ G sz H) {a : Nat} (ha : sz ≤ a) : G a = none := by
  cases hg : G a with
  | none => rfl
  | some e =>
    have := h.2.2.2.lt hg
    have := h.1
    omega
section JH
variable {X : Cx} {cc : ByteArray} {nL : Nat} {own : String} {t mc ms : Nat} {G : Gf} {sz k n pc : Nat} {ls : List (Option Value)} {st : List Value}
theorem J_get (hx : Fx X cc nL own t mc ms) {ci : Nat} {C : String} {T : u_T} {N : Nat} {ty : Nat → FieldType} (hC : ClOk ci C T N ty) (kf : Nat) (hk : kf < N) {idx : Nat} (hl : Cond.fieldLink own idx (T kf).1 (T kf).2.1 (T kf).2.2.1 ∈ WT) {a : Nat} {fs : List Value} (hG : G a = some (.inr (ci, fs))) {v : Value} (hv : fs[kf]? = some v) (hd : decode cc pc = .ok (.getfield idx, 3)) (kk : J X nL G sz k n (pc + 3) ls (v :: st)) : J X nL G sz k n pc ls (.ref a :: st) :=
  fun H locs lsA hH hlc hv2 => va_get hx.1 hx.2.1 (ws := [(a, .inr (ci, fs))]) hx.2.2.2.2.1 hC.2.1 hx.2.2.2.1 hx.2.2.2.2.2.1.1 (va_P1 (hH.2.2.2 a _ hG).1) 0 rfl hC.1 kf hk (hx.2.2.2.2.1 _ hl) (fun _ h => h) hv hd (kk H locs lsA hH hlc hv2)
theorem locs_put {Γ : Gl} {locs : List Loc} {a i : Nat} (hl : ∀ q ∈ locs, aA Γ q.base) (ha : aA Γ a) : ∀ q ∈ locs ++ [(⟨a, i⟩ : Loc)], aA Γ q.base := fun q hq => by
  rcases List.mem_append.mp hq with h | h
  · exact hl q h
  · rw [List.mem_singleton.mp h]; exact ha
theorem J_put (hx : Fx X cc nL own t mc ms) {ci : Nat} {C : String} {T : u_T} {N : Nat} {ty : Nat → FieldType} (hC : ClOk ci C T N ty) (kf : Nat) (hk : kf < N) {idx : Nat} (hl : Cond.fieldLink own idx (T kf).1 (T kf).2.1 (T kf).2.2.1 ∈ WT) (hfin : (T kf).2.2.2 = false) {a : Nat} {fs : List Value} (hG : G a = some (.inr (ci, fs))) (hlen : kf < fs.length) {v : Value} (hn : narrow (ty kf) v = v) (hfit : fits (ty kf) v = true) (hd : decode cc pc = .ok (.putfield idx, 3)) (kk : J X nL (updG G a (.inr (ci, fs.set kf v))) sz k n (pc + 3) ls st) : J X nL G sz k n pc ls (v :: .ref a :: st) := fun H locs lsA hH hlc hv2 => by
  have hts := hx.2.2.2.2.1
  have hK := hx.2.2.2.2.2.1.1
  have hap := va_apart (own := own) hts hC.2.1 ty hC.2.2.1 hC.2.2.2 hK hC.1
  obtain ⟨hat, hAa⟩ := hH.2.2.2 a _ hG
  obtain ⟨r, h1, cell, q1, q2, q3, q4⟩ := id hat
  have hr : r = (C, T, N) := Option.some.inj (h1.symm.trans hC.1)
  subst hr
  obtain ⟨hS, hfc, kC, hkC, hkind⟩ := hK.1 ci _ hC.1
  obtain ⟨cf, kf2, fi, f, hi, hsl⟩ := hS kf hk
  have hlay := hts _ (hC.2.1 _ (u_in_lay hk))
  unfold u_lay at hlay
  rw [if_neg (by rw [hfin]; decide)] at hlay
  have hst := (u_facts hfc hkC (u_lays hts hC.2.1 hk) hi).1
  have h6 := u_store hfc hkC hkind hlay hi (hC.2.2.1 kf hk) hn hfit
  refine W.putK hx.1 hx.2.1 (f := f) ⟨hx.2.2.2.1, hts _ hl, ⟨_, _, _, hi⟩, hst⟩ (by rw [q2]; exact h6) q1 q3 (by rw [hsl]; exact k2_hasslot (q4 kf hk)) rfl rfl hd fun H' e1 e2 e3 => ?_
  rw [hsl] at e1 ⊢
  exact kk H' _ lsA (hH.put hG ⟨_, hC.1, t_OB.to (V := updV (vp_V fs) kf v) ⟨_, e1, q2, q3, t_set q4 hap hk v⟩ (fun j _ => vp_updV_set hlen v j)⟩ e2 e3) (locs_put hlc hAa) hv2
theorem J_putF (hx : Fx X cc nL own t mc ms) {ci : Nat} {C : String} {T : u_T} {N : Nat} {ty : Nat → FieldType} (hC : ClOk ci C T N ty) (hin2 : (xM X).name = "<init>") (kf : Nat) (hk : kf < N) {idx : Nat} (hl : Cond.fieldLink own idx (T kf).1 (T kf).2.1 (T kf).2.2.1 ∈ WT) (hfin : (T kf).2.2.2 = true) (hdecl : (T kf).1 = own) {a : Nat} {fs : List Value} (hG : G a = some (.inr (ci, fs))) (hlen : kf < fs.length) {v : Value} (hn : narrow (ty kf) v = v) (hfit : fits (ty kf) v = true) (hd : decode cc pc = .ok (.putfield idx, 3)) (kk : J X nL (updG G a (.inr (ci, fs.set kf v))) sz k n (pc + 3) ls st) : J X nL G sz k n pc ls (v :: .ref a :: st) := fun H locs lsA hH hlc hv2 => by
  have hts := hx.2.2.2.2.1
  have hK := hx.2.2.2.2.2.1.1
  have hown := hx.2.2.2.1
  have hap := va_apart (own := own) hts hC.2.1 ty hC.2.2.1 hC.2.2.2 hK hC.1
  obtain ⟨hat, hAa⟩ := hH.2.2.2 a _ hG
  obtain ⟨r, h1, cell, q1, q2, q3, q4⟩ := id hat
  have hr : r = (C, T, N) := Option.some.inj (h1.symm.trans hC.1)
  subst hr
  obtain ⟨hS, hfc, kC, hkC, hkind⟩ := hK.1 ci _ hC.1
  obtain ⟨cf, kf2, fi, f, hi, hsl⟩ := hS kf hk
  have hlay := hts _ (hC.2.1 _ (u_in_lay hk))
  unfold u_lay at hlay
  rw [if_pos hfin] at hlay
  have hst := (u_facts hfc hkC (u_lays hts hC.2.1 hk) hi).1
  have hcf : (xm X).cls = cf := by
    obtain ⟨_, _, c', _, _, _, -, -, hf', -, -, -, hown2, -⟩ := Cond.laysFinal_spec hlay
    have e1 : c' = cf := by have := hi.symm.trans hf'; simp at this; exact this.1.symm
    rw [hdecl] at hown2
    rw [← e1]; exact Option.some.inj (hown.symm.trans hown2)
  have h6 := u_fits hfc hkC hkind (Or.inr hlay) hi (hC.2.2.1 kf hk) hn hfit
  refine W.putFinK hx.1 hx.2.1 hown (hts _ hl) hi hst hcf hin2 (by rw [q2]; exact h6) q1 q3 (by rw [hsl]; exact k2_hasslot (q4 kf hk)) rfl rfl hd fun H' e1 e2 e3 => ?_
  rw [hsl] at e1 ⊢
  exact kk H' _ lsA (hH.put hG ⟨_, hC.1, t_OB.to (V := updV (vp_V fs) kf v) ⟨_, e1, q2, q3, t_set q4 hap hk v⟩ (fun j _ => vp_updV_set hlen v j)⟩ e2 e3) (locs_put hlc hAa) hv2
-- arrays
theorem J_iald (hx : Fx X cc nL own t mc ms) {a N : Nat} {f : Nat → Int32} {i : Int32} (hG : G a = some (.inl ((xΓ X).2.1 1, N, .inl f))) (hin : vp_in i N) (hd : decode cc pc = .ok (.iaload, 1)) (kk : J X nL G sz k n (pc + 1) ls (.int (f i.toNatClampNeg) :: st)) : J X nL G sz k n pc ls (.int i :: .ref a :: st) :=
  fun H locs lsA hH hlc hv2 => va_iald hx.1 hx.2.1 hx.2.2.2.2.2.1.1 (va_P1 (hH.2.2.2 a _ hG).1) 0 1 rfl rfl hin hd (kk H locs lsA hH hlc hv2)
theorem J_bald (hx : Fx X cc nL own t mc ms) {a N : Nat} {f : Nat → Int32} {i : Int32} (hG : G a = some (.inl ((xΓ X).2.1 0, N, .inl f))) (hin : vp_in i N) (hd : decode cc pc = .ok (.baload, 1)) (kk : J X nL G sz k n (pc + 1) ls (.int (f i.toNatClampNeg) :: st)) : J X nL G sz k n pc ls (.int i :: .ref a :: st) :=
  fun H locs lsA hH hlc hv2 => va_bald hx.1 hx.2.1 hx.2.2.2.2.2.1.1 (va_P1 (hH.2.2.2 a _ hG).1) 0 0 rfl rfl hin hd (kk H locs lsA hH hlc hv2)
theorem J_aald (hx : Fx X cc nL own t mc ms) (ti : Nat) {ty : FieldType} (ht : (gTys (xΓ X).2.1)[ti]? = some ((xΓ X).2.1 ti, ty)) (href : ty.isReference = true) {a N b : Nat} {f : Nat → Option Nat} {i : Int32} (hG : G a = some (.inl ((xΓ X).2.1 ti, N, .inr (.inr (.inr (.inr f)))))) (hin : vp_in i N) (hb : f i.toNatClampNeg = some b) (hd : decode cc pc = .ok (.aaload, 1)) (kk : J X nL G sz k n (pc + 1) ls (.ref b :: st)) : J X nL G sz k n pc ls (.int i :: .ref a :: st) := fun H locs lsA hH hlc hv2 => by
  have hlt : i.toNatClampNeg < N := Nat.not_le.mp fun q => hin (Or.inr q)
  exact W.aald (v := .ref b) (ty := ty) hx.1 hx.2.1 (hH.2.2.2 a _ hG).1 ((hx.2.2.2.2.2.1.1.2 ti _ ht).1 N (fun j => va_rf (f j))) href (fun q => by cases q) (by show ¬ (i < 0 ∨ (arrV _ _ _).slots.size ≤ _); rw [arrV_size]; exact hin) (by show (arrV _ _ _).slots[_]? = _; rw [arrV_read _ _ hlt, hb]; rfl) rfl rfl hd (kk H locs lsA hH hlc hv2)
theorem J_alen (hx : Fx X cc nL own t mc ms) (ti : Nat) {ty : FieldType} (ht : (gTys (xΓ X).2.1)[ti]? = some ((xΓ X).2.1 ti, ty)) {a : Nat} {x : vp_A} (hG : G a = some (.inl ((xΓ X).2.1 ti, x))) {v : Int32} (hv : Int32.ofNat x.1 = v) (hd : decode cc pc = .ok (.arraylength, 1)) (kk : J X nL G sz k n (pc + 1) ls (.int v :: st)) : J X nL G sz k n pc ls (.ref a :: st) :=
  fun H locs lsA hH hlc hv2 => va_alen hx.1 hx.2.1 hx.2.2.2.2.2.1.1 (va_P1 (hH.2.2.2 a _ hG).1) 0 ti rfl ht hv hd (kk H locs lsA hH hlc hv2)
theorem J_iast (hx : Fx X cc nL own t mc ms) {a N : Nat} {f : Nat → Int32} {i x : Int32} (hG : G a = some (.inl ((xΓ X).2.1 1, N, .inl f))) (hin : vp_in i N) (hd : decode cc pc = .ok (.iastore, 1)) (kk : J X nL (updG G a (.inl ((xΓ X).2.1 1, N, .inl (upd f i.toNatClampNeg x)))) sz k n (pc + 1) ls st) : J X nL G sz k n pc ls (.int x :: .int i :: .ref a :: st) := fun H locs lsA hH hlc hv2 => by
  obtain ⟨hat, hAa⟩ := hH.2.2.2 a _ hG
  refine W.iast hx.1 hx.2.1 hat ((hx.2.2.2.2.2.1.1.2 1 _ rfl).1 N (fun j => .int (f j))) (fun q => by cases q) (by show ¬ (i < 0 ∨ (arrV _ _ _).slots.size ≤ _); rw [arrV_size]; exact hin) rfl rfl hd fun H1 e z oq => ?_
  refine kk H1 _ lsA (hH.put hG ?_ z oq) (locs_put hlc hAa) hv2
  show H1[a]? = some (vp_cell _ _)
  rw [e]
  show some ((vp_cell _ _).setSlot _ _) = _
  rw [vp_cell_i, vp_cell_i, arrV_store]
  congr 2
  funext q
  by_cases hq : q = i.toNatClampNeg
  · subst hq
    simp [updV, upd]
  · simp [updV, upd, hq]
theorem J_bast (hx : Fx X cc nL own t mc ms) {a N : Nat} {f : Nat → Int32} {i x : Int32} (hG : G a = some (.inl ((xΓ X).2.1 0, N, .inl f))) (hin : vp_in i N) (hd : decode cc pc = .ok (.bastore, 1)) (kk : J X nL (updG G a (.inl ((xΓ X).2.1 0, N, .inl (upd f i.toNatClampNeg (vp_nar .byte x))))) sz k n (pc + 1) ls st) : J X nL G sz k n pc ls (.int x :: .int i :: .ref a :: st) := fun H locs lsA hH hlc hv2 => by
  obtain ⟨hat, hAa⟩ := hH.2.2.2 a _ hG
  refine W.bast hx.1 hx.2.1 hat ((hx.2.2.2.2.2.1.1.2 0 _ rfl).1 N (fun j => .int (f j))) (fun q => by cases q) (by show ¬ (i < 0 ∨ (arrV _ _ _).slots.size ≤ _); rw [arrV_size]; exact hin) rfl rfl hd fun H1 e z oq => ?_
  refine kk H1 _ lsA (hH.put hG ?_ z oq) (locs_put hlc hAa) hv2
  show H1[a]? = some (vp_cell _ _)
  rw [e]
  show some ((vp_cell _ _).setSlot _ _) = _
  rw [vp_cell_i, vp_cell_i, arrV_store]
  congr 2
  funext q
  by_cases hq : q = i.toNatClampNeg
  · subst hq
    simp [updV, upd, vp_nar]
    try rfl
  · simp [updV, upd, hq]
theorem J_aast (hx : Fx X cc nL own t mc ms) (ti ci : Nat) {r : vw_C} (ht : (gTys (xΓ X).2.1)[ti]? = some ((xΓ X).2.1 ti, .object r.1)) (hc : vwCl[ci]? = some r) {a N v : Nat} {vs : List Value} {f : Nat → Option Nat} {i : Int32} (hG : G a = some (.inl ((xΓ X).2.1 ti, N, .inr (.inr (.inr (.inr f)))))) (hGv : G v = some (.inr (ci, vs))) (hin : vp_in i N) (hd : decode cc pc = .ok (.aastore, 1)) (kk : J X nL (updG G a (.inl ((xΓ X).2.1 ti, N, .inr (.inr (.inr (.inr (va_up f i.toNatClampNeg (some v)))))))) sz k n (pc + 1) ls st) : J X nL G sz k n pc ls (.ref v :: .int i :: .ref a :: st) := fun H locs lsA hH hlc hv2 => by
  have hlt : i.toNatClampNeg < N := Nat.not_le.mp fun q => hin (Or.inr q)
  have h0 : ¬ i < 0 := fun q => hin (Or.inl q)
  have hK := hx.2.2.2.2.2.1.1
  obtain ⟨hat, hAa⟩ := hH.2.2.2 a _ hG
  obtain ⟨r', hr', cellV, g1, g2, g3, -⟩ := (hH.2.2.2 v _ hGv).1
  have hcls := (hK.1 ci r hc).2
  obtain ⟨kA, comp, k1, k2, k3, -⟩ := (hK.2 ti _ ht).2
  have hcomp : comp = (xΓ X).1.1 ci := Option.some.inj (k3.symm.trans hcls.1)
  subst hcomp
  obtain ⟨kC, hkC, -⟩ := hcls.2
  refine W.aast hx.1 hx.2.1 hat (fun q h => by cases h) (fun h => by cases h) k1 k2 rfl hkC ⟨h0, by show _ < (arrV _ _ _).slots.size; rw [arrV_size]; exact hlt⟩ g1 (fun q h => by rw [g3] at h; cases h) (by rw [g2]; exact hkC) (by rw [g2]; exact va_assign hcls) rfl rfl hd fun H1 e z oq => ?_
  refine kk H1 _ lsA (hH.put hG ?_ z oq) (locs_put hlc hAa) hv2
  show H1[a]? = some (vp_cell _ _)
  rw [e]
  show some ((vp_cell _ _).setSlot _ _) = _
  rw [vp_cell_q, vp_cell_q, arrV_store]
  congr 2
  funext q
  by_cases hq : q = i.toNatClampNeg
  · subst hq
    simp [updV, va_up, va_rf]
  · simp [updV, va_up, hq]
-- makings
theorem J_new (hx : Fx X cc nL own t mc ms) {ci : Nat} {C : String} {T : u_T} {N : Nat} {ty : Nat → FieldType} (hC : ClOk ci C T N ty) {idx : Nat} (hcl : Cond.classLink own idx C ∈ WT) (hins : Cond.instantiable C N ∈ WT) (hini : Cond.initialized C ∈ WT) (fs : List Value) (hfs : ∀ j, j < N → defaultValue (ty j) = vp_V fs j) (hk : k + 1 ≤ mc) (hn : n + N ≤ ms) (hd : decode cc pc = .ok (.new idx, 3)) (kk : G sz = none → J X nL (updG G sz (.inr (ci, fs))) (sz + 1) (k + 1) (n + N) (pc + 3) ls (.ref sz :: st)) : J X nL G sz k n pc ls st := fun H locs lsA hH hlc hv2 => by
  have hts := hx.2.2.2.2.1
  have hKn := hx.2.2.2.2.2.1.1.1 ci _ hC.1
  have hR := hx.2.2.2.2.2.2.1
  refine W.newcK hx.1 hx.2.1 hx.2.2.2.1 (hts _ hcl) (hts _ hins) (hts _ hini) rfl hd (by rw [hR]; exact hk) (by rw [hR]; exact hn) hKn.2.1 hH.1 fun H1 kC hkC e1 z1 o1 => ?_
  exact kk (hH.fresh (Nat.le_refl _)) H1 locs lsA (hH.push ⟨_, hC.1, (u_born ty hts hC.2.1 hKn hkC e1 hC.2.2.1).to hfs⟩ z1 o1) hlc hv2
theorem J_newa (hx : Fx X cc nL own t mc ms) (ti : Nat) {at' : ArrayType} {ty : FieldType} (hty : newarray.typeOf at' = ty) (hpr : ∀ (s : State) (c : ClassId), va_RA s c ty → s.vm.findClass ("[" ++ ty.toString) = some c) (ht : (gTys (xΓ X).2.1)[ti]? = some ((xΓ X).2.1 ti, ty)) (harr : Cond.arrayClass ty ∈ WT) {c : Int32} (N : Nat) (a0 : (Nat → Int32) ⊕ (Nat → Int64) ⊕ (Nat → UInt32) ⊕ (Nat → UInt64) ⊕ (Nat → Option Nat)) (ha : ∀ cA : ClassId, vp_cell cA (N, a0) = arrV cA N (fun _ => defaultValue ty)) (h0 : ¬ c < 0) (hN : c.toNatClampNeg = N) (hby : N * componentBytes ty ≤ 536870912) (hk : k + 1 ≤ mc) (hn : n + N ≤ ms) (hd : decode cc pc = .ok (.newarray at', 2)) (kk : G sz = none → J X nL (updG G sz (.inl ((xΓ X).2.1 ti, N, a0))) (sz + 1) (k + 1) (n + N) (pc + 2) ls (.ref sz :: st)) : J X nL G sz k n pc ls (.int c :: st) := fun H locs lsA hH hlc hv2 => by
  subst hty
  have hR := hx.2.2.2.2.2.2.1
  refine va_newaK hx.1 hx.2.1 (hx.2.2.2.2.1 _ harr) rfl hd rfl h0 hN hby (by rw [hR]; exact hk) (by rw [hR]; exact hn) hH.1 fun H1 cA e1 z1 o1 hAr hNm => ?_
  have hc : cA = (xΓ X).2.1 ti := Option.some.inj (hNm.symm.trans (hpr _ _ (hx.2.2.2.2.2.1.1.2 ti _ ht).2))
  subst hc
  refine kk (hH.fresh (Nat.le_refl _)) H1 locs lsA (hH.push ?_ z1 o1) hlc hv2
  show H1[sz]? = some (vp_cell _ _)
  rw [ha]
  exact e1
theorem J_anew (hx : Fx X cc nL own t mc ms) (ti : Nat) {C : String} (ht : (gTys (xΓ X).2.1)[ti]? = some ((xΓ X).2.1 ti, .object C)) {idx : Nat} (hcl : Cond.classLink own idx C ∈ WT) (hover : va_AO C (xs X)) {c : Int32} (N : Nat) (h0 : ¬ c < 0) (hN : c.toNatClampNeg = N) (hby : N * 4 ≤ 536870912) (hk : k + 1 ≤ mc) (hn : n + N ≤ ms) (hd : decode cc pc = .ok (.anewarray idx, 3)) (kk : G sz = none → J X nL (updG G sz (.inl ((xΓ X).2.1 ti, N, .inr (.inr (.inr (.inr (fun _ => none))))))) (sz + 1) (k + 1) (n + N) (pc + 3) ls (.ref sz :: st)) : J X nL G sz k n pc ls (.int c :: st) := fun H locs lsA hH hlc hv2 => by
  subst hN
  have hR := hx.2.2.2.2.2.2.1
  have hsz := hH.1
  refine W.anew hx.1 hx.2.1 hx.2.2.2.1 (hx.2.2.2.2.1 _ hcl) (va_AO.use hover) rfl hd rfl h0 hby (by rw [hR]; exact hk) (by rw [hR]; exact hn) fun cA kA comp f1 f2 f3 f4 => ?_
  obtain ⟨kA', comp', -, -, -, hNm⟩ := (hx.2.2.2.2.2.1.1.2 ti _ ht).2
  have hc : cA = (xΓ X).2.1 ti := Option.some.inj (f1.symm.trans hNm)
  subst hc
  generalize hH1 : H.push ({ cls := (xΓ X).2.1 ti, slots := Array.replicate c.toNatClampNeg .null, vm := .none } : Cell) = H1
  have z1 : H1.size = sz + 1 := by rw [← hH1, Array.size_push, hsz]
  have e1 : H1[sz]? = some (arrV ((xΓ X).2.1 ti) c.toNatClampNeg (fun _ => .null)) := by rw [← hH1, ← hsz, Array.getElem?_push_size, ← arrV_new]
  have o1 : ∀ q : Nat, q < sz → H1[q]? = H[q]? := fun q hq => by rw [← hH1, Array.getElem?_push, if_neg (Nat.ne_of_lt (by omega))]
  rw [hsz]
  refine kk (hH.fresh (Nat.le_refl _)) H1 locs lsA (hH.push ?_ z1 o1) hlc hv2
  show H1[sz]? = some (vp_cell _ _)
  rw [vp_cell_q]
  exact e1
/-- what lies at an address, told otherwise -/
theorem J_conv {a : Nat} {e e' : va_E} (hG : G a = some e) (he : ∀ H : Heap, va_at (xΓ X).1 vwCl (a, e) H → va_at (xΓ X).1 vwCl (a, e') H) (kk : J X nL (updG G a e') sz k n pc ls st) : J X nL G sz k n pc ls st := fun H locs lsA hH hlc hv2 =>
  kk H locs lsA (hH.put hG (he H (hH.2.2.2 a _ hG).1) rfl (fun _ _ => rfl)) hlc hv2
-- a member of java.lang.Math, Object's constructor, arraycopy
theorem J_objInit (hx : Fx X cc nL own t mc ms) {idx : Nat} (hl : Cond.methodLink own idx objectInit ∈ WT) (hi : Cond.instanceMethod objectInit ∈ WT) (hc : Cond.code objectInit ⟨#[0xb1]⟩ 1 none ∈ WT) {a : Nat} (ht : 1 ≤ t) (hw : (st.map fun v => v.category).sum + 12 ≤ 30 * t) (hd : decode cc pc = .ok (.invokespecial idx, 3)) (kk : J X nL G sz k n (pc + 3) ls st) : J X nL G sz k n pc ls (.ref a :: st) := fun H locs lsA hH hlc hv2 => by
  have hts := hx.2.2.2.2.1
  have hR := hx.2.2.2.2.2.2.1
  exact W.objInit hx.1 hx.2.1 hx.2.2.2.1 (hts _ hl) (hts _ hi) (hts _ hc) rfl (hv2.1.trans hx.2.2.1.symm) rfl hd (by rw [hR]; exact ht) (by rw [hR]; show 2 * 0 + _ + 12 ≤ 30 * t; omega) (kk H locs lsA hH hlc hv2)
theorem J_max (hx : Fx X cc nL own t mc ms) {idx : Nat} (hl : Cond.methodLink own idx Lib.Math.max.name ∈ WT) (hw4 : Cond.static Lib.Math.max.name ∈ WT ∧ Cond.initialized "java/lang/Math" ∈ WT ∧ Cond.code Lib.Math.max.name Lib.Math.max.code 2 (some .int) ∈ WT) {x y : Int32} (ht : 1 ≤ t) (hw : (st.map fun v => v.category).sum + 13 ≤ 30 * t) (hk : k ≤ mc) (hn : n ≤ ms) (hd : decode cc pc = .ok (.invokestatic idx, 3)) (kk : J X nL G sz k n (pc + 3) ls (.int (if x < y then y else x) :: st)) : J X nL G sz k n pc ls (.int y :: .int x :: st) := fun H locs lsA hH hlc hv2 => by
  have hts := hx.2.2.2.2.1
  have hR := hx.2.2.2.2.2.2.1
  exact va_mmax hx.1 hx.2.1 (hx.2.2.1.trans hv2.1.symm) hx.2.2.2.1 (hts _ hl) (hts _ hw4.1) (hts _ hw4.2.1) (hts _ hw4.2.2) (by rw [hR]; exact ht) (by rw [hR]; exact hw) (by rw [hR]; exact hk) (by rw [hR]; exact hn) hd (kk H locs lsA hH hlc hv2)
theorem J_min (hx : Fx X cc nL own t mc ms) {idx : Nat} (hl : Cond.methodLink own idx Lib.Math.min.name ∈ WT) (hw4 : Cond.static Lib.Math.min.name ∈ WT ∧ Cond.initialized "java/lang/Math" ∈ WT ∧ Cond.code Lib.Math.min.name Lib.Math.min.code 2 (some .int) ∈ WT) {x y : Int32} (ht : 1 ≤ t) (hw : (st.map fun v => v.category).sum + 13 ≤ 30 * t) (hk : k ≤ mc) (hn : n ≤ ms) (hd : decode cc pc = .ok (.invokestatic idx, 3)) (kk : J X nL G sz k n (pc + 3) ls (.int (if y < x then y else x) :: st)) : J X nL G sz k n pc ls (.int y :: .int x :: st) := fun H locs lsA hH hlc hv2 => by
  have hts := hx.2.2.2.2.1
  have hR := hx.2.2.2.2.2.2.1
  exact va_mmin hx.1 hx.2.1 (hx.2.2.1.trans hv2.1.symm) hx.2.2.2.1 (hts _ hl) (hts _ hw4.1) (hts _ hw4.2.1) (hts _ hw4.2.2) (by rw [hR]; exact ht) (by rw [hR]; exact hw) (by rw [hR]; exact hk) (by rw [hR]; exact hn) hd (kk H locs lsA hH hlc hv2)
theorem J_abs (hx : Fx X cc nL own t mc ms) {idx : Nat} (hl : Cond.methodLink own idx Lib.Math.abs.name ∈ WT) (hw4 : Cond.static Lib.Math.abs.name ∈ WT ∧ Cond.initialized "java/lang/Math" ∈ WT ∧ Cond.code Lib.Math.abs.name Lib.Math.abs.code 1 (some .int) ∈ WT) {x : Int32} (ht : 1 ≤ t) (hw : (st.map fun v => v.category).sum + 13 ≤ 30 * t) (hk : k ≤ mc) (hn : n ≤ ms) (hd : decode cc pc = .ok (.invokestatic idx, 3)) (kk : J X nL G sz k n (pc + 3) ls (.int (if 0 ≤ x then x else 0 - x) :: st)) : J X nL G sz k n pc ls (.int x :: st) := fun H locs lsA hH hlc hv2 => by
  have hts := hx.2.2.2.2.1
  have hR := hx.2.2.2.2.2.2.1
  exact va_mabs hx.1 hx.2.1 (hx.2.2.1.trans hv2.1.symm) hx.2.2.2.1 (hts _ hl) (hts _ hw4.1) (hts _ hw4.2.1) (hts _ hw4.2.2) (by rw [hR]; exact ht) (by rw [hR]; exact hw) (by rw [hR]; exact hk) (by rw [hR]; exact hn) hd (kk H locs lsA hH hlc hv2)
theorem J_copy (hx : Fx X cc nL own t mc ms) {idx : Nat} (hl : Cond.methodLink own idx arraycopyName ∈ WT) (hw4 : Cond.native arraycopyName ∈ WT ∧ Cond.static arraycopyName ∈ WT ∧ Cond.initialized "java/lang/System" ∈ WT) {a0 a n0 n1 : Nat} {f g : Nat → Int32} {sp dp nn : Int32} (ha0 : G a0 = some (.inl ((xΓ X).2.1 1, n0, .inl f))) (ha1 : G a = some (.inl ((xΓ X).2.1 1, n1, .inl g))) (h1 : ¬ sp < 0) (h2 : ¬ dp < 0) (h3 : ¬ nn < 0) (h4 : sp.toNatClampNeg + nn.toNatClampNeg ≤ n0) (h5 : dp.toNatClampNeg + nn.toNatClampNeg ≤ n1) (ht : 1 ≤ t) (hw : (st.map fun v => v.category).sum + (nativeFrameWords "java/lang/System" "arraycopy" 5 + 11) ≤ 30 * t) (hd : decode cc pc = .ok (.invokestatic idx, 3))
    (kk : J X nL (updG G a (.inl ((xΓ X).2.1 1, n1, .inl (va_cpy f g sp.toNatClampNeg dp.toNatClampNeg nn.toNatClampNeg)))) sz k n (pc + 3) ls st) : J X nL G sz k n pc ls (.int nn :: .int dp :: .ref a :: .int sp :: .ref a0 :: st) := fun H locs lsA hH hlc hv2 => by
  have hts := hx.2.2.2.2.1
  have hR := hx.2.2.2.2.2.2.1
  have hK := hx.2.2.2.2.2.1.1
  have np : ∀ z : Int32, ¬ z < 0 → z.toInt = (z.toNatClampNeg : Int) := by
    intro z hz
    have hz0 : (0 : Int) ≤ z.toInt := by
      have := Int32.not_lt.mp hz
      simpa using Int32.le_iff_toInt_le.mp this
    show z.toInt = ((z.toInt.toNat : Nat) : Int)
    omega
  obtain ⟨hat1, hAa⟩ := hH.2.2.2 a _ ha1
  have hc0 : H[a0]? = some (vp_cell ((xΓ X).2.1 1) (n0, .inl f)) := (hH.2.2.2 a0 _ ha0).1
  have hc1 : H[a]? = some (vp_cell ((xΓ X).2.1 1) (n1, .inl g)) := hat1
  intro T hT Xs
  obtain ⟨-, k0, hk0, cm0, hkk0⟩ := (hK.2 1 _ rfl).1 n0 (fun j => .int (f j))
  obtain ⟨-, k1, hk1, cm1, hkk1⟩ := (hK.2 1 _ rfl).1 n1 (fun j => .int (g j))
  obtain ⟨vm', X', step⟩ := Xs.arraycopy hx.1 hx.2.2.2.1 (hts _ hl) (hts _ hw4.1) (hts _ hw4.2.1) (hts _ hw4.2.2) (src := a0) (dst := a) (cs := vp_cell ((xΓ X).2.1 1) (n0, .inl f)) (cd := vp_cell ((xΓ X).2.1 1) (n1, .inl g)) (srcPos := sp) (destPos := dp) (n := nn) (by rw [hT]; exact hc0) (by rw [hT]; exact hc1)
    (fun _ h => by cases h) (fun _ h => by cases h) (fun h => by cases h) (fun h => by cases h) hk0 hk1 hkk0 hkk1 (by simp [refKind]) h1 h2 h3
    (by rw [np sp h1, np nn h3]; show ¬ _ > ((arrV ((xΓ X).2.1 1) n0 (fun j => .int (f j))).slots.size : Int); rw [arrV_size]; omega)
    (by rw [np dp h2, np nn h3]; show ¬ _ > ((arrV ((xΓ X).2.1 1) n1 (fun j => .int (g j))).slots.size : Int); rw [arrV_size]; omega)
    (fun vm₁ _ i hi => by
      have e : (vp_cell ((xΓ X).2.1 1) (n0, .inl f)).slots.getD (sp.toNatClampNeg + i) .null = .int (f (sp.toNatClampNeg + i)) := by
        show (arrV ((xΓ X).2.1 1) n0 (fun j => .int (f j))).slots.getD _ _ = _
        rw [Array.getD_eq_getD_getElem?, arrV_read _ _ (by omega)]
        rfl
      refine ⟨?_, ?_⟩
      · rw [e]
        rfl
      · rw [e]
        exact trivial)
    (g := F0 (xm X) pc lsA (.int nn :: .int dp :: .ref a :: .int sp :: .ref a0 :: st)) rfl (by rw [hx.2.2.1]; exact hv2.1) (rest := st) rfl (by rw [hx.2.1]; exact hd) (by rw [hR]; exact ht) (by rw [hR]; show 2 * 0 + _ + _ ≤ 30 * t; omega)
  have e1 : copied (vp_cell ((xΓ X).2.1 1) (n0, .inl f)) (vp_cell ((xΓ X).2.1 1) (n1, .inl g)) sp dp nn = vp_cell ((xΓ X).2.1 1) (n1, .inl (va_cpy f g sp.toNatClampNeg dp.toNatClampNeg nn.toNatClampNeg)) := va_copied (fun z => .int z) _ _ f g h4
  rw [e1] at X' step
  have hlt : a < H.size := (Array.getElem?_eq_some_iff.mp hc1).1
  have hheap : ((T.setVm vm').setCell a (vp_cell ((xΓ X).2.1 1) (n1, .inl (va_cpy f g sp.toNatClampNeg dp.toNatClampNeg nn.toNatClampNeg)))).heap = H.setIfInBounds a (vp_cell ((xΓ X).2.1 1) (n1, .inl (va_cpy f g sp.toNatClampNeg dp.toNatClampNeg nn.toNatClampNeg))) := by rw [← hT]; rfl
  have oq : ∀ q : Nat, q ≠ a → (H.setIfInBounds a (vp_cell ((xΓ X).2.1 1) (n1, .inl (va_cpy f g sp.toNatClampNeg dp.toNatClampNeg nn.toNatClampNeg))))[q]? = H[q]? := fun q hq => by simp [Array.getElem?_setIfInBounds, Ne.symm hq]
  obtain ⟨t9, a1, b1⟩ := kk _ _ lsA (hH.put ha1 (show (H.setIfInBounds a _)[a]? = some _ by simp [Array.getElem?_setIfInBounds, hlt]) (by simp) oq) (fun q hq => by
      rcases List.mem_append.mp hq with h | h
      · exact hlc q h
      · obtain ⟨z, -, hz⟩ := List.mem_map.mp h
        rw [← hz]
        exact hAa) hv2 _ hheap X'
  exact ⟨t9, step t9 a1, b1⟩
end JH
