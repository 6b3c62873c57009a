/-! THE LAW, from its entry to its end -/
def lotv (L : Nat) (z : Nat → Int32) (k : Int32) : Int32 := if iN L ≤ k then (1874972083 : Int32) * (k + 1907) + 1709 else z k.toNatClampNeg
def lotm (L : Nat) (z : Nat → Int32) (k : Int32) : Option Int32 := if k < 0 then none else some (lotv L z k)
theorem dL_lot_0 : decode cL_lot 0 = .ok (.iload_n 1, 1) := by decide +kernel
theorem dL_lot_1 : decode cL_lot 1 = .ok (.aload_n 0, 1) := by decide +kernel
theorem dL_lot_2 : decode cL_lot 2 = .ok (.arraylength, 1) := by decide +kernel
theorem dL_lot_3 : decode cL_lot 3 = .ok (.if_icmp .ge 9, 3) := by decide +kernel
theorem dL_lot_6 : decode cL_lot 6 = .ok (.aload_n 0, 1) := by decide +kernel
theorem dL_lot_7 : decode cL_lot 7 = .ok (.iload_n 1, 1) := by decide +kernel
theorem dL_lot_8 : decode cL_lot 8 = .ok (.iaload, 1) := by decide +kernel
theorem dL_lot_9 : decode cL_lot 9 = .ok (.goto 15, 3) := by decide +kernel
theorem dL_lot_12 : decode cL_lot 12 = .ok (.ldc 7, 2) := by decide +kernel
theorem dL_lot_14 : decode cL_lot 14 = .ok (.iload_n 1, 1) := by decide +kernel
theorem dL_lot_15 : decode cL_lot 15 = .ok (.sipush 1907, 3) := by decide +kernel
theorem dL_lot_18 : decode cL_lot 18 = .ok (.iadd, 1) := by decide +kernel
theorem dL_lot_19 : decode cL_lot 19 = .ok (.imul, 1) := by decide +kernel
theorem dL_lot_20 : decode cL_lot 20 = .ok (.sipush 1709, 3) := by decide +kernel
theorem dL_lot_23 : decode cL_lot 23 = .ok (.iadd, 1) := by decide +kernel
theorem dL_lot_24 : decode cL_lot 24 = .ok (.ireturn, 1) := by decide +kernel
theorem ar1 {T j N : Nat} (h : T + 480 * (j + 1) ≤ N) : T + 480 ≤ N := Nat.le_trans (Nat.add_le_add_left (Nat.le_mul_of_pos_right 480 (Nat.succ_pos j)) T) h
theorem ar2 {T j N : Nat} (h : T + 480 * (j + 1) ≤ N) : T + 480 + 480 * j ≤ N := by rw [Nat.add_assoc, Nat.add_comm 480, ← Nat.mul_succ]; exact h
theorem kL_lot {l : Launch} {Γ : Gl} {G : Gf} {sz sb L : Nat} {z : Nat → Int32} {k v : Int32} (hX : GX Γ sb L z) (hL : L ≤ 260) (h : lotm L z k = some v) : CtR l Γ yL_lot cL_lot 2 (some .int) 1 [.ref sb, .int k] G sz (.int v) := by
  refine Ct.of rfl (Nat.le_of_ble_eq_true rfl) fun X hx hr hl hΓ hnm => ?_
  subst hl hΓ
  have hT : va_T .int sb L (fun j => .int (z j)) (aA (xΓ X)) (xs X) (xΓ X).2.2.1 := hX _ hx.2.2.2.2.2.1.2.1
  have hk0 : ¬ k < 0 := fun q => by
    unfold lotm at h
    rw [if_pos q] at h
    cases h
  unfold lotm at h
  rw [if_neg hk0] at h
  replace h := Option.some.inj h
  unfold lotv at h
  show J X 2 G sz 0 0 0 [some (.ref sb), some (.int k)] []
  refine J_il4 hx rfl rfl dL_lot_0 ?_
  refine J_al4 hx rfl rfl dL_lot_1 ?_
  refine J_tlen hx hT (v := iN L) rfl dL_lot_2 ?_
  refine J_icmp_ge hx 12 dL_lot_3 rfl (fun h1 => ?_) (fun h1 => ?_)
  · rw [if_pos h1] at h
    refine J_ldc hx cn_L_7 dL_lot_12 ?_
    refine J_il4 hx rfl rfl dL_lot_14 ?_
    refine J_sipush hx (1907 : Int32) dL_lot_15 rfl ?_
    refine J_iadd hx dL_lot_18 ?_
    refine J_imul hx dL_lot_19 ?_
    refine J_sipush hx (1709 : Int32) dL_lot_20 rfl ?_
    refine J_iadd hx dL_lot_23 ?_
    exact J_iretR hx hr dL_lot_24 (Nat.le_refl 0) (Nat.le_refl 0) h
  · rw [if_neg h1] at h
    have hc : idx k L = some k.toNatClampNeg := by
      unfold idx
      rw [if_neg]
      rintro (q | q)
      · exact hk0 q
      · have e := of_nn hk0
        rw [e] at h1
        exact h1 ((iN_le (by omega) (nat_lt k)).mpr q)
    refine J_al4 hx rfl rfl dL_lot_6 ?_
    refine J_il4 hx rfl rfl dL_lot_7 ?_
    refine J_tiald hx hT hc dL_lot_8 ?_
    refine J_goto hx 24 dL_lot_9 rfl ?_
    exact J_iretR hx hr dL_lot_24 (Nat.le_refl 0) (Nat.le_refl 0) h
theorem lotm_some {L : Nat} {z : Nat → Int32} : ∀ k, k < 2147483648 → ∃ x, lotm L z (iN k) = some x := fun k hk => ⟨_, if_neg (iN_neg hk)⟩
section LO
variable {X : Cx} {B : Bs} {sb L : Nat} {z : Nat → Int32}
abbrev nn13 : List (Option Value) := [none, none, none, none, none, none, none, none, none, none, none, none, none]
theorem law_loop (hx : Fx X code 16 RL 12 642985 7172742) (hC : GC (xΓ X) B) (htr : (xl X).stackTraces = false) (hX : GX (xΓ X) sb L z) (hL : L ≤ 260)
    (hfin : ∀ (G : Gf) (sz k n : Nat) (ls : List (Option Value)), k ≤ 642985 → n ≤ 7172742 → J X 16 G sz k n 1063 ls [.int 1]) :
    ∀ (j i : Nat) (G : Gf) (sz k n T : Nat) (w : Wl) (m : Nat → Int32), i + j = 76 → k + j + 40 ≤ 642985 → n + 6 * j + 240 ≤ 7172742 → T + 480 * j ≤ 1000000000 → Wd (xΓ X) B w G → ST T w m → Jv m → Cn i m →
      J X 16 G sz k n 49 ([some (.ref sb), some (.ref (B.1 + 0)), some (.int (iN i))] ++ nn13) [] := by
  have hlo : LoK X sb (lotm L z) := fun G sz k v h => kL_lot hX hL h
  intro j
  induction j with
  | zero =>
    intro i G sz k n T w m hi hk hn hT hW hS hJ hCn
    obtain rfl : i = 76 := by omega
    obtain ⟨w', a1, a2⟩ := p_refuses hS
    refine J_il4 hx rfl rfl dL_law_49 ?_
    refine J_bipush hx (76 : Int32) dL_law_50 rfl ?_
    refine J_icmp_ge hx 1059 dL_law_52 rfl (fun _ => ?_) (fun h1 => absurd (Int32.le_refl _) h1)
    refine J_al4 hx rfl rfl dL_law_1059 ?_
    refine J_callS hx (kL_refuses hC htr hW a1) ml_L_182 lk_L_refuses (rest := []) rfl rfl (by decide) (by decide) (Nat.le_of_ble_eq_true rfl) (by omega) (by omega) dL_law_1060 fun r G1 sz1 hh => ?_
    obtain ⟨rfl, -⟩ := hh
    exact hfin G1 sz1 _ _ _ (by omega) (by omega)
  | succ j ih =>
    intro i G sz k n T w m hi hk hn hT hW hS hJ hCn
    obtain ⟨w', m', a1, a2, a3, a4⟩ := p_step (lo := lotm L z) lotm_some hS hJ (ar1 hT) (show i < 76 by omega) hCn
    refine J_il4 hx rfl rfl dL_law_49 ?_
    refine J_bipush hx (76 : Int32) dL_law_50 rfl ?_
    refine J_icmp_ge hx 1059 dL_law_52 rfl (fun h1 => ?_) (fun _ => ?_)
    · have := (iN_le' (B := 76) (b := 76) rfl (show i < 2147483648 by omega) (by decide)).mp h1
      omega
    refine kL_step hx hC htr hlo (by omega) (by omega) (fun G' sz' hW' => ?_) hW a1
    refine J_iinc hx (v' := iN (i + 1)) rfl (iN_s i) (by decide) (hc_of rfl) rfl dL_law_1053 ?_
    refine J_goto hx 49 dL_law_1056 rfl ?_
    exact ih (i + 1) G' sz' (k + 1) (n + 6) (T + 480) w' m' (by omega) (by omega) (by omega) (ar2 hT) hW' a2 a3 a4
theorem law_walk (hx : Fx X code 16 RL 12 642985 7172742) (hC : GC (xΓ X) B) (hI : GI (xΓ X)) (htr : (xl X).stackTraces = false) (hX : GX (xΓ X) sb L z) (hL : L ≤ 260) (hB : B.1 = (xΓ X).2.2.1.size)
    (hfin : ∀ (G : Gf) (sz k n : Nat) (ls : List (Option Value)), k ≤ 642985 → n ≤ 7172742 → J X 16 G sz k n 1063 ls [.int 1]) {l1 l2 : Option Value} {lr : List (Option Value)} : J X 16 (fun _ => none) B.1 0 0 0 (some (.ref sb) :: lr) [] := by
  refine J_lw (ls' := [some (.ref sb), none, none, none, none, none, none, none, none, none, none, none, none, none, none, none]) ⟨rfl, trivial⟩ ?_
  refine J_new hx clk_X12 cl_L_10 ins_X12 ini_X12 [.null, .null, .null, .null, .null, .null, .null] (by decide) (by decide) (by decide) dL_law_0 fun _ => ?_
  refine J_dup hx dL_law_3 ?_
  refine J_callI hx (kX12_init (l := xl X) (Γ := xΓ X) (a := B.1) hC hI rfl updG_self) ml_L_181 lk_X12_init (As := []) (rest := [.ref B.1]) rfl rfl (by decide) (by decide) (Nat.le_of_ble_eq_true rfl) (by decide) (by decide) dL_law_4 fun r G1 sz1 hh => ?_
  obtain ⟨rfl, rfl, -, hTS⟩ := hh
  refine J_as4 hx (i := 1) rfl (by decide) (hc_of rfl) rfl dL_law_7 ?_
  refine J_world hTS fun G3 hW3 => ?_
  obtain ⟨w', a1, a2⟩ := p_pro (lo := lotm L z) (ln := 0)
  have hlo : LoK X sb (lotm L z) := fun G sz k v h => kL_lot hX hL h
  refine kL_pro hx hC htr hlo (by decide) (by decide) (fun G' sz' hW' => ?_) hW3 a1
  exact law_loop hx hC htr hX hL hfin 76 0 G' sz' _ _ 36000 w' (mI 6) rfl (by decide) (by decide) (by decide) hW' a2 j0 ⟨Or.inl (Nat.zero_le _), Or.inl (Nat.zero_le _), Or.inl (Nat.zero_le _)⟩
end LO
/-- its end, with 1 on the stack, in any room and with fresh places written -/
theorem law_fin {p : Program} {l : Launch} {e : Env} {R : Room} {s : State} {m : MethodId} {below : List Frame} {meth : Method} {c : Code} {b k n : Nat} {H : Heap} {locs : List Loc} {lsA : Array Slot} (hx : p.tables.exec = Jvm.exec) (hb : c.code = code) (hr : meth.sig.returnType = ret) (hlocks : meth.locks = false) (hlc : ∀ q ∈ locs, s.heap.size ≤ q.base) (hk : k ≤ 642985) (hn : n ≤ 7172742) :
    W p l e R s m #[Value.ref b] below meth c H locs k n (fun t => ∃ o, t.status = .running ∧ Ended t below o ∧ (o = .returned (some (.int 1)) ∧ Framed s o t [] 642985 7172742)) (F0 m 1063 lsA [.int 1]) := by
  have hdg : decode code 1063 = .ok (.ireturn, 1) := dL_law_1063
  intro T hT X0
  have X1 := stand_widen X0 hk hn
  have X : Stand p l e R s m #[Value.ref b] below meth c T [] 642985 7172742 := Stand.dropFresh (locs := []) (J := locs) X1 hlc
  obtain ⟨fs, hret, hrun, hended, hW, hframe⟩ := X.leave (v := some (.int 1)) (hlocks := hlocks) (fun h => by rw [hr] at h; cases h)
  have hmeth' : T.vm.method? m = some meth := X.method'
  refine ⟨T.setFrames fs, ?_, .returned (some (.int 1)), hrun, hended, rfl, ⟨_, rfl⟩, hW, hframe⟩
  jvm_step X.here [X.here.top, hx, hb, hdg, hmeth', hr, ret, narrow_b1]
  (try refine ⟨rfl, ?_⟩); (try refine ⟨rfl, ?_⟩)
  first | (intro acts; rw [hret _ acts rfl rfl rfl]) | rw [hret _ _ rfl rfl rfl]
  exact Steps.refl _
theorem law_W {p : Program} {l : Launch} {e : Env} {s : State} {m : MethodId} {below : List Frame} {meth : Method} {c : Code} {b L : Nat} {z : Nat → Int32} {Q : State → Prop} {Γ : Gl} {B : Bs}
    (hexec : p.tables.exec = Jvm.exec) (hcode : c.code = code) (hml : c.maxLocals = 16) (hown : s.vm.findClass RL = some m.cls) (hlocks : meth.locks = false) (hts : ∀ w ∈ lw_tbl, w.before #[Value.ref b] s = true)
    (hK : KV Γ s) (hH : Γ.2.2.1 = s.heap) (hB : B.1 = s.heap.size) (hC : GC Γ B) (hI : GI Γ) (hX : GX Γ b L z) (htr : l.stackTraces = false) (hL : L ≤ 260)
    (hfin : ∀ (H : Heap) (locs : List Loc) (k n : Nat) (lsA : Array Slot), lsA.size = 16 → (∀ q ∈ locs, s.heap.size ≤ q.base) → k ≤ 642985 → n ≤ 7172742 → W p l e (rmL 12 642985 7172742) s m #[Value.ref b] below meth c H locs k n Q (F0 m 1063 lsA [.int 1])) :
    W p l e room_1 s m #[Value.ref b] below meth c s.heap [] 0 0 Q (entryFrame m ([Value.ref b] : List Value).toArray 16) := by
  refine W_room (R' := rmL 12 642985 7172742) (by decide) (by decide) (by decide) (by decide) ?_
  have hl := lv_entry [Value.ref b] (n := 16) (Nat.le_of_ble_eq_true rfl)
  have hx : Fx (p, l, e, rmL 12 642985 7172742, s, m, #[Value.ref b], below, meth, c, Q, Γ) code 16 RL 12 642985 7172742 := ⟨hexec, hcode, hml, hown, fun w hw => hts w (List.mem_filter.mp hw).1, hK, rfl, hlocks⟩
  have key := law_walk (B := B) (sb := b) (L := L) (z := z) hx hC hI htr hX hL (by rw [hB, show (xΓ (p, l, e, rmL 12 642985 7172742, s, m, #[Value.ref b], below, meth, c, Q, Γ)).2.2.1 = s.heap from hH])
    (fun G sz k n ls hk hn H locs lsA hHp hlc hv => hfin H locs k n lsA hv.1 (fun q hq => by have := hlc q hq; unfold aA at this; rw [show (xΓ (p, l, e, rmL 12 642985 7172742, s, m, #[Value.ref b], below, meth, c, Q, Γ)).2.2.1 = s.heap from hH] at this; exact this) hk hn) (l1 := none) (l2 := none) (lr := [none, none, none, none, none, none, none, none, none, none, none, none, none, none, none]) s.heap [] _ ⟨hB.symm, by show Γ.2.2.1.size ≤ _; rw [hH]; exact Nat.le_refl _, fun q _ => by show _ = Γ.2.2.1[q]?; rw [hH], fun a e h => nomatch h⟩ (fun q hq => nomatch hq) ⟨hl.1, hl.2.1, fun i v h => hl.2.2 (i, v) (by have := initO_get [Value.ref b] 16 i 0 v h; rwa [Nat.zero_add] at this)⟩
  rw [lg_entry_eq]
  exact key
