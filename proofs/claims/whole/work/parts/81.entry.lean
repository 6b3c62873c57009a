/-! THE LAW: from its entry -/
theorem law_W {p : Program} {l : Launch} {e : Env} {s : State} {m : MethodId} {below : List Frame} {meth : Method} {c : Code} {b L : Nat} {z : Nat → Int32} {Q : State → Prop} {Γ : Gl} {B : Bs}
    (hexec : p.tables.exec = Jvm.exec) (hcode : c.code = cL_law) (hml : c.maxLocals = 7) (hown : s.vm.findClass RL = some m.cls) (hlocks : meth.locks = false) (hts : ∀ w ∈ lw_tbl, w.before #[Value.ref b] s = true)
    (hK : KV Γ s) (hH : Γ.2.2.1 = s.heap) (hB : B.1 = s.heap.size) (hC : GC Γ B) (hI : GI Γ) (htr : l.stackTraces = false) (hX : va_X b L z s s.heap) (hb : b < s.heap.size) (hL : L ≤ 3072)
    (hfin : ∀ (H : Heap) (locs : List Loc) (k n : Nat) (lsA : Array Slot), lsA.size = 7 → (∀ q ∈ locs, s.heap.size ≤ q.base) → k ≤ 601024 → n ≤ 7293034 → W p l e (rmL 12 601024 7293034) s m #[Value.ref b] below meth c H locs k n Q (F0 m 2099 lsA [.int 1])) :
    W p l e room_1 s m #[Value.ref b] below meth c s.heap [] 0 0 Q (entryFrame m ([Value.ref b] : List Value).toArray 7) := by
  refine W_room (R' := rmL 12 601024 7293034) (by decide) (by decide) (by decide) (by decide) ?_
  have hl := lv_entry [Value.ref b] (n := 7) (Nat.le_of_ble_eq_true rfl)
  have hx : Fx (p, l, e, rmL 12 601024 7293034, s, m, #[Value.ref b], below, meth, c, Q, Γ) cL_law 7 RL 12 601024 7293034 := ⟨hexec, hcode, hml, hown, fun w hw => hts w (List.mem_filter.mp hw).1, hK, rfl, hlocks⟩
  have key := law_walk (B := B) (b := b) (L := L) (z := z) hx hC hI htr ⟨by rw [show (xΓ (p, l, e, rmL 12 601024 7293034, s, m, #[Value.ref b], below, meth, c, Q, Γ)).2.2.1 = s.heap from hH]; exact hX, by rw [show (xΓ (p, l, e, rmL 12 601024 7293034, s, m, #[Value.ref b], below, meth, c, Q, Γ)).2.2.1 = s.heap from hH]; exact hb, hL⟩ (by rw [hB, show (xΓ (p, l, e, rmL 12 601024 7293034, s, m, #[Value.ref b], below, meth, c, Q, Γ)).2.2.1 = s.heap from hH]) (by decide) (by decide)
    (fun G sz k n ls hk hn H locs lsA hHp hlc hv => hfin H locs k n lsA hv.1 (fun q hq => by have := hlc q hq; unfold aA at this; rw [show (xΓ (p, l, e, rmL 12 601024 7293034, s, m, #[Value.ref b], below, meth, c, Q, Γ)).2.2.1 = s.heap from hH] at this; exact this) hk hn) (l1 := none) (l2 := none) (l3 := none) (l4 := none) (l5 := none) (l6 := none) s.heap [] _ ⟨hB.symm, by show Γ.2.2.1.size ≤ _; rw [hH]; exact Nat.le_refl _, fun q _ => by show _ = Γ.2.2.1[q]?; rw [hH], fun a e h => nomatch h⟩ (fun q hq => nomatch hq) ⟨hl.1, hl.2.1, fun i v h => hl.2.2 (i, v) (by have := initO_get [Value.ref b] 7 i 0 v h; rwa [Nat.zero_add] at this)⟩
  rw [lg_entry_eq]
  exact key
