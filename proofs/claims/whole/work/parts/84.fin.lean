/-! THE LAW: its end, with 1 on the stack, in any room and with fresh places written -/
theorem law_fin {p : Program} {l : Launch} {e : Env} {R : Room} {s : State} {m : MethodId} {below : List Frame} {meth : Method} {c : Code} {b k n : Nat} {H : Heap} {locs : List Loc} {lsA : Array Slot} (hx : p.tables.exec = Jvm.exec) (hb : c.code = code) (hr : meth.sig.returnType = ret) (hlocks : meth.locks = false) (hlc : ∀ q ∈ locs, s.heap.size ≤ q.base) (hk : k ≤ 601024) (hn : n ≤ 7293034) :
    W p l e R s m #[Value.ref b] below meth c H locs k n (fun t => ∃ o, t.status = .running ∧ Ended t below o ∧ (o = .returned (some (.int 1)) ∧ Framed s o t [] 601024 7293034)) (F0 m 2099 lsA [.int 1]) := by
  have hdg : decode code 2099 = .ok (.ireturn, 1) := dL_law_2099
  intro T hT X0
  have X1 := stand_widen X0 hk hn
  have X : Stand p l e R s m #[Value.ref b] below meth c T [] 601024 7293034 := Stand.dropFresh (locs := []) (J := locs) X1 hlc
  obtain ⟨fs, hret, hrun, hended, hW, hframe⟩ := X.leave (v := some (.int 1)) (hlocks := hlocks) (fun h => by rw [hr] at h; cases h)
  have hmeth' : T.vm.method? m = some meth := X.method'
  refine ⟨T.setFrames fs, ?_, .returned (some (.int 1)), hrun, hended, rfl, ⟨_, rfl⟩, hW, hframe⟩
  jvm_step X.here [X.here.top, hx, hb, hdg, hmeth', hr, ret, narrow_b1]
  (try refine ⟨rfl, ?_⟩); (try refine ⟨rfl, ?_⟩)
  first | (intro acts; rw [hret _ acts rfl rfl rfl]) | rw [hret _ _ rfl rfl rfl]
  exact Steps.refl _
