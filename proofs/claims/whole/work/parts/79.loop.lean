/-! THE LAW: its loop -/
theorem and31 (y : Int32) : ∃ d, d < 32 ∧ y &&& 31 = iN d := by
  have h : (y &&& 31).toBitVec.toNat ≤ 31 := by
    rw [Int32.toBitVec_and, BitVec.toNat_and]
    exact Nat.and_le_right
  refine ⟨(y &&& 31).toBitVec.toNat, by omega, ?_⟩
  apply Int32.toBitVec_inj.mp
  apply BitVec.eq_of_toNat_eq
  have e : (iN (y &&& 31).toBitVec.toNat).toBitVec = BitVec.ofNat 32 (y &&& 31).toBitVec.toNat := rfl
  rw [e, BitVec.toNat_ofNat, Nat.mod_eq_of_lt (by omega)]
theorem len6 {L i : Nat} (hL : L ≤ 3072) (hi : i ≤ 4000) : iN L - 6 < iN i ↔ L < i + 6 := by
  by_cases h : 6 ≤ L
  · rw [show (6 : Int32) = iN 6 from rfl, iN_sub h, iN_lt (by omega) (by omega)]
    omega
  · constructor
    · intro _; omega
    · intro _
      have h2 : iN L - 6 < 0 := (by decide +kernel : ∀ L, L < 6 → iN L - 6 < 0) L (by omega)
      exact Int32.lt_of_lt_of_le h2 (iN_ge (by omega))
theorem ar1 {T r N M : Nat} (h : T + N * (r + 1) ≤ M) : T + N ≤ M ∧ T + N + N * r ≤ M := by
  rw [Nat.mul_succ] at h
  generalize N * r = y at h ⊢
  exact ⟨Nat.le_trans (Nat.add_le_add_left (Nat.le_add_left N y) T) h, by rw [Nat.add_assoc, Nat.add_comm N y]; exact h⟩
section LO
variable {X : Cx} {mc ms : Nat} {B : Bs} {b L : Nat} {z : Nat → Int32}
theorem law_step (hx : Fx X cL_law 7 RL 12 mc ms) (hC : GC (xΓ X) B) (htr : (xl X).stackTraces = false) (hX : XS X b L z) {G : Gf} {sz k n T i : Nat} {w : Wl} (hi : i + 6 ≤ L) (hW : Wd (xΓ X) B w G) (hA : AL T w) (hT : T + 40000 ≤ 1000000000) (hk : k + 1 ≤ mc) (hn : n + 6 ≤ ms) (kk : ∀ (G2 : Gf) (sz2 k2 n2 : Nat) (w2 : Wl) (l5 l6 : Option Value), k2 ≤ k + 1 → n2 ≤ n + 6 → Wd (xΓ X) B w2 G2 → AL (T + 40000) w2 → J X 7 G2 sz2 k2 n2 2092 (lsL B b i l5 l6) []) : J X 7 G sz k n 40 (lsL B b i none none) [.int (z i &&& 31)] := by
  obtain ⟨d, hd, e⟩ := and31 (z i)
  rw [e]
  rcases (by omega : d = 0 ∨ d = 1 ∨ d = 2 ∨ d = 3 ∨ d = 4 ∨ d = 5 ∨ d = 6 ∨ d = 7 ∨ d = 8 ∨ d = 9 ∨ d = 10 ∨ d = 11 ∨ d = 12 ∨ d = 13 ∨ d = 14 ∨ d = 15 ∨ d = 16 ∨ d = 17 ∨ d = 18 ∨ d = 19 ∨ d = 20 ∨ d = 21 ∨ d = 22 ∨ d = 23 ∨ d = 24 ∨ d = 25 ∨ d = 26 ∨ d = 27 ∨ d = 28 ∨ d = 29 ∨ d = 30 ∨ d = 31) with rfl | rfl | rfl | rfl | rfl | rfl | rfl | rfl | rfl | rfl | rfl | rfl | rfl | rfl | rfl | rfl | rfl | rfl | rfl | rfl | rfl | rfl | rfl | rfl | rfl | rfl | rfl | rfl | rfl | rfl | rfl | rfl
  · exact J_swIn hx 180 dL_law_40 (by decide +kernel) (by decide +kernel) (off := 140) (by decide +kernel) rfl (lc_0 hx hC htr hX hi hW hA hT hk hn kk)
  · exact J_swIn hx 272 dL_law_40 (by decide +kernel) (by decide +kernel) (off := 232) (by decide +kernel) rfl (lc_1 hx hC htr hX hi hW hA hT hk hn kk)
  · exact J_swIn hx 352 dL_law_40 (by decide +kernel) (by decide +kernel) (off := 312) (by decide +kernel) rfl (lc_2 hx hC htr hX hi hW hA hT hk hn kk)
  · exact J_swIn hx 432 dL_law_40 (by decide +kernel) (by decide +kernel) (off := 392) (by decide +kernel) rfl (lc_3 hx hC htr hX hi hW hA hT hk hn kk)
  · exact J_swIn hx 512 dL_law_40 (by decide +kernel) (by decide +kernel) (off := 472) (by decide +kernel) rfl (lc_4 hx hC htr hX hi hW hA hT hk hn kk)
  · exact J_swIn hx 568 dL_law_40 (by decide +kernel) (by decide +kernel) (off := 528) (by decide +kernel) rfl (lc_5 hx hC htr hX hi hW hA hT hk hn kk)
  · exact J_swIn hx 624 dL_law_40 (by decide +kernel) (by decide +kernel) (off := 584) (by decide +kernel) rfl (lc_6 hx hC htr hX hi hW hA hT hk hn kk)
  · exact J_swIn hx 692 dL_law_40 (by decide +kernel) (by decide +kernel) (off := 652) (by decide +kernel) rfl (lc_7 hx hC htr hX hi hW hA hT hk hn kk)
  · exact J_swIn hx 812 dL_law_40 (by decide +kernel) (by decide +kernel) (off := 772) (by decide +kernel) rfl (lc_8 hx hC htr hX hi hW hA hT hk hn kk)
  · exact J_swIn hx 868 dL_law_40 (by decide +kernel) (by decide +kernel) (off := 828) (by decide +kernel) rfl (lc_9 hx hC htr hX hi hW hA hT hk hn kk)
  · exact J_swIn hx 924 dL_law_40 (by decide +kernel) (by decide +kernel) (off := 884) (by decide +kernel) rfl (lc_10 hx hC htr hX hi hW hA hT hk hn kk)
  · exact J_swIn hx 992 dL_law_40 (by decide +kernel) (by decide +kernel) (off := 952) (by decide +kernel) rfl (lc_11 hx hC htr hX hi hW hA hT hk hn kk)
  · exact J_swIn hx 1048 dL_law_40 (by decide +kernel) (by decide +kernel) (off := 1008) (by decide +kernel) rfl (lc_12 hx hC htr hX hi hW hA hT hk hn kk)
  · exact J_swIn hx 1116 dL_law_40 (by decide +kernel) (by decide +kernel) (off := 1076) (by decide +kernel) rfl (lc_13 hx hC htr hX hi hW hA hT hk hn kk)
  · exact J_swIn hx 1172 dL_law_40 (by decide +kernel) (by decide +kernel) (off := 1132) (by decide +kernel) rfl (lc_14 hx hC htr hX hi hW hA hT hk hn kk)
  · exact J_swIn hx 1252 dL_law_40 (by decide +kernel) (by decide +kernel) (off := 1212) (by decide +kernel) rfl (lc_15 hx hC htr hX hi hW hA hT hk hn kk)
  · exact J_swIn hx 1308 dL_law_40 (by decide +kernel) (by decide +kernel) (off := 1268) (by decide +kernel) rfl (lc_16 hx hC htr hX hi hW hA hT hk hn kk)
  · exact J_swIn hx 1388 dL_law_40 (by decide +kernel) (by decide +kernel) (off := 1348) (by decide +kernel) rfl (lc_17 hx hC htr hX hi hW hA hT hk hn kk)
  · exact J_swIn hx 1456 dL_law_40 (by decide +kernel) (by decide +kernel) (off := 1416) (by decide +kernel) rfl (lc_18 hx hC htr hX hi hW hA hT hk hn kk)
  · exact J_swIn hx 1524 dL_law_40 (by decide +kernel) (by decide +kernel) (off := 1484) (by decide +kernel) rfl (lc_19 hx hC htr hX hi hW hA hT hk hn kk)
  · exact J_swIn hx 1592 dL_law_40 (by decide +kernel) (by decide +kernel) (off := 1552) (by decide +kernel) rfl (lc_20 hx hC htr hX hi hW hA hT hk hn kk)
  · exact J_swIn hx 1660 dL_law_40 (by decide +kernel) (by decide +kernel) (off := 1620) (by decide +kernel) rfl (lc_21 hx hC htr hX hi hW hA hT hk hn kk)
  · exact J_swIn hx 1716 dL_law_40 (by decide +kernel) (by decide +kernel) (off := 1676) (by decide +kernel) rfl (lc_22 hx hC htr hX hi hW hA hT hk hn kk)
  · exact J_swIn hx 1772 dL_law_40 (by decide +kernel) (by decide +kernel) (off := 1732) (by decide +kernel) rfl (lc_23 hx hC htr hX hi hW hA hT hk hn kk)
  · exact J_swIn hx 1828 dL_law_40 (by decide +kernel) (by decide +kernel) (off := 1788) (by decide +kernel) rfl (lc_24 hx hC htr hX hi hW hA hT hk hn kk)
  · exact J_swIn hx 1884 dL_law_40 (by decide +kernel) (by decide +kernel) (off := 1844) (by decide +kernel) rfl (lc_25 hx hC htr hX hi hW hA hT hk hn kk)
  · exact J_swIn hx 1952 dL_law_40 (by decide +kernel) (by decide +kernel) (off := 1912) (by decide +kernel) rfl (lc_26 hx hC htr hX hi hW hA hT hk hn kk)
  · exact J_swIn hx 2008 dL_law_40 (by decide +kernel) (by decide +kernel) (off := 1968) (by decide +kernel) rfl (lc_27 hx hC htr hX hi hW hA hT hk hn kk)
  · exact J_swIn hx 2021 dL_law_40 (by decide +kernel) (by decide +kernel) (off := 1981) (by decide +kernel) rfl (lc_28 hx hC htr hX hi hW hA hT hk hn kk)
  · exact J_swIn hx 2034 dL_law_40 (by decide +kernel) (by decide +kernel) (off := 1994) (by decide +kernel) rfl (lc_29 hx hC htr hX hi hW hA hT hk hn kk)
  · exact J_swIn hx 2078 dL_law_40 (by decide +kernel) (by decide +kernel) (off := 2038) (by decide +kernel) rfl (lc_30 hx hC htr hX hi hW hA hT hk hn kk)
  · exact J_swOut hx 2092 dL_law_40 (by decide +kernel) rfl (kk _ _ _ _ _ _ _ (Nat.le_succ _) (Nat.le_add_right _ _) hW (hA.fr (Nat.le_add_right _ _) hT (fun _ _ _ _ _ _ => rfl) rfl rfl))
theorem law_loop (hx : Fx X cL_law 7 RL 12 mc ms) (hC : GC (xΓ X) B) (htr : (xl X).stackTraces = false) (hX : XS X b L z) (hfin : ∀ (G : Gf) (sz k n : Nat) (ls : List (Option Value)), k ≤ mc → n ≤ ms → J X 7 G sz k n 2099 ls [.int 1]) :
    ∀ (r i : Nat) (G : Gf) (sz k n T : Nat) (w : Wl) (l5 l6 : Option Value), L ≤ i + 6 * r → i ≤ L → T + 40000 * r ≤ 1000000000 → k + r ≤ mc → n + 6 * r ≤ ms → Wd (xΓ X) B w G → AL T w → J X 7 G sz k n 23 (lsL B b i l5 l6) [] := by
  have hL := hX.2.2
  have head : ∀ (i : Nat) (G : Gf) (sz k n : Nat) (l5 l6 : Option Value), i ≤ L → k ≤ mc → n ≤ ms → (i + 6 ≤ L → J X 7 G sz k n 40 (lsL B b i none none) [.int (z i &&& 31)]) → J X 7 G sz k n 23 (lsL B b i l5 l6) [] := by
    intro i G sz k n l5 l6 hi hk hn kk
    refine J_il hx rfl dL_law_23 ?_
    refine J_al4 hx (i := 0) rfl rfl dL_law_25 ?_
    refine J_xlen hx hX dL_law_26 ?_
    refine J_bipush hx (6 : Int32) dL_law_27 rfl ?_
    refine J_isub hx dL_law_29 ?_
    refine J_icmp_gt hx 2098 dL_law_30 rfl (fun _ => ?_) (fun h => ?_)
    · refine J_iconst hx (1 : Int32) dL_law_2098 rfl ?_
      exact hfin _ _ _ _ _ hk hn
    · have h6 : i + 6 ≤ L := Nat.le_of_not_lt fun q => h ((len6 hL (by omega)).mpr q)
      refine J_al4 hx (i := 0) rfl rfl dL_law_33 ?_
      refine J_il hx rfl dL_law_34 ?_
      refine J_xs hx hX (vp_iN (by omega) hL) dL_law_36 ?_
      rw [iN_nat (by omega)]
      refine J_bipush hx (31 : Int32) dL_law_37 rfl ?_
      refine J_iand hx dL_law_39 ?_
      refine J_lw (ls' := lsL B b i none none) ⟨rfl, rfl, rfl, rfl, rfl, trivial⟩ ?_
      exact kk h6
  intro r
  induction r with
  | zero =>
    intro i G sz k n T w l5 l6 h1 h2 hT hk hn hW hA
    exact head i G sz k n l5 l6 h2 (by omega) (by omega) (fun h6 => by omega)
  | succ r ih =>
    intro i G sz k n T w l5 l6 h1 h2 hT hk hn hW hA
    obtain ⟨hT1, hT2⟩ := ar1 hT
    refine head i G sz k n l5 l6 h2 (by omega) (by omega) (fun h6 => ?_)
    refine law_step hx hC htr hX h6 hW hA hT1 (by omega) (by omega) fun G2 sz2 k2 n2 w2 l5' l6' g1 g2 hW2 hA2 => ?_
    refine J_iinc hx (i := 4) (v' := iN (i + 6)) rfl (show iN i + Int32.ofInt 6 = iN (i + 6) from iN_add i 6) (by decide) (hc_of rfl) rfl dL_law_2092 ?_
    refine J_goto hx 23 dL_law_2095 rfl ?_
    exact ih (i + 6) G2 sz2 k2 n2 (T + 40000) w2 l5' l6' (by omega) h6 hT2 (by omega) (by omega) hW2 hA2
/-- from the law's entry -/
theorem law_walk (hx : Fx X cL_law 7 RL 12 mc ms) (hC : GC (xΓ X) B) (hI : GI (xΓ X)) (htr : (xl X).stackTraces = false) (hX : XS X b L z) (hB : B.1 = (xΓ X).2.2.1.size) (hmc : 890 ≤ mc) (hms : 10000 ≤ ms) (hfin : ∀ (G : Gf) (sz k n : Nat) (ls : List (Option Value)), k ≤ mc → n ≤ ms → J X 7 G sz k n 2099 ls [.int 1]) {l1 l2 l3 l4 l5 l6 : Option Value} : J X 7 (fun _ => none) B.1 0 0 0 [some (.ref b), l1, l2, l3, l4, l5, l6] [] := by
  have hL := hX.2.2
  refine J_lw (ls' := [some (.ref b), none, none, none, none, none, none]) ⟨rfl, trivial⟩ ?_
  refine J_new hx clk_X12 cl_L_8 ins_X12 ini_X12 [.null, .null, .null, .null, .null, .null, .null] (by decide) (by omega) (by omega) dL_law_0 fun _ => ?_
  refine J_dup hx dL_law_3 ?_
  refine J_callI hx (kX12_init (l := xl X) (Γ := xΓ X) (a := B.1) hC hI rfl updG_self) ml_L_105 lk_X12_init (As := []) (rest := [.ref B.1]) rfl rfl (by decide) (by decide) (Nat.le_of_ble_eq_true rfl) (by omega) (by omega) dL_law_4 fun r G1 sz1 hh => ?_
  obtain ⟨rfl, rfl, -, hTS⟩ := hh
  refine J_as4 hx (i := 1) rfl (by decide) (hc_of rfl) rfl dL_law_7 ?_
  refine J_new hx clk_X13 cl_L_106 ins_X13 ini_X13 [.null, .null, .int 0, .null, .int 0, .int 0, .null, .int 0, .int 0, .null, .long 0] (by decide) (by omega) (by omega) dL_law_8 fun _ => ?_
  refine J_dup hx dL_law_11 ?_
  refine J_callI hx (kX13_init (l := xl X) (Γ := xΓ X) (a := B.1 + 371) rfl updG_self) ml_L_108 lk_X13_init (As := []) (rest := [.ref (B.1 + 371)]) rfl rfl (by decide) (by decide) (Nat.le_of_ble_eq_true rfl) (by omega) (by omega) dL_law_12 fun r G2 sz2 hh => ?_
  obtain ⟨rfl, rfl, hMS⟩ := hh
  refine J_as4 hx (i := 2) rfl (by decide) (hc_of rfl) rfl dL_law_15 ?_
  refine J_iconst hx (1 : Int32) dL_law_16 rfl ?_
  refine J_newL hx 1 (by decide) rfl (by decide) (by omega) (by omega) dL_law_17 fun _ => ?_
  refine J_as4 hx (i := 3) rfl (by decide) (hc_of rfl) rfl dL_law_19 ?_
  refine J_iconst hx (0 : Int32) dL_law_20 rfl ?_
  refine J_is hx (i := 4) (by decide) (hc_of rfl) rfl dL_law_21 ?_
  have old : ∀ x, x < B.1 + 371 → updG G2 (B.1 + 377) (.inl ((xΓ X).2.1 2, 1, .inr (.inl fun _ => 0))) x = G1 x := fun x hx => by
    rw [updG_ne (by omega), hMS.1 x hx, updG_ne (by omega)]
  have hT2 : TS (xΓ X) B B.1 (updG G2 (B.1 + 377) (.inl ((xΓ X).2.1 2, 1, .inr (.inl fun _ => 0)))) := by
    obtain ⟨t1, t2, t3, t4, t5, t6, t7, t8, ⟨f, t9, t9'⟩, t10, t11, t12, t13⟩ := hTS
    refine ⟨?_, t2.fr fun x _ h => old x (by omega), ?_, ?_, ?_, ?_, ?_, ?_, ⟨f, ?_, t9'⟩, fun j hj => (t10 j hj).fr fun x _ h => old x (by omega), ?_, ?_, ?_⟩
    · rw [old _ (by omega)]; exact t1
    · rw [old _ (by omega)]; exact t3
    · rw [old _ (by omega)]; exact t4
    · rw [old _ (by omega)]; exact t5
    · rw [old _ (by omega)]; exact t6
    · rw [old _ (by omega)]; exact t7
    · rw [old _ (by omega)]; exact t8
    · rw [old _ (by omega)]; exact t9
    · rw [old _ (by omega)]; exact t11
    · rw [old _ (by omega)]; exact t12
    · rw [old _ (by omega)]; exact t13
  have hM2 : MS (xΓ X) G1 (B.1 + 371) 6 (updG G2 (B.1 + 377) (.inl ((xΓ X).2.1 2, 1, .inr (.inl fun _ => 0)))) := by
    obtain ⟨m0, m1, m2, m3, m4, m5, m6⟩ := hMS
    refine ⟨fun x hx => old x hx, ?_, ?_, ?_, ?_, ?_, ?_⟩
    · rw [updG_ne (by omega)]; exact m1
    · rw [updG_ne (by omega)]; exact m2
    · rw [updG_ne (by omega)]; exact m3
    · rw [updG_ne (by omega)]; exact m4
    · rw [updG_ne (by omega)]; exact m5
    · rw [updG_ne (by omega)]; exact m6
  refine J_world hT2 hM2 updG_self fun G3 hW3 => ?_
  exact law_loop hx hC htr hX hfin 512 0 G3 _ _ _ 0 w0 none none (by omega) (Nat.zero_le _) (by decide) (by omega) (by omega) hW3 al0
end LO
