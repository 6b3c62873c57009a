/-! THE INVARIANT of this law; what its sums say -/
def J1 (m : Nat → Int32) (i : Nat) : Prop := ∃ a, a ≤ 20 ∧ wk m i 2 = iN a ∧ (wat m i = -1 → 1 ≤ a)
def J2 (m : Nat → Int32) (c : Nat) : Prop := cr m c 1 = 0 → ∃ s, s ≤ tm m ∧ cr m c 8 = iN s
def Jv (m : Nat → Int32) : Prop :=
  (∀ i, i < nW m → J1 m i) ∧ (∀ c, c < nC m → J2 m c) ∧
  m 5 = sm (fun i => wk m i 6) (nW m) ∧ m 5 = sm (fun v => vn m v 4) (nV m) + m 6 ∧ (∀ v, nV m ≤ v → v < 8 → vn m v 4 = 0) ∧
  ∀ l, l < 6 → (∃ a, a ≤ 255 ∧ ln m l 3 = iN a) ∧ ∃ a, a ≤ 255 ∧ ln m l 2 = iN a
section JI
variable {T z : Nat} {m : Nat → Int32}
def ind (b : Prop) [Decidable b] : Int32 := if b then 1 else 0
theorem wat_no {i : Nat} (e : wk m i 4 = -1) : wat m i = wk m i 5 := if_pos e
theorem wat_in {i c : Nat} (hc : c < 2147483648) (e : wk m i 4 = iN c) : wat m i = vof m c := by
  unfold wat
  rw [e, if_neg (iN_m1 hc), iN_nat hc]
theorem wto_no {i : Nat} (e : wk m i 4 = -1) : wto m i = -1 := if_pos e
theorem wto_in {i c : Nat} (hc : c < 2147483648) (e : wk m i 4 = iN c) : wto m i = cr m (out m c) 4 := by
  unfold wto
  rw [e, if_neg (iN_m1 hc), iN_nat hc]
/-- a work is at one venue, or on the way to one -/
theorem wat_wto (hI : Iv T 12 m) {i : Nat} (hi : i < nW m) : (wat m i = -1 ∧ ∃ v, v < nV m ∧ wto m i = iN v) ∨ ((∃ v, v < nV m ∧ wat m i = iN v) ∧ wto m i = -1) := by
  have h12 := hI.ic12
  rcases hI.iwp hi with e | ⟨c, hc, e⟩
  · refine Or.inr ⟨?_, wto_no e⟩
    obtain ⟨v, hv, q⟩ := (hI.iwo i hi).2.2.2.2.1 e
    exact ⟨v, hv, (wat_no e).trans q⟩
  · rw [wat_in (by omega) e, wto_in (by omega) e]
    by_cases h : vof m c = -1
    · obtain ⟨-, -, ⟨v, hv, q⟩, -⟩ := cr_go hI hc h
      exact Or.inl ⟨h, v, hv, q⟩
    · obtain ⟨v, hv, q, q4, -⟩ := cr_at hI hc h
      exact Or.inr ⟨⟨v, hv, q⟩, q4⟩
theorem sm_ind {x : Int32} {b : Int32} {n : Nat} (hn : n ≤ 2147483648) (h : ∃ v, v < n ∧ x = iN v) : sm (fun v => if x = iN v then b else 0) n = b := by
  obtain ⟨v, hv, rfl⟩ := h
  rw [sm_one (v := v) n hv (fun i hi hne => if_neg (fun q => hne ((iN_eq (by omega) (by omega)).mp q).symm)), if_pos rfl]
theorem sm_noind {x : Int32} {b : Int32} {n : Nat} (hn : n ≤ 2147483648) (h : x = -1) : sm (fun v => if x = iN v then b else 0) n = 0 :=
  sm_0 n fun i hi => if_neg (fun q => m1_iN (by omega) (h.symm.trans q))
theorem aVat_sm {x : Int32} : aVat m x = sm (fun i => if wat m i = x then wk m i 1 else 0) (nW m) := by
  unfold aVat
  refine fld_sm0 _ fun i hi b => ?_
  split
  · rfl
  · rw [Int32.add_zero]
theorem aVto_sm {x : Int32} : aVto m x = sm (fun i => if wto m i = x then wk m i 1 else 0) (nW m) := by
  unfold aVto
  refine fld_sm0 _ fun i hi b => ?_
  split
  · rfl
  · rw [Int32.add_zero]
theorem aVin_sm {x : Int32} : aVin m x = sm (fun i => if isin m (wk m i 4) x = true then wk m i 1 else 0) (nW m) := by
  unfold aVin
  refine fld_sm0 _ fun i hi b => ?_
  split
  · rfl
  · rw [Int32.add_zero]
theorem aWin_sm {x : Int32} : aWin m x = sm (fun i => if isin m (wk m i 4) x = true then 1 else 0) (nW m) := by
  unfold aWin
  refine fld_sm0 _ fun i hi b => ?_
  split
  · rfl
  · rw [Int32.add_zero]
theorem aCbl_sm {x : Int32} : aCbl m x = sm (fun c => if isin m (cr m c 2) x = true then 1 else 0) (nC m) := by
  unfold aCbl
  refine fld_sm0 _ fun i hi b => ?_
  split
  · rfl
  · rw [Int32.add_zero]
theorem aDirW_sm {x : Int32} : aDirW m x = sm (fun i => if wk m i 4 = x then 1 else 0) (nW m) := by
  unfold aDirW
  refine fld_sm0 _ fun i hi b => ?_
  split
  · rfl
  · rw [Int32.add_zero]
theorem aDirC_sm {x : Int32} : aDirC m x = sm (fun i => if cr m i 2 = x then 1 else 0) (nC m) := by
  unfold aDirC
  refine fld_sm0 _ fun i hi b => ?_
  split
  · rfl
  · rw [Int32.add_zero]
theorem aKat_sm {x : Int32} : aKat m x = sm (fun k => if co m k = x then 1 else 0) (nK m) := by
  unfold aKat
  refine fld_sm0 _ fun i hi b => ?_
  split
  · rfl
  · rw [Int32.add_zero]
theorem aWay_sm : aWay m = sm (fun i => if wat m i = -1 then 1 else 0) (nW m) := by
  unfold aWay
  refine fld_sm0 _ fun i hi b => ?_
  split
  · rfl
  · rw [Int32.add_zero]
theorem aOpn_sm (hI : Iv T z m) : aOpn m = sm (fun c => if cr m c 1 = 1 then 1 else 0) (nC m) := by
  unfold aOpn
  refine fld_sm0 _ fun c hc b => ?_
  rcases hI.iob hc with ⟨e1, e2⟩ | ⟨e1, e2⟩
  · rw [e1, e2, iF, if_neg (by decide), Int32.add_zero]
  · rw [e1, e2, iT, if_pos rfl]
/-- all values are somewhere -/
theorem val_all (hI : Iv T 12 m) : sm (fun v => aVat m (iN v)) (nV m) + sm (fun v => aVto m (iN v)) (nV m) = sm (fun i => wk m i 1) (nW m) := by
  have h8 := hI.iv8
  have e1 : sm (fun v => aVat m (iN v)) (nV m) = sm (fun i => sm (fun v => if wat m i = iN v then wk m i 1 else 0) (nV m)) (nW m) :=
    (sm_congr (g := fun v => sm (fun i => if wat m i = iN v then wk m i 1 else 0) (nW m)) _ (fun v _ => aVat_sm)).trans (sm_swap (f := fun v i => if wat m i = iN v then wk m i 1 else 0) _ _)
  have e2 : sm (fun v => aVto m (iN v)) (nV m) = sm (fun i => sm (fun v => if wto m i = iN v then wk m i 1 else 0) (nV m)) (nW m) :=
    (sm_congr (g := fun v => sm (fun i => if wto m i = iN v then wk m i 1 else 0) (nW m)) _ (fun v _ => aVto_sm)).trans (sm_swap (f := fun v i => if wto m i = iN v then wk m i 1 else 0) _ _)
  rw [e1, e2, ← sm_add]
  refine sm_congr _ fun i hi => ?_
  rcases wat_wto hI hi with ⟨e, h⟩ | ⟨h, e⟩
  · rw [sm_noind (by omega) e, sm_ind (by omega) h, Int32.zero_add]
  · rw [sm_noind (by omega) e, sm_ind (by omega) h, Int32.add_zero]
theorem sm_const : ∀ (n : Nat), sm (fun _ => 1) n = iN n
  | 0 => rfl
  | n + 1 => by
    show sm (fun _ => 1) n + 1 = iN (n + 1)
    rw [sm_const n]
    exact iN_s n
/-- all couriers are somewhere -/
theorem cou_all (hI : Iv T z m) : sm (fun v => aKat m (iN v)) (nV m) + sm (fun k => if co m k = -1 then 1 else 0) (nK m) = iN (nK m) := by
  have h8 := hI.iv8
  have e1 : sm (fun v => aKat m (iN v)) (nV m) = sm (fun k => sm (fun v => if co m k = iN v then (1 : Int32) else 0) (nV m)) (nK m) :=
    (sm_congr (g := fun v => sm (fun k => if co m k = iN v then 1 else 0) (nK m)) _ (fun v _ => aKat_sm)).trans (sm_swap (f := fun v k => if co m k = iN v then (1 : Int32) else 0) _ _)
  rw [e1, ← sm_add, ← sm_const]
  refine sm_congr _ fun k hk => ?_
  rcases (hI.iko k hk).1 with e | ⟨v, hv, e⟩
  · rw [sm_noind (by omega) e, if_pos e]; decide
  · rw [sm_ind (by omega) ⟨v, hv, e⟩, if_neg (by rw [e]; exact iN_m1 (by omega))]; decide
end JI
