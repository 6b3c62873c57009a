/-! CHAINS, step by step; SUMS -/
section CH
variable {T z : Nat} {m : Nat → Int32}
theorem ch_ind (hI : Iv T z m) {P : Nat → Prop} (h0 : ∀ c, c < nC m → cr m c 2 = -1 → P c) (h1 : ∀ c d, c < nC m → d < nC m → cr m c 2 = iN d → P d → P c) : ∀ c, c < nC m → P c := by
  have h12 := hI.ic12
  have key : ∀ (k c : Nat), c < nC m → dp (hol m) k (iN c) → P c := by
    intro k
    induction k with
    | zero => intro c hc p; exact (iN_m1 (by omega) p).elim
    | succ k ih =>
      intro c hc p
      have p2 := p.2
      rw [iN_nat (by omega), hol_c (by omega)] at p2
      rcases hI.ihp hc with e | ⟨d, hd, e⟩
      · exact h0 c hc e
      · rw [e] at p2
        exact h1 c d hc hd e (ih d hd p2)
  intro c hc
  obtain ⟨k, hk⟩ := hI.idp c hc
  exact key k c hc hk
/-- the chain of the holder is one shorter -/
theorem ch_up (hI : Iv T z m) {c d : Nat} (hc : c < nC m) (hd : d < nC m) (e : cr m c 2 = iN d) : ∃ k, k + 2 ≤ 12 ∧ dp (hol m) (k + 1) (iN d) := by
  have h12 := hI.ic12
  obtain ⟨k, h1, h2⟩ := hI.idc hc
  have p2 := h2.2
  rw [iN_nat (by omega), hol_c (by omega), e] at p2
  cases k with
  | zero => exact (iN_m1 (by omega) p2).elim
  | succ k => exact ⟨k, by omega, p2⟩
theorem out_top {c : Nat} (hc : c < 12) (e : cr m c 2 = -1) : out m c = c := by
  show (if hol m c = -1 then c else _) = c
  rw [hol_c hc, if_pos e]
theorem out_in (hI : Iv T z m) {c d : Nat} (hc : c < nC m) (hd : d < nC m) (e : cr m c 2 = iN d) : out m c = out m d := by
  have h12 := hI.ic12
  obtain ⟨k, h1, h2⟩ := ch_up hI hc hd e
  show (if hol m c = -1 then c else oN (hol m) 11 (hol m c).toNatClampNeg) = oN (hol m) 12 d
  rw [hol_c (by omega), e, if_neg (iN_m1 (by omega)), iN_nat (by omega), oN_st (by omega) hI.ich hd h2 (show k ≤ 11 by omega), oN_st (by omega) hI.ich hd h2 (show k ≤ 12 by omega)]
theorem vof_top {c : Nat} (hc : c < 12) (e : cr m c 2 = -1) : vof m c = cr m c 3 := by
  unfold vof
  rw [out_top hc e]
theorem vof_in (hI : Iv T z m) {c d : Nat} (hc : c < nC m) (hd : d < nC m) (e : cr m c 2 = iN d) : vof m c = vof m d := by
  unfold vof
  rw [out_in hI hc hd e]
theorem reach_top {c : Nat} (hc : c < 12) (e : cr m c 2 = -1) : reach m c = (if cr m c 3 = -1 then false else true) := by
  show (if hol m c = -1 then (if atv m c = -1 then false else true) else _) = _
  rw [hol_c hc, if_pos e, atv_c hc]
theorem reach_in (hI : Iv T z m) {c d : Nat} (hc : c < nC m) (hd : d < nC m) (e : cr m c 2 = iN d) : reach m c = (if cr m d 1 = 0 then false else reach m d) := by
  have h12 := hI.ic12
  obtain ⟨k, h1, h2⟩ := ch_up hI hc hd e
  show (if hol m c = -1 then (if atv m c = -1 then false else true) else if opn m (hol m c).toNatClampNeg = 0 then false else rcN (hol m) (opn m) (atv m) 11 (hol m c).toNatClampNeg) = (if cr m d 1 = 0 then false else rcN (hol m) (opn m) (atv m) 12 d)
  rw [hol_c (by omega), e, if_neg (iN_m1 (by omega)), iN_nat (by omega), opn_c (by omega), rcN_st (by omega) hI.ich hd h2 (show k + 1 ≤ 11 by omega), rcN_st (by omega) hI.ich hd h2 (show k + 1 ≤ 12 by omega)]
theorem outw_no : outw m (-1) = 0 := cnN_st (k := 0) (show dp (hol m) 0 (-1) from rfl) (Nat.zero_le _)
theorem outw_in (hI : Iv T z m) {c : Nat} (hc : c < nC m) : outw m (iN c) = outw m (cr m c 2) + 1 := by
  have h12 := hI.ic12
  obtain ⟨k, h1, h2⟩ := hI.idc hc
  have p2 := h2.2
  rw [iN_nat (by omega), hol_c (by omega)] at p2
  show cnN (hol m) 12 (iN c) = cnN (hol m) 12 (cr m c 2) + 1
  rw [cnN_st h2 (by omega), cnN_st p2 (by omega)]
theorem outw_le (hI : Iv T z m) {x : Int32} (hx : ptr (nC m) x) : outw m x ≤ 12 := by
  obtain ⟨k, h1, h2⟩ := hI.idx hx
  unfold outw
  rw [cnN_st h2 h1]
  exact h1
/-- a closed crate on the way out -/
def acN (h o : Nat → Int32) : Nat → Int32 → Bool
  | 0, _ => false
  | k + 1, x => if x = -1 then false else if o x.toNatClampNeg = 0 then true else acN h o k (h x.toNatClampNeg)
def acl (m : Nat → Int32) (x : Int32) : Bool := acN (hol m) (opn m) 12 x
theorem acN_st {h o : Nat → Int32} : ∀ {k j : Nat} {x : Int32}, dp h k x → k ≤ j → acN h o j x = acN h o k x
  | 0, 0, _, _, _ => rfl
  | 0, j + 1, x, p, _ => by
    show (if x = -1 then false else _) = false
    rw [if_pos (show x = -1 from p)]
  | k + 1, 0, _, _, q => by omega
  | k + 1, j + 1, x, p, q => by
    show (if x = -1 then false else if o x.toNatClampNeg = 0 then true else acN h o j (h x.toNatClampNeg)) = (if x = -1 then false else if o x.toNatClampNeg = 0 then true else acN h o k (h x.toNatClampNeg))
    rw [acN_st p.2 (Nat.le_of_succ_le_succ q)]
theorem acl_no : acl m (-1) = false := acN_st (k := 0) (show dp (hol m) 0 (-1) from rfl) (Nat.zero_le _)
theorem acl_in (hI : Iv T z m) {c : Nat} (hc : c < nC m) : acl m (iN c) = (if cr m c 1 = 0 then true else acl m (cr m c 2)) := by
  have h12 := hI.ic12
  obtain ⟨k, h1, h2⟩ := hI.idc hc
  have p2 := h2.2
  rw [iN_nat (by omega), hol_c (by omega)] at p2
  show acN (hol m) (opn m) 12 (iN c) = (if cr m c 1 = 0 then true else acN (hol m) (opn m) 12 (cr m c 2))
  rw [acN_st h2 (by omega), acN_st p2 (show k ≤ 12 by omega)]
  show (if iN c = -1 then false else if opn m (iN c).toNatClampNeg = 0 then true else acN (hol m) (opn m) k (hol m (iN c).toNatClampNeg)) = _
  rw [if_neg (iN_m1 (by omega)), iN_nat (by omega), opn_c (by omega), hol_c (by omega)]
theorem acN_rG {st : Nat → Int32 × Bool → Int32 × Bool} {s0 : Int32 × Bool} (hs : ∀ c s, opb m c = true → st c s = s) (hI : Iv T z m) : ∀ (k : Nat) (x : Int32), ptr (nC m) x → acN (hol m) (opn m) k x = false → rG (hol m) st s0 k x = s0
  | 0, _, _, _ => rfl
  | k + 1, x, hx, h => by
    have h12 := hI.ic12
    show (if x = -1 then s0 else st x.toNatClampNeg (rG (hol m) st s0 k (hol m x.toNatClampNeg))) = s0
    rcases hx with e | ⟨d, hd, rfl⟩
    · rw [if_pos e]
    · have h' : (if iN d = -1 then false else if opn m (iN d).toNatClampNeg = 0 then true else acN (hol m) (opn m) k (hol m (iN d).toNatClampNeg)) = false := h
      rw [if_neg (iN_m1 (by omega)), iN_nat (by omega)] at h'
      rw [if_neg (iN_m1 (by omega)), iN_nat (by omega)]
      by_cases q : opn m d = 0
      · rw [if_pos q] at h'; cases h'
      · rw [if_neg q] at h'
        rw [acN_rG hs hI k _ (by rw [hol_c (by omega)]; exact hI.ihp hd) h']
        refine hs d s0 ?_
        rw [opn_c (by omega)] at q
        rcases hI.iob hd with e | e
        · exact (q e.1).elim
        · exact e.2
theorem mx_le (t y : Int32) : t ≤ mx t y := by
  unfold mx
  split
  · next h => exact Int32.le_of_lt h
  · exact Int32.le_refl _
theorem rG_le {h : Nat → Int32} {st : Nat → Int32 × Bool → Int32 × Bool} {s0 : Int32 × Bool} (hs : ∀ c s, s.1 ≤ (st c s).1) : ∀ (k : Nat) (x : Int32), s0.1 ≤ (rG h st s0 k x).1
  | 0, _ => Int32.le_refl _
  | k + 1, x => by
    show s0.1 ≤ (if x = -1 then s0 else st x.toNatClampNeg (rG h st s0 k (h x.toNatClampNeg))).1
    split
    · exact Int32.le_refl _
    · exact Int32.le_trans (rG_le hs k _) (hs _ _)
theorem stM_le {v : Nat} {g : Bool} {a : Int32} (c : Nat) (s : Int32 × Bool) : s.1 ≤ (stM m v g a c s).1 := by
  unfold stM
  split
  · exact Int32.le_refl _
  · exact mx_le _ _
theorem stM_op {v : Nat} {g : Bool} {a : Int32} (c : Nat) (s : Int32 × Bool) (h : opb m c = true) : stM m v g a c s = s := by
  unfold stM
  rw [if_pos h]
theorem ready_ge (i : Nat) : m 0 ≤ aReady m i := by
  unfold aReady
  split
  · exact Int32.le_refl _
  · split
    · exact rG_le (s0 := (m 0, false)) (fun c s => stM_le c s) 12 _
    · exact rG_le (s0 := (m 0, false)) (fun c s => stM_le c s) 12 _
theorem ready_op (hI : Iv T z m) {i : Nat} (hi : i < nW m) (h : acl m (wk m i 4) = false) : aReady m i = m 0 := by
  unfold aReady
  split
  · rfl
  · split
    · rw [acN_rG (fun c s => stM_op c s) hI 12 _ (hI.iwp hi) h]
    · rw [acN_rG (fun c s => stM_op c s) hI 12 _ (hI.iwp hi) h]
-- what holds of a crate
theorem cr_01 (hI : Iv T z m) {c : Nat} (hc : c < nC m) : cr m c 1 = 0 ∨ cr m c 1 = 1 := (hI.ico c hc).1
theorem hol_open (hI : Iv T z m) {c d : Nat} (hc : c < nC m) (hd : d < nC m) (e : cr m c 2 = iN d) (ho : cr m c 1 = 1) : cr m d 1 = 1 := by
  have h12 := hI.ic12
  rcases (hI.ico c hc).2.2.1 with q | ⟨d', hd', q, h⟩
  · rw [e] at q; exact (iN_m1 (by omega) q).elim
  · have := (iN_eq (by omega) (by omega)).mp (e.symm.trans q)
    subst this
    have h' := h ho
    rwa [opn_c (by omega)] at h'
/-- an open crate is within reach -/
theorem open_reach (hI : Iv T z m) : ∀ c, c < nC m → cr m c 1 = 1 → reach m c = true := by
  have h12 := hI.ic12
  have h8 := hI.iv8
  refine ch_ind hI (P := fun c => cr m c 1 = 1 → reach m c = true) (fun c hc e ho => ?_) (fun c d hc hd e ih ho => ?_)
  · rw [reach_top (by omega) e]
    rcases (hI.ico c hc).2.2.2.1 with ⟨-, -, q, -⟩ | ⟨⟨v, hv, q⟩, -, -⟩
    · exact absurd (q.symm.trans ho) (by decide)
    · rw [q, if_neg (iN_m1 (by omega))]
  · have hd1 := hol_open hI hc hd e ho
    rw [reach_in hI hc hd e, hd1, if_neg (by decide)]
    exact ih hd1
theorem cr_go (hI : Iv T 12 m) {c : Nat} (hc : c < nC m) (h : vof m c = -1) : cr m c 1 = 0 ∧ reach m c = false ∧ (∃ v, v < nV m ∧ cr m (out m c) 4 = iN v) ∧ ∃ a, tm m < a ∧ a ≤ tm m + 200 ∧ cr m (out m c) 5 = iN a := by
  have h12 := hI.ic12
  have h8 := hI.iv8
  have ho := hI.iout hc
  have hr : reach m c = false := by
    cases e : reach m c
    · rfl
    · obtain ⟨v, hv, q⟩ := hI.irv hc e
      rw [h] at q
      exact (m1_iN (by omega) q).elim
  refine ⟨?_, hr, ?_⟩
  · rcases cr_01 hI hc with q | q
    · exact q
    · rw [open_reach hI c hc q] at hr; cases hr
  · rcases (hI.ico _ ho).2.2.2.1 with ⟨-, -, -, ⟨v, hv, q⟩, a, qa, -, qs, ql⟩ | ⟨⟨v, hv, q⟩, -, -⟩
    · exact ⟨⟨v, hv, q⟩, a, qs (by omega), ql, qa⟩
    · unfold vof at h
      rw [q] at h
      exact (iN_m1 (by omega) h).elim
theorem cr_at (hI : Iv T z m) {c : Nat} (hc : c < nC m) (h : ¬ vof m c = -1) : ∃ v, v < nV m ∧ vof m c = iN v ∧ cr m (out m c) 4 = -1 ∧ cr m (out m c) 5 = -1 := by
  have ho := hI.iout hc
  rcases (hI.ico _ ho).2.2.2.1 with ⟨q, -⟩ | ⟨⟨v, hv, q⟩, h4, h5⟩
  · exact (h q).elim
  · exact ⟨v, hv, q, h4, h5⟩
end CH
-- sums
def sm (f : Nat → Int32) : Nat → Int32
  | 0 => 0
  | n + 1 => sm f n + f n
theorem fld_s {α : Type} {f : Nat → α → α} (k : Nat) (a : α) : fld f (k + 1) 0 a = f k (fld f k 0 a) := by
  rw [fld_last, Nat.zero_add]
theorem fld_sm {g : Nat → Int32 → Int32} {f : Nat → Int32} : ∀ (n : Nat) (a : Int32), (∀ i, i < n → ∀ b, g i b = b + f i) → fld g n 0 a = a + sm f n
  | 0, a, _ => by show a = a + 0; rw [Int32.add_zero]
  | n + 1, a, h => by
    rw [fld_s, fld_sm n a (fun i hi b => h i (by omega) b), h n (by omega)]
    show a + sm f n + f n = a + (sm f n + f n)
    rw [Int32.add_assoc]
theorem fld_sm0 {g : Nat → Int32 → Int32} {f : Nat → Int32} (n : Nat) (h : ∀ i, i < n → ∀ b, g i b = b + f i) : fld g n 0 0 = sm f n := by
  rw [fld_sm n 0 h, Int32.zero_add]
theorem sm_congr {f g : Nat → Int32} : ∀ (n : Nat), (∀ i, i < n → f i = g i) → sm f n = sm g n
  | 0, _ => rfl
  | n + 1, h => by
    show sm f n + f n = sm g n + g n
    rw [sm_congr n (fun i hi => h i (by omega)), h n (by omega)]
theorem sm_add {f g : Nat → Int32} : ∀ (n : Nat), sm (fun i => f i + g i) n = sm f n + sm g n
  | 0 => (show (0 : Int32) = 0 + 0 by decide)
  | n + 1 => by
    show sm (fun i => f i + g i) n + (f n + g n) = sm f n + f n + (sm g n + g n)
    rw [sm_add n]
    ac_rfl
theorem sm_zero : ∀ (n : Nat), sm (fun _ => 0) n = 0
  | 0 => rfl
  | n + 1 => by
    show sm (fun _ => 0) n + 0 = 0
    rw [sm_zero n]; decide
theorem sm_swap {f : Nat → Nat → Int32} (k : Nat) : ∀ (n : Nat), sm (fun i => sm (fun j => f i j) k) n = sm (fun j => sm (fun i => f i j) n) k
  | 0 => (sm_zero k).symm
  | n + 1 => by
    show sm (fun i => sm (fun j => f i j) k) n + sm (fun j => f n j) k = sm (fun j => sm (fun i => f i j) n + f n j) k
    rw [sm_swap k n, sm_add]
/-- one alone -/
theorem sm_one {f : Nat → Int32} {v : Nat} : ∀ (n : Nat), v < n → (∀ i, i < n → i ≠ v → f i = 0) → sm f n = f v
  | 0, h, _ => absurd h (Nat.not_lt_zero v)
  | n + 1, h, h0 => by
    show sm f n + f n = f v
    by_cases e : v = n
    · subst e
      rw [sm_congr (g := fun _ => 0) v (fun i hi => h0 i (by omega) (by omega)), sm_zero, Int32.zero_add]
    · rw [sm_one n (by omega) (fun i hi hn => h0 i (by omega) hn), h0 n (by omega) (fun q => e q.symm), Int32.add_zero]
theorem sm_0 {f : Nat → Int32} (n : Nat) (h : ∀ i, i < n → f i = 0) : sm f n = 0 := (sm_congr n h).trans (sm_zero n)
/-- one changed -/
theorem sm_upd {f g : Nat → Int32} {v : Nat} {d : Int32} : ∀ (n : Nat), v < n → (∀ i, i < n → i ≠ v → g i = f i) → g v = f v + d → sm g n = sm f n + d
  | 0, h, _, _ => absurd h (Nat.not_lt_zero v)
  | n + 1, h, h0, hv => by
    show sm g n + g n = sm f n + f n + d
    by_cases e : v = n
    · subst e
      rw [sm_congr (g := f) v (fun i hi => h0 i (by omega) (by omega)), hv]
      ac_rfl
    · rw [sm_upd n (by omega) (fun i hi hn => h0 i (by omega) hn) hv, h0 n (by omega) (fun q => e q.symm)]
      ac_rfl
