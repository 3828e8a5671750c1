/-! ===== 45.ways: a way's number, its row; the class's tables ===== -/
def low (n : Nat) (p : Nat → Nat) (i j : Nat) : Nat := if i < j ∧ p j < p i then 1 else 0
def hr (n : Nat) (p : Nat → Nat) : Nat → Nat
  | 0 => 0
  | i + 1 => hr n p i * (n - i) + sm (low n p i) n
def okH (n w : Nat) : Bool := hr n (P n w) n == w && (List.range (n + 1)).all (fun i => decide (hr n (P n w) i ≤ 720))
theorem okH_all : ∀ n : Nat, n < 7 → ∀ w : Nat, w < fac n → okH n w = true := by decide +kernel
theorem hr_end {n w : Nat} (hn : n < 7) (hw : w < fac n) : hr n (P n w) n = w := by
  have h := okH_all n hn w hw
  simp only [okH, Bool.and_eq_true, beq_iff_eq] at h
  exact h.1
theorem hr_le {n w i : Nat} (hn : n < 7) (hw : w < fac n) (hi : i ≤ n) : hr n (P n w) i ≤ 720 := by
  have h := okH_all n hn w hw
  simp only [okH, Bool.and_eq_true, beq_iff_eq, List.all_eq_true, List.mem_range, decide_eq_true_eq] at h
  exact h.2 i (by omega)
theorem low_le (n : Nat) (p : Nat → Nat) (i j : Nat) : low n p i j ≤ 1 := by unfold low; split <;> omega
theorem wayOf_in {n w i N : Nat} {row : Nat → Int32} {k : Int32 → Int32 → Option Int32} (hR : Row n w row) (hN : 6 ≤ N) (hN2 : N < 1000) (hn : n < 7) (hw : w < fac n) (hi : i < n) :
    ∀ (d f j : Nat), n = j + d → i < j → d < f → lp_X7_wayOf_L20 (nI n) N row (nI i) k f (nI (sm (low n (P n w) i) j)) (nI j) = k (nI (sm (low n (P n w) i) n)) (nI n) := by
  intro d
  induction d with
  | zero =>
    intro f j hj hij hf
    obtain ⟨f, rfl⟩ := pred1 hf
    unfold lp_X7_wayOf_L20
    rw [if_pos (nI_le (by omega) (by omega)), show j = n by omega]
  | succ d ih =>
    intro f j hj hij hf
    obtain ⟨f, rfl⟩ := pred1 (Nat.lt_of_le_of_lt (Nat.zero_le _) hf)
    unfold lp_X7_wayOf_L20
    have h1 := P_lt hn hw hi
    have h2 := P_lt hn hw (r := j) (by omega)
    have := ih f (j + 1) (by omega) (by omega) (by omega)
    rw [if_neg (nI_ge (by omega) (by omega)), if_neg (nG (by omega) (by omega)), if_neg (nG (by omega) (by omega)), nC (by omega), nC (by omega), hR i hi, hR j (by omega), ifLe (by omega) (by omega)]
    by_cases q : P n w i ≤ P n w j
    · have e : low n (P n w) i j = 0 := by unfold low; rw [if_neg (by omega)]
      rw [show sm (low n (P n w) i) (j + 1) = sm (low n (P n w) i) j by simp only [sm, e, Nat.add_zero]] at this
      rw [if_pos q, nI_1, nA0]
      exact this
    · have e : low n (P n w) i j = 1 := by unfold low; rw [if_pos ⟨hij, by omega⟩]
      rw [show sm (low n (P n w) i) (j + 1) = sm (low n (P n w) i) j + 1 by simp only [sm, e]] at this
      rw [if_neg q, nI_1, nI_1]
      exact this
theorem wayOf_out {n w N : Nat} {row : Nat → Int32} {k : Int32 → Int32 → Option Int32} (hR : Row n w row) (hN : 6 ≤ N) (hN2 : N < 1000) (hn : n < 7) (hw : w < fac n) :
    ∀ (d f i : Nat), n = i + d → d < f → lp_X7_wayOf_L4 (nI n) N row k f (nI (hr n (P n w) i)) (nI i) = k (nI w) (nI n) := by
  intro d
  induction d with
  | zero =>
    intro f i hi hf
    obtain ⟨f, rfl⟩ := pred1 hf
    unfold lp_X7_wayOf_L4
    rw [if_pos (nI_le (by omega) (by omega)), show i = n by omega, hr_end hn hw]
  | succ d ih =>
    intro f i hi hf
    obtain ⟨f, rfl⟩ := pred1 (Nat.lt_of_le_of_lt (Nat.zero_le _) hf)
    unfold lp_X7_wayOf_L4
    rw [if_neg (nI_ge (by omega) (by omega)), nI_1]
    have hz : sm (low n (P n w) i) (i + 1) = 0 := sm_0 _ (fun j hj => by unfold low; rw [if_neg (by omega)])
    have h := wayOf_in (k := fun y6 _ => lp_X7_wayOf_L4 (nI n) N row k f ((nI (hr n (P n w) i) * (nI n - nI i)) + y6) (nI (i + 1))) hR hN hN2 hn hw (i := i) (by omega) (n - (i + 1)) FU (i + 1) (by omega) (by omega) (by show _ < 4096; omega)
    rw [hz] at h
    refine h.trans ?_
    have := ih f (i + 1) (by omega) (by omega)
    rw [nS (by omega), nM, nA]
    exact this
theorem wayOf_m {n w N : Nat} {row : Nat → Int32} (hR : Row n w row) (hN : 6 ≤ N) (hN2 : N < 1000) (hn : n < 7) (hw : w < fac n) : f_X7_wayOf (nI n) N row = some (nI w) := by
  unfold f_X7_wayOf
  exact wayOf_out (k := fun y8 _ => some y8) hR hN hN2 hn hw n FU 0 (by omega) (by show _ < 4096; omega)
-- a row out of a way's number
def dg (n w i : Nat) : Nat := w / fac (n - 1 - i) % (n - i)
theorem m1p : ∀ r : Nat, r < 7 → nI r + (-1) = nI r - 1 := by decide +kernel
theorem dig_loop {n w : Nat} {k : Int32 → Int32 → (Nat → Int32) → Option ((Nat → Int32) × (Nat → Int32))} (hn : n < 7) (hw : w < fac n) :
    ∀ (r f : Nat) (of : Nat → Int32), r ≤ n → r < f → (∀ i, r ≤ i → i < n → of i = nI (dg n w i)) → ∃ a b of', (∀ i, i < n → of' i = nI (dg n w i)) ∧ lp_X7_isWay_L9 (nI n) k f (nI (w / fac (n - r))) (nI r - 1) of = k a b of' := by
  have h720 := fac_le n hn
  intro r
  induction r with
  | zero =>
    intro f of hr hf hof
    obtain ⟨f, rfl⟩ := pred1 hf
    unfold lp_X7_isWay_L9
    refine ⟨nI (w / fac (n - 0)), nI 0 - 1, of, fun i hi => hof i (by omega) hi, ?_⟩
    rw [if_pos (show nI 0 - 1 < 0 by decide)]
  | succ r ih =>
    intro f of hr hf hof
    obtain ⟨f, rfl⟩ := pred1 (Nat.lt_of_le_of_lt (Nat.zero_le _) hf)
    unfold lp_X7_isWay_L9
    have hwl : w / fac (n - (r + 1)) < 2 ^ 31 := Nat.lt_of_le_of_lt (Nat.div_le_self _ _) (by omega)
    have e2 : n - (r + 1) = n - 1 - r := by omega
    rw [nI_pred, if_neg (nP (by omega)), nS (by omega), if_neg (show ¬ nI (n - r) = 0 from nI_ne0 (by omega) (by omega)), if_neg (nG (by omega) (by omega)), if_neg (show ¬ nI (n - r) = 0 from nI_ne0 (by omega) (by omega)), pk_div hwl (by omega) (by omega), nM, nS (Nat.div_mul_le_self _ _), nC (by omega), m1p r (by omega)]
    have e1 : w / fac (n - (r + 1)) / (n - r) = w / fac (n - r) := by
      rw [Nat.div_div_eq_div_mul, show n - r = (n - (r + 1)) + 1 by omega, Nat.mul_comm]
      rfl
    have e3 : w / fac (n - (r + 1)) - w / fac (n - (r + 1)) / (n - r) * (n - r) = dg n w r := by
      unfold dg
      rw [← e2]
      have := Nat.mod_add_div (w / fac (n - (r + 1))) (n - r)
      rw [Nat.mul_comm] at this
      omega
    rw [e3, e1]
    refine ih f (upd of r (nI (dg n w r))) (by omega) (by omega) (fun i h1 h2 => ?_)
    by_cases q : i = r
    · subst q; rw [pk_us]
    · rw [pk_un q]; exact hof i (by omega) h2
/-- the place of the s-th clear bit from k on -/
def pz (t : Nat) : Nat → Nat → Nat → Nat
  | 0, _, k => k
  | f + 1, s, k => if bt6 t k then pz t f s (k + 1) else if s = 0 then k else pz t f (s - 1) (k + 1)
theorem inner_nat {t : Int32} {k : Int32 → Int32 → Option ((Nat → Int32) × (Nat → Int32))} : ∀ (f : Nat) (a b : Int32), lp_X7_isWay_L68 t k f a b = (lp_X7_isWay_L68 t (fun x y => some (fun _ => x, fun _ => y)) f a b).bind (fun u => k (u.1 0) (u.2 0))
  | 0, a, b => rfl
  | f + 1, a, b => by
    unfold lp_X7_isWay_L68
    cases h1 : f_X7_has t a with
    | none => rfl
    | some v =>
      simp only [bs]
      by_cases c1 : v = 0
      · by_cases c2 : b ≤ 0
        · simp only [if_pos c1, if_pos c2]; rfl
        · simp only [if_pos c1, if_neg c2]
          exact inner_nat f _ _
      · simp only [if_neg c1]
        exact inner_nat f _ _
theorem inner_val : ∀ t : Nat, t < 64 → ∀ s : Nat, s < 6 → pz t 6 s 0 < 6 → (lp_X7_isWay_L68 (nI t) (fun x y => some (fun _ => x, fun _ => y)) FU 0 (nI s)).map (fun u => u.1 0) = some (nI (pz t 6 s 0)) := by decide +kernel
theorem inner_m {t s : Nat} {k : Int32 → Int32 → Option ((Nat → Int32) × (Nat → Int32))} (ht : t < 64) (hs : s < 6) (hp : pz t 6 s 0 < 6) : ∃ y, lp_X7_isWay_L68 (nI t) k FU 0 (nI s) = k (nI (pz t 6 s 0)) y := by
  rw [inner_nat]
  have h := inner_val t ht s hs hp
  cases e : lp_X7_isWay_L68 (nI t) (fun x y => some (fun _ => x, fun _ => y)) FU 0 (nI s) with
  | none => rw [e] at h; cases h
  | some u =>
    rw [e] at h
    refine ⟨u.2 0, ?_⟩
    show k (u.1 0) (u.2 0) = _
    rw [show u.1 0 = nI (pz t 6 s 0) from Option.some.inj h]
def tkm (n w : Nat) : Nat → Nat
  | 0 => 0
  | i + 1 => tkm n w i ||| 2 ^ P n w i
def okT (n w : Nat) : Bool := (List.range n).all (fun i => decide (tkm n w i < 64) && decide (dg n w i < 6) && pz (tkm n w i) 6 (dg n w i) 0 == P n w i)
theorem okT_all : ∀ n : Nat, n < 7 → ∀ w : Nat, w < fac n → okT n w = true := by decide +kernel
theorem okT_at {n w i : Nat} (hn : n < 7) (hw : w < fac n) (hi : i < n) : tkm n w i < 64 ∧ dg n w i < 6 ∧ pz (tkm n w i) 6 (dg n w i) 0 = P n w i := by
  have h := okT_all n hn w hw
  simp only [okT, List.all_eq_true, List.mem_range, Bool.and_eq_true, decide_eq_true_eq, beq_iff_eq] at h
  have := h i hi
  exact ⟨this.1.1, this.1.2, this.2⟩
theorem at_loop {n w : Nat} {of : Nat → Int32} {k : Int32 → Int32 → (Nat → Int32) → Option ((Nat → Int32) × (Nat → Int32))} (hn : n < 7) (hw : w < fac n) (hof : ∀ i, i < n → of i = nI (dg n w i)) :
    ∀ (d f i : Nat) (at0 : Nat → Int32), n = i + d → d < f → (∀ q, q < i → at0 q = nI (P n w q)) → ∃ a b at', Row n w at' ∧ (∀ q, n ≤ q → at' q = at0 q) ∧ lp_X7_isWay_L47 (nI n) of k f (nI (tkm n w i)) (nI i) at0 = k a b at' := by
  intro d
  induction d with
  | zero =>
    intro f i at0 hi hf hr
    obtain ⟨f, rfl⟩ := pred1 hf
    unfold lp_X7_isWay_L47
    refine ⟨nI (tkm n w i), nI i, at0, fun q hq => hr q (by omega), fun _ _ => rfl, ?_⟩
    rw [if_pos (nI_le (by omega) (by omega))]
  | succ d ih =>
    intro f i at0 hi hf hr
    obtain ⟨f, rfl⟩ := pred1 (Nat.lt_of_le_of_lt (Nat.zero_le _) hf)
    obtain ⟨h1, h2, h3⟩ := okT_at hn hw (i := i) (by omega)
    have hp := P_lt hn hw (r := i) (by omega)
    obtain ⟨a, b, at', g1, g2, g3⟩ := ih f (i + 1) (upd at0 i (nI (P n w i))) (by omega) (by omega) (fun q hq => by
      by_cases e : q = i
      · subst e; rw [pk_us]
      · rw [pk_un e]; exact hr q (by omega))
    refine ⟨a, b, at', g1, fun q hq => by rw [g2 q hq, pk_un (by omega)], ?_⟩
    unfold lp_X7_isWay_L47
    rw [if_neg (nI_ge (by omega) (by omega)), if_neg (nG (by omega) (by omega)), nC (by omega), hof i (by omega)]
    obtain ⟨y, hy⟩ := inner_m (k := fun y17 _ => if nI i < 0 ∨ 6 ≤ (nI i).toNatClampNeg then none else lp_X7_isWay_L47 (nI n) of k f (nI (tkm n w i) ||| (1 <<< (y17 &&& 31))) (nI i + 1) (upd at0 (nI i).toNatClampNeg y17)) h1 h2 (by rw [h3]; omega)
    rw [nC (by omega)] at hy
    refine hy.trans ?_
    rw [h3, nI_1]
    show (if nI i < 0 ∨ 6 ≤ i then none else lp_X7_isWay_L47 (nI n) of k f (nI (tkm n w i) ||| (1 <<< (nI (P n w i) &&& 31))) (nI (i + 1)) (upd at0 i (nI (P n w i)))) = k a b at'
    rw [if_neg (fun z => by rcases z with z | z; exact nP (by omega) z; omega), orbit_eq _ h1 _ (by omega)]
    exact g3
theorem isWay_m {n w : Nat} {f_of f_at : Nat → Int32} (hn : n < 7) (hw : w < fac n) : ∃ of' at', Row n w at' ∧ (∀ q, n ≤ q → at' q = f_at q) ∧ f_X7_isWay (nI n) f_of f_at (nI w) = some (of', at') := by
  unfold f_X7_isWay
  obtain ⟨a, b, of', h1, h2⟩ := dig_loop (k := fun y5 y6 y7 => lp_X7_isWay_L47 (nI n) y7 (fun y20 y21 y22 => some (y7, y22)) FU 0 0 f_at) hn hw n FU f_of (Nat.le_refl _) (by show _ < 4096; omega) (fun i h1 h2 => by omega)
  rw [show w / fac (n - n) = w by rw [Nat.sub_self]; exact Nat.div_one w] at h2
  obtain ⟨a2, b2, at', g1, g2, g3⟩ := at_loop (k := fun _ _ y22 => some (of', y22)) hn hw h1 n FU 0 f_at (by omega) (by show _ < 4096; omega) (fun q hq => by omega)
  exact ⟨of', at', g1, g2, h2.trans g3⟩
-- the class's own numbers of rows
theorem fact_x : ∀ m : Nat, m < 7 → f_X5_factorial (nI m) = some (nI (fac m)) := by decide +kernel
theorem mask0 : ∀ n : Nat, n < 7 → (1 <<< (nI n &&& 31)) - 1 = nI (2 ^ n - 1) := by decide +kernel
theorem maskLow : ∀ m : Nat, m < 64 → ∀ k : Nat, k < 6 → (nI m &&& ((1 <<< (nI k &&& 31)) - 1)) = nI (m % 2 ^ k) := by decide +kernel
theorem maskOff : ∀ m : Nat, m < 64 → ∀ k : Nat, k < 6 → bt6 m k = true → (nI m &&& ((1 <<< (nI k &&& 31)) ^^^ (-1))) = nI (m - 2 ^ k) := by decide +kernel
def nrM (n w : Nat) : Nat → Nat
  | 0 => 2 ^ n - 1
  | i + 1 => nrM n w i - 2 ^ P n w i
def nrA (n w : Nat) : Nat → Nat
  | 0 => 0
  | i + 1 => nrA n w i + pc6 (nrM n w i % 2 ^ P n w i) * fac (n - 1 - i)
def frR (n w : Nat) : Nat → Nat
  | 0 => w
  | i + 1 => frR n w i % fac (n - 1 - i)
def fkN (m : Nat) : Nat → Nat → Nat → Nat
  | 0, _, _ => 0
  | f + 1, d, k => if bt6 m k then (if d = 0 then k else fkN m f (d - 1) (k + 1)) else fkN m f d (k + 1)
theorem free_x : ∀ m : Nat, m < 64 → ∀ d : Nat, d < 7 → f_X5_freeKeeper (nI m) (nI d) = some (nI (fkN m 6 d 0)) := by decide +kernel
def okN (n w : Nat) : Bool := nrA n w n == w && (List.range n).all (fun i => decide (nrM n w i < 64) && bt6 (nrM n w i) (P n w i) && decide (frR n w i < 720) && decide (frR n w i / fac (n - 1 - i) < 7) && fkN (nrM n w i) 6 (frR n w i / fac (n - 1 - i)) 0 == P n w i)
theorem okN_all : ∀ n : Nat, n < 7 → ∀ w : Nat, w < fac n → okN n w = true := by decide +kernel
theorem okN_at {n w i : Nat} (hn : n < 7) (hw : w < fac n) (hi : i < n) : nrM n w i < 64 ∧ bt6 (nrM n w i) (P n w i) = true ∧ frR n w i < 720 ∧ frR n w i / fac (n - 1 - i) < 7 ∧ fkN (nrM n w i) 6 (frR n w i / fac (n - 1 - i)) 0 = P n w i := by
  have h := okN_all n hn w hw
  simp only [okN, List.all_eq_true, List.mem_range, Bool.and_eq_true, decide_eq_true_eq, beq_iff_eq] at h
  have := h.2 i hi
  exact ⟨this.1.1.1.1, this.1.1.1.2, this.1.1.2, this.1.2, this.2⟩
theorem nrA_end {n w : Nat} (hn : n < 7) (hw : w < fac n) : nrA n w n = w := by
  have h := okN_all n hn w hw
  simp only [okN, Bool.and_eq_true, beq_iff_eq] at h
  exact h.1
theorem num_loop {n w : Nat} {row : Nat → Int32} {k : Int32 → Int32 → Int32 → Option Int32} (hR : Row n w row) (hn : n < 7) (hw : w < fac n) :
    ∀ (d f i : Nat), n = i + d → d < f → ∃ a b, lp_X5_numberOfRow_L13 (nI n) row k f (nI (nrA n w i)) (nI (nrM n w i)) (nI i) = k (nI w) a b := by
  intro d
  induction d with
  | zero =>
    intro f i hi hf
    obtain ⟨f, rfl⟩ := pred1 hf
    unfold lp_X5_numberOfRow_L13
    refine ⟨nI (nrM n w i), nI i, ?_⟩
    rw [if_pos (nI_le (by omega) (by omega)), show nrA n w i = w by rw [show i = n by omega]; exact nrA_end hn hw]
  | succ d ih =>
    intro f i hi hf
    obtain ⟨f, rfl⟩ := pred1 (Nat.lt_of_le_of_lt (Nat.zero_le _) hf)
    obtain ⟨a, b, h⟩ := ih f (i + 1) (by omega) (by omega)
    obtain ⟨h1, h2, -⟩ := okN_at hn hw (i := i) (by omega)
    have hp := P_lt hn hw (r := i) (by omega)
    refine ⟨a, b, ?_⟩
    unfold lp_X5_numberOfRow_L13
    have hm : nrM n w i % 2 ^ P n w i < 64 := Nat.lt_of_le_of_lt (Nat.mod_le _ _) h1
    rw [if_neg (nI_ge (by omega) (by omega)), item_in (by omega) (by omega), bs, hR i (by omega), maskLow _ h1 _ (by omega), bitCount_eq _ hm, bs, show (nI n - 1) - nI i = nI (n - 1 - i) from by rw [show (1 : Int32) = nI 1 from rfl, nS (by omega), nS (by omega)], fact_x _ (by omega), bs, nM, nA, maskOff _ h1 _ (by omega) h2, nI_1]
    exact h
theorem number_x {n w : Nat} {row : Nat → Int32} (hR : Row n w row) (hn : n < 7) (hw : w < fac n) : f_X5_numberOfRow (nI n) row = some (nI w) := by
  unfold f_X5_numberOfRow
  rw [mask0 n hn]
  obtain ⟨a, b, h⟩ := num_loop (k := fun y5 _ _ => some y5) hR hn hw n FU 0 (by omega) (by show _ < 4096; omega)
  exact h
theorem fill_loop {n w : Nat} {k : Int32 → Int32 → Int32 → (Nat → Int32) → Option (Nat → Int32)} (hn : n < 7) (hw : w < fac n) :
    ∀ (d f i : Nat) (row : Nat → Int32), n = i + d → d < f → (∀ q, q < i → row q = nI (P n w q)) → ∃ a b c row', Row n w row' ∧ lp_X5_fillRow_L14 (nI n) k f (nI (frR n w i)) (nI (nrM n w i)) (nI i) row = k a b c row' := by
  intro d
  induction d with
  | zero =>
    intro f i row hi hf hr
    obtain ⟨f, rfl⟩ := pred1 hf
    unfold lp_X5_fillRow_L14
    refine ⟨nI (frR n w i), nI (nrM n w i), nI i, row, fun q hq => hr q (by omega), ?_⟩
    rw [if_pos (nI_le (by omega) (by omega))]
  | succ d ih =>
    intro f i row hi hf hr
    obtain ⟨f, rfl⟩ := pred1 (Nat.lt_of_le_of_lt (Nat.zero_le _) hf)
    obtain ⟨h1, h2, h3, h4, h5⟩ := okN_at hn hw (i := i) (by omega)
    have hp := P_lt hn hw (r := i) (by omega)
    have hfp := fac_pos (n - 1 - i) (by omega)
    have hfl := fac_le (n - 1 - i) (by omega)
    obtain ⟨a, b, c, row', g1, g2⟩ := ih f (i + 1) (upd row i (nI (P n w i))) (by omega) (by omega) (fun q hq => by
      by_cases e : q = i
      · subst e; rw [pk_us]
      · rw [pk_un e]; exact hr q (by omega))
    refine ⟨a, b, c, row', g1, ?_⟩
    unfold lp_X5_fillRow_L14
    rw [if_neg (nI_ge (by omega) (by omega)), show (nI n - 1) - nI i = nI (n - 1 - i) from by rw [show (1 : Int32) = nI 1 from rfl, nS (by omega), nS (by omega)], fact_x _ (by omega), bs, if_neg (nI_nle hfp (by omega)), if_neg (nI_ne0 hfp (by omega)), pk_div (by omega) hfp (by omega), free_x _ h1 _ h4, bs, h5, if_neg (nI_nle hfp (by omega)), if_neg (nI_ne0 hfp (by omega)), put_in (by omega) (by omega), bs, nM, nS (Nat.div_mul_le_self _ _), maskOff _ h1 _ (by omega) h2, nI_1]
    have e : frR n w i - frR n w i / fac (n - 1 - i) * fac (n - 1 - i) = frR n w i % fac (n - 1 - i) := by
      have := Nat.mod_add_div (frR n w i) (fac (n - 1 - i))
      rw [Nat.mul_comm] at this
      omega
    rw [e]
    exact g2
theorem fill_x {n w : Nat} {row : Nat → Int32} (hn : n < 7) (hw : w < fac n) : ∃ row', Row n w row' ∧ f_X5_fillRow (nI n) row (nI w) = some row' := by
  unfold f_X5_fillRow
  rw [mask0 n hn]
  obtain ⟨a, b, c, row', h1, h2⟩ := fill_loop (k := fun _ _ _ y18 => some y18) hn hw n FU 0 row (by omega) (by show _ < 4096; omega) (fun q hq => by omega)
  exact ⟨row', h1, h2⟩
theorem swap_x {n w r : Nat} {row : Nat → Int32} (hR : Row n w row) (hn : n < 7) (hw : w < fac n) (hr : r + 1 < n) : ∃ row', Row n (X n w r) row' ∧ f_X5_swapInRow row (nI r) = some row' := by
  unfold f_X5_swapInRow
  refine ⟨upd (upd row r (row (r + 1))) (r + 1) (row r), fun q hq => ?_, ?_⟩
  · rw [P_X hn hw hr]
    unfold swp
    by_cases e2 : q = r + 1
    · subst e2
      rw [pk_us, if_neg (by omega), if_pos rfl, hR r (by omega)]
    · rw [pk_un e2]
      by_cases e1 : q = r
      · subst e1
        rw [pk_us, if_pos rfl, hR (q + 1) (by omega)]
      · rw [pk_un e1, if_neg e1, if_neg e2, hR q hq]
  · rw [item_in (by omega) (by omega), bs, nI_1, item_in (by omega) (by omega), bs, put_in (by omega) (by omega), bs, put_in (by omega) (by omega), bs]
theorem tab_in {n w : Nat} {k : Int32 → (Nat → Int32) → (Nat → Int32) → Option (Int32 × Int32 × (Nat → Int32) × (Nat → Int32) × (Nat → Int32))} (hn : n < 7) (hw : w < fac n) :
    ∀ (d f r : Nat) (row fc : Nat → Int32), n - 1 = r + d → d < f → Row n w row → (∀ v q, v < w → q + 1 < n → fc (v * 5 + q) = nI (X n v q)) → (∀ q, q < r → fc (w * 5 + q) = nI (X n w q)) →
      ∃ a row' fc', Row n w row' ∧ (∀ v q, v < w + 1 → q + 1 < n → fc' (v * 5 + q) = nI (X n v q)) ∧ lp_X5_become_L77 (nI n) (nI w) k f (nI r) row fc = k a row' fc' := by
  have h720 := fac_le n hn
  intro d
  induction d with
  | zero =>
    intro f r row fc hr hf hR h1 h2
    obtain ⟨f, rfl⟩ := pred1 hf
    unfold lp_X5_become_L77
    refine ⟨nI r, row, fc, hR, fun v q hv hq => ?_, ?_⟩
    · by_cases e : v = w
      · subst e; exact h2 q (by omega)
      · exact h1 v q (by omega) hq
    · rw [nI_1, if_pos (nI_le (by omega) (by omega))]
  | succ d ih =>
    intro f r row fc hr hf hR h1 h2
    obtain ⟨f, rfl⟩ := pred1 (Nat.lt_of_le_of_lt (Nat.zero_le _) hf)
    obtain ⟨row1, a1, a2⟩ := swap_x hR hn hw (r := r) (by omega)
    have hx := X_lt hn hw (r := r) (by omega)
    obtain ⟨row2, b1, b2⟩ := swap_x a1 hn hx (r := r) (by omega)
    rw [X_X hn hw (by omega)] at b1
    obtain ⟨a, row', fc', g1, g2, g3⟩ := ih f (r + 1) row2 (upd fc (w * 5 + r) (nI (X n w r))) (by omega) (by omega) b1 (fun v q hv hq => by rw [pk_un (by omega)]; exact h1 v q hv hq) (fun q hq => by
      by_cases e : q = r
      · subst e; rw [pk_us]
      · rw [pk_un (by omega)]; exact h2 q (by omega))
    refine ⟨a, row', fc', g1, g2, ?_⟩
    unfold lp_X5_become_L77
    rw [nI_1, if_neg (nI_ge (by omega) (by omega)), a2, bs, number_x a1 hn hx, bs, show nI w * 5 + nI r = nI (w * 5 + r) from by rw [show (5 : Int32) = nI 5 from rfl, nM, nA], put_in (by omega) (by omega), bs, b2, bs]
    exact g3
theorem cpy_at {α : Type} {f g : Nat → α} {d n j : Nat} : va_cpy f g 0 d n j = if d ≤ j ∧ j < d + n then f (j - d) else g j := by
  unfold va_cpy
  rw [Nat.zero_add]
theorem tab_out {n : Nat} {k : Int32 → (Nat → Int32) → (Nat → Int32) → (Nat → Int32) → Option (Int32 × Int32 × (Nat → Int32) × (Nat → Int32) × (Nat → Int32))} (hn : n < 7) :
    ∀ (d f w : Nat) (row fk fc : Nat → Int32), fac n = w + d → d < f → (∀ v q, v < w → q < n → fk (v * 6 + q) = nI (P n v q)) → (∀ v q, v < w → q + 1 < n → fc (v * 5 + q) = nI (X n v q)) →
      ∃ a row' fk' fc', Tab n fk' fc' ∧ lp_X5_become_L37 (nI n) (nI (fac n)) k f (nI w) row fk fc = k a row' fk' fc' := by
  have h720 := fac_le n hn
  intro d
  induction d with
  | zero =>
    intro f w row fk fc hw hf h1 h2
    obtain ⟨f, rfl⟩ := pred1 hf
    unfold lp_X5_become_L37
    refine ⟨nI w, row, fk, fc, ⟨fun v q hv hq => h1 v q (by omega) hq, fun v q hv hq => h2 v q (by omega) hq⟩, ?_⟩
    rw [if_pos (nI_le (by omega) (by omega))]
  | succ d ih =>
    intro f w row fk fc hw hf h1 h2
    obtain ⟨f, rfl⟩ := pred1 (Nat.lt_of_le_of_lt (Nat.zero_le _) hf)
    obtain ⟨row1, a1, a2⟩ := fill_x (row := row) hn (w := w) (by omega)
    have e6 : nI w * 6 = nI (w * 6) := by rw [show (6 : Int32) = nI 6 from rfl, nM]
    have c6 : (Int32.toNatClampNeg 6) = 6 := by decide
    have c0 : (Int32.toNatClampNeg 0) = 0 := by decide
    obtain ⟨b, row', fc', b1, b2, b3⟩ := tab_in (k := fun y14 y15 y16 => lp_X5_become_L37 (nI n) (nI (fac n)) k f (nI w + 1) y15 (va_cpy row1 fk 0 (w * 6) 6) y16) hn (w := w) (by omega) (n - 1) FU 0 row1 fc (by omega) (by show _ < 4096; omega) a1 h2 (fun q hq => by omega)
    obtain ⟨a, r2, fk2, fc2, g1, g2⟩ := ih f (w + 1) row' (va_cpy row1 fk 0 (w * 6) 6) fc' (by omega) (by omega) (fun v q hv hq => by
      rw [cpy_at]
      by_cases e : v = w
      · subst e
        rw [if_pos (by omega), show v * 6 + q - v * 6 = q by omega]
        exact a1 q hq
      · rw [if_neg (by omega)]
        exact h1 v q (by omega) hq) b2
    refine ⟨a, r2, fk2, fc2, g1, ?_⟩
    unfold lp_X5_become_L37
    rw [if_neg (nI_ge (by omega) (by omega)), if_neg (show ¬ (720 : Int32) ≤ nI w from nI_ge (b := 720) (by omega) (by omega)), a2, bs, e6, nC (by omega), c6, c0, if_neg (fun z => by rcases z with z | z; exact nP (by omega) z; omega)]
    refine b3.trans ?_
    rw [nI_1]
    exact g2
theorem become_x {n0 n : Nat} {row fk fc : Nat → Int32} (hn0 : n0 < 7) (hn : n < 7) (hT : Tab n0 fk fc) : ∃ row' fk' fc', Tab n fk' fc' ∧ f_X5_become (nI n0) (nI (fac n0)) row fk fc (nI n) = some (nI n, nI (fac n), row', fk', fc') := by
  unfold f_X5_become
  by_cases e : n = n0
  · subst e
    exact ⟨row, fk, fc, hT, by rw [if_pos rfl]⟩
  · rw [if_neg (by rw [nEq (by omega) (by omega)]; exact e), if_neg (nP (by omega)), if_pos (show nI n ≤ (6 : Int32) from nI_le (b := 6) (by omega) (by omega)), fact_x n hn, bs]
    have h720 := fac_le n hn
    obtain ⟨a, row', fk', fc', g1, g2⟩ := tab_out (k := fun _ y18 y19 y20 => some (nI n, nI (fac n), y18, y19, y20)) hn (fac n) FU 0 row fk fc (by omega) (by show _ < 4096; omega) (fun v q hv _ => by omega) (fun v q hv _ => by omega)
    exact ⟨row', fk', fc', g1, g2⟩
