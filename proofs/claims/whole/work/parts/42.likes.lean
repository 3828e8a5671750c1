/-! ===== 42.likes: sums; LIKES of the class and of the reference ===== -/
theorem bs {α β : Type _} (a : α) (f : α → Option β) : (some a).bind f = f a := rfl
theorem ifLt {α : Type _} {a b : Nat} {d : Decidable (nI a < nI b)} {x y : α} (ha : a < 2 ^ 31) (hb : b < 2 ^ 31) : @ite α (nI a < nI b) d x y = if a < b then x else y := by
  by_cases c : a < b
  · rw [if_pos c, if_pos ((nI_ltI ha hb).mpr c)]
  · rw [if_neg c, if_neg (fun z => c ((nI_ltI ha hb).mp z))]
theorem ifLe {α : Type _} {a b : Nat} {d : Decidable (nI a ≤ nI b)} {x y : α} (ha : a < 2 ^ 31) (hb : b < 2 ^ 31) : @ite α (nI a ≤ nI b) d x y = if a ≤ b then x else y := by
  by_cases c : a ≤ b
  · rw [if_pos c, if_pos ((nI_leI ha hb).mpr c)]
  · rw [if_neg c, if_neg (fun z => c ((nI_leI ha hb).mp z))]
theorem ifEq {α : Type _} {a b : Nat} {d : Decidable (nI a = nI b)} {x y : α} (ha : a < 2 ^ 31) (hb : b < 2 ^ 31) : @ite α (nI a = nI b) d x y = if a = b then x else y := by
  by_cases c : a = b
  · rw [if_pos c, if_pos ((nI_eq ha hb).mpr c)]
  · rw [if_neg c, if_neg (fun z => c ((nI_eq ha hb).mp z))]
theorem nA0 (a : Nat) : nI a + 0 = nI a := by rw [show (0 : Int32) = nI 0 from rfl, nA, Nat.add_zero]
theorem pred1 {n : Nat} (h : 0 < n) : ∃ m, n = m + 1 := ⟨n - 1, by omega⟩
def sm (f : Nat → Nat) : Nat → Nat
  | 0 => 0
  | k + 1 => sm f k + f k
theorem sm_le {f : Nat → Nat} {c : Nat} : ∀ k : Nat, (∀ j, j < k → f j ≤ c) → sm f k ≤ k * c
  | 0, _ => by simp [sm]
  | k + 1, h => by
    have := sm_le k (fun j hj => h j (by omega))
    have := h k (by omega)
    simp only [sm, Nat.add_mul]
    omega
theorem sm_0 {f : Nat → Nat} : ∀ k : Nat, (∀ j, j < k → f j = 0) → sm f k = 0
  | 0, _ => rfl
  | k + 1, h => by
    simp only [sm, sm_0 k (fun j hj => h j (by omega)), h k (by omega)]
theorem sm_more {f : Nat → Nat} {a : Nat} : ∀ k : Nat, a ≤ k → (∀ j, a ≤ j → j < k → f j = 0) → sm f k = sm f a
  | 0, h, _ => by rw [show a = 0 by omega]
  | k + 1, h, hz => by
    rcases Nat.lt_or_ge k a with q | q
    · rw [show a = k + 1 by omega]
    · simp only [sm, sm_more k q (fun j h1 h2 => hz j h1 (by omega)), hz k q (by omega), Nat.add_zero]
theorem sm_congr {f g : Nat → Nat} : ∀ k : Nat, (∀ j, j < k → f j = g j) → sm f k = sm g k
  | 0, _ => rfl
  | k + 1, h => by simp only [sm, sm_congr k (fun j hj => h j (by omega)), h k (by omega)]
def lk1 (sg : Nat) (col : Nat → Nat) (i j : Nat) : Nat := if i < j ∧ j ≤ i + sg ∧ col j = col i then 1 else 0
theorem lk1_le (sg : Nat) (col : Nat → Nat) (i j : Nat) : lk1 sg col i j ≤ 1 := by unfold lk1; split <;> omega
/-- how many twos of rocks in sight of each other have like flashes -/
def LK (n sg : Nat) (col : Nat → Nat) : Nat := sm (fun i => sm (lk1 sg col i) n) n
theorem LK_le {n sg : Nat} {col : Nat → Nat} (hn : n < 7) : LK n sg col ≤ 36 := by
  have h1 : ∀ i, sm (lk1 sg col i) n ≤ 6 := fun i => by
    have := sm_le (f := lk1 sg col i) (c := 1) n (fun j _ => lk1_le sg col i j)
    omega
  have := sm_le (f := fun i => sm (lk1 sg col i) n) (c := 6) n (fun j _ => h1 j)
  unfold LK
  omega
theorem lkrow_le {n sg i a : Nat} {col : Nat → Nat} (hn : n < 7) (ha : a ≤ n) : sm (fun i => sm (lk1 sg col i) n) a ≤ 36 := by
  have h1 : ∀ i, sm (lk1 sg col i) n ≤ 6 := fun i => by
    have := sm_le (f := lk1 sg col i) (c := 1) n (fun j _ => lk1_le sg col i j)
    omega
  have := sm_le (f := fun i => sm (lk1 sg col i) n) (c := 6) a (fun j _ => h1 j)
  omega
theorem LK_congr {n sg : Nat} {c1 c2 : Nat → Nat} (h : ∀ r, r < n → c1 r = c2 r) : LK n sg c1 = LK n sg c2 := by
  unfold LK
  refine sm_congr n (fun i hi => sm_congr n (fun j hj => ?_))
  unfold lk1
  rw [h i hi, h j hj]
-- the class
theorem cl_in {fk ff : Nat → Int32} {w n0 i last sg : Nat} {col : Nat → Nat} {k : Int32 → Int32 → Option Int32} (hn0 : n0 < 7) (hl : last < n0) (hls : last ≤ i + sg)
    (hcol : ∀ r, r < n0 → f_X3_flashAt fk ff (nI w) (nI r) = some (nI (col r))) (hc : ∀ r, r < n0 → col r < 10) (hi : i < n0) :
    ∀ (d n b j : Nat), last + 1 = j + d → i < j → d < n → b < 1000 → lp_X3_likes_L51 fk ff (nI w) (nI (col i)) (nI last) k n (nI (b + sm (lk1 sg col i) j)) (nI j) = k (nI (b + sm (lk1 sg col i) (last + 1))) (nI (last + 1)) := by
  intro d
  induction d with
  | zero =>
    intro n b j hj hij hn hb
    obtain ⟨n, rfl⟩ := pred1 hn
    have e : j = last + 1 := by omega
    subst e
    unfold lp_X3_likes_L51
    rw [if_pos (nI_lt (by omega) (by omega))]
  | succ d ih =>
    intro n b j hj hij hn hb
    obtain ⟨n, rfl⟩ := pred1 (Nat.lt_of_le_of_lt (Nat.zero_le _) hn)
    unfold lp_X3_likes_L51
    rw [if_neg (nI_nlt (by omega) (by omega)), hcol j (by omega), bs]
    by_cases q : col j = col i
    · have e : lk1 sg col i j = 1 := by unfold lk1; rw [if_pos ⟨hij, by omega, q⟩]
      have := ih n b (j + 1) (by omega) (by omega) (by omega) hb
      rw [show sm (lk1 sg col i) (j + 1) = sm (lk1 sg col i) j + 1 by simp only [sm, e]] at this
      rw [if_pos (by rw [q]), nI_1, nI_1]
      exact this
    · have e : lk1 sg col i j = 0 := by unfold lk1; rw [if_neg (fun z => q z.2.2)]
      have := ih n b (j + 1) (by omega) (by omega) (by omega) hb
      rw [show sm (lk1 sg col i) (j + 1) = sm (lk1 sg col i) j by simp only [sm, e, Nat.add_zero]] at this
      have hx := hc j (by omega)
      have hy := hc i hi
      rw [if_neg (by rw [nEq (by omega) (by omega)]; exact q), nI_1]
      exact this
theorem cl_out {fk ff : Nat → Int32} {w n0 sg : Nat} {col : Nat → Nat} {k : Int32 → Int32 → Option Int32} (hn0 : n0 < 7) (hsg : sg < 6)
    (hcol : ∀ r, r < n0 → f_X3_flashAt fk ff (nI w) (nI r) = some (nI (col r))) (hc : ∀ r, r < n0 → col r < 10) :
    ∀ (d n i : Nat), n0 = i + d → d < n → lp_X3_likes_L4 (nI n0) (nI sg) fk ff (nI w) k n (nI (sm (fun i => sm (lk1 sg col i) n0) i)) (nI i) = k (nI (LK n0 sg col)) (nI n0) := by
  intro d
  induction d with
  | zero =>
    intro n i hi hn
    obtain ⟨n, rfl⟩ := pred1 hn
    have e : i = n0 := by omega
    subst e
    unfold lp_X3_likes_L4
    rw [if_pos (nI_le (by omega) (by omega))]
    rfl
  | succ d ih =>
    intro n i hi hn
    obtain ⟨n, rfl⟩ := pred1 (Nat.lt_of_le_of_lt (Nat.zero_le _) hn)
    unfold lp_X3_likes_L4
    have e1 : nI n0 - 1 = nI (n0 - 1) := by rw [show (1 : Int32) = nI 1 from rfl, nS (by omega)]
    obtain ⟨last, e2, l1, l2, l3, l4⟩ : ∃ last, (if nI n0 - 1 < nI i + nI sg then nI n0 - 1 else nI i + nI sg) = nI last ∧ last < n0 ∧ last ≤ i + sg ∧ i ≤ last ∧ ∀ j, last < j → j < n0 → i + sg < j := by
      by_cases q : n0 - 1 < i + sg
      · exact ⟨n0 - 1, by rw [e1, nA, if_pos (nI_lt q (by omega))], by omega, by omega, by omega, fun j h1 h2 => by omega⟩
      · exact ⟨i + sg, by rw [e1, nA, if_neg (nI_nlt (by omega) (by omega))], by omega, by omega, by omega, fun j h1 h2 => by omega⟩
    rw [if_neg (nI_ge (by omega) (by omega)), hcol i (by omega), bs, e2, nI_1]
    have hz : sm (lk1 sg col i) (i + 1) = 0 := sm_0 _ (fun j hj => by unfold lk1; rw [if_neg (by omega)])
    have hm : sm (lk1 sg col i) n0 = sm (lk1 sg col i) (last + 1) := sm_more n0 (by omega) (fun j h1 h2 => by have := l4 j (by omega) h2; unfold lk1; rw [if_neg (by omega)])
    have hb : sm (fun i => sm (lk1 sg col i) n0) i < 1000 := by have := lkrow_le (n := n0) (sg := sg) (i := i) (a := i) (col := col) hn0 (by omega); omega
    have h := cl_in (fk := fk) (ff := ff) (w := w) (i := i) (last := last) (k := fun y6 _ => lp_X3_likes_L4 (nI n0) (nI sg) fk ff (nI w) k n y6 (nI (i + 1))) hn0 l1 l2 hcol hc (by omega) (last - i) FU (sm (fun i => sm (lk1 sg col i) n0) i) (i + 1) (by omega) (by omega) (by show _ < 4096; omega) hb
    rw [hz, Nat.add_zero, ← hm] at h
    exact h.trans (ih n (i + 1) (by omega) (by omega))
theorem likes_x {fk ff : Nat → Int32} {w n0 sg : Nat} {col : Nat → Nat} (hn0 : n0 < 7) (hsg : sg < 6)
    (hcol : ∀ r, r < n0 → f_X3_flashAt fk ff (nI w) (nI r) = some (nI (col r))) (hc : ∀ r, r < n0 → col r < 10) : f_X3_likes (nI n0) (nI sg) fk ff (nI w) = some (nI (LK n0 sg col)) := by
  unfold f_X3_likes
  exact cl_out (k := fun y8 _ => some y8) hn0 hsg hcol hc n0 FU 0 (by omega) (by show _ < 4096; omega)
-- the reference
theorem ml_in {row flash : Nat → Int32} {N n0 i sg : Nat} {pr fl : Nat → Nat} {k : Int32 → Int32 → Option Int32} (hn0 : n0 < 7) (hN : 6 ≤ N) (hN2 : N < 1000) (hsg : sg < 6)
    (hrow : ∀ r, r < n0 → row r = nI (pr r)) (hpr : ∀ r, r < n0 → pr r < n0) (hfl : ∀ a, a < n0 → flash a = nI (fl a)) (hc : ∀ a, a < n0 → fl a < 10) (hi : i < n0) :
    ∀ (d n b j : Nat), n0 = j + d → i < j → d < n → b < 1000 → ∃ y, lp_X7_likesOf_L17 (nI n0) (nI sg) N row flash (nI i) k n (nI (b + sm (lk1 sg (fun r => fl (pr r)) i) j)) (nI j) = k (nI (b + sm (lk1 sg (fun r => fl (pr r)) i) n0)) y := by
  intro d
  induction d with
  | zero =>
    intro n b j hj hij hn hb
    obtain ⟨n, rfl⟩ := pred1 hn
    have e : j = n0 := by omega
    subst e
    unfold lp_X7_likesOf_L17
    exact ⟨nI j, by rw [if_pos (nI_le (by omega) (by omega))]⟩
  | succ d ih =>
    intro n b j hj hij hn hb
    obtain ⟨n, rfl⟩ := pred1 (Nat.lt_of_le_of_lt (Nat.zero_le _) hn)
    unfold lp_X7_likesOf_L17
    rw [if_neg (nI_ge (by omega) (by omega)), nS (by omega : i ≤ j), ifLt (by omega) (by omega)]
    by_cases hs : sg < j - i
    · refine ⟨nI j, ?_⟩
      rw [if_pos hs, sm_more (f := lk1 sg (fun r => fl (pr r)) i) n0 (by omega : j ≤ n0) (fun q h1 h2 => by unfold lk1; rw [if_neg (by omega)])]
    · have hi1 := hpr i hi
      have hj1 := hpr j (by omega)
      have hx := hc _ hi1
      have hy := hc _ hj1
      rw [if_neg hs, if_neg (nG (by omega) (by omega)), nC (by omega), hrow i hi, if_neg (nG (by omega) (by omega)), if_neg (nG (by omega) (by omega)), nC (by omega : j < 2 ^ 31), hrow j (by omega), if_neg (nG (by omega) (by omega)), nC (by omega), nC (by omega), hfl _ hi1, hfl _ hj1, ifEq (by omega) (by omega)]
      by_cases q : fl (pr i) = fl (pr j)
      · have e : lk1 sg (fun r => fl (pr r)) i j = 1 := by unfold lk1; rw [if_pos ⟨hij, by omega, q.symm⟩]
        have := ih n b (j + 1) (by omega) (by omega) (by omega) hb
        rw [show sm (lk1 sg (fun r => fl (pr r)) i) (j + 1) = sm (lk1 sg (fun r => fl (pr r)) i) j + 1 by simp only [sm, e]] at this
        rw [if_pos q, nI_1, nI_1]
        exact this
      · have e : lk1 sg (fun r => fl (pr r)) i j = 0 := by unfold lk1; rw [if_neg (fun z => q z.2.2.symm)]
        have := ih n b (j + 1) (by omega) (by omega) (by omega) hb
        rw [show sm (lk1 sg (fun r => fl (pr r)) i) (j + 1) = sm (lk1 sg (fun r => fl (pr r)) i) j by simp only [sm, e, Nat.add_zero]] at this
        rw [if_neg q, nA0, nI_1]
        exact this
theorem ml_out {row flash : Nat → Int32} {N n0 sg : Nat} {pr fl : Nat → Nat} {k : Int32 → Int32 → Option Int32} (hn0 : n0 < 7) (hN : 6 ≤ N) (hN2 : N < 1000) (hsg : sg < 6)
    (hrow : ∀ r, r < n0 → row r = nI (pr r)) (hpr : ∀ r, r < n0 → pr r < n0) (hfl : ∀ a, a < n0 → flash a = nI (fl a)) (hc : ∀ a, a < n0 → fl a < 10) :
    ∀ (d n i : Nat), n0 = i + d → d < n → lp_X7_likesOf_L4 (nI n0) (nI sg) N row flash k n (nI (sm (fun i => sm (lk1 sg (fun r => fl (pr r)) i) n0) i)) (nI i) = k (nI (LK n0 sg (fun r => fl (pr r)))) (nI n0) := by
  intro d
  induction d with
  | zero =>
    intro n i hi hn
    obtain ⟨n, rfl⟩ := pred1 hn
    have e : i = n0 := by omega
    subst e
    unfold lp_X7_likesOf_L4
    rw [if_pos (nI_le (by omega) (by omega))]
    rfl
  | succ d ih =>
    intro n i hi hn
    obtain ⟨n, rfl⟩ := pred1 (Nat.lt_of_le_of_lt (Nat.zero_le _) hn)
    unfold lp_X7_likesOf_L4
    rw [if_neg (nI_ge (by omega) (by omega)), nI_1]
    have hz : sm (lk1 sg (fun r => fl (pr r)) i) (i + 1) = 0 := sm_0 _ (fun j hj => by unfold lk1; rw [if_neg (by omega)])
    have hb : sm (fun i => sm (lk1 sg (fun r => fl (pr r)) i) n0) i < 1000 := by have := lkrow_le (n := n0) (sg := sg) (i := i) (a := i) (col := fun r => fl (pr r)) hn0 (by omega); omega
    obtain ⟨y, h⟩ := ml_in (row := row) (flash := flash) (N := N) (i := i) (pr := pr) (fl := fl) (k := fun y9 _ => lp_X7_likesOf_L4 (nI n0) (nI sg) N row flash k n y9 (nI (i + 1))) hn0 hN hN2 hsg hrow hpr hfl hc (by omega) (n0 - (i + 1)) FU (sm (fun i => sm (lk1 sg (fun r => fl (pr r)) i) n0) i) (i + 1) (by omega) (by omega) (by show _ < 4096; omega) hb
    rw [hz, Nat.add_zero] at h
    exact h.trans (ih n (i + 1) (by omega) (by omega))
theorem likes_m {row flash : Nat → Int32} {N n0 sg : Nat} {pr fl : Nat → Nat} (hn0 : n0 < 7) (hN : 6 ≤ N) (hN2 : N < 1000) (hsg : sg < 6)
    (hrow : ∀ r, r < n0 → row r = nI (pr r)) (hpr : ∀ r, r < n0 → pr r < n0) (hfl : ∀ a, a < n0 → flash a = nI (fl a)) (hc : ∀ a, a < n0 → fl a < 10) : f_X7_likesOf (nI n0) (nI sg) N row flash = some (nI (LK n0 sg (fun r => fl (pr r)))) := by
  unfold f_X7_likesOf
  exact ml_out (k := fun y11 _ => some y11) hn0 hN hN2 hsg hrow hpr hfl hc n0 FU 0 (by omega) (by show _ < 4096; omega)
