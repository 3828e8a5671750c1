/-! ===== 40.num: ints that stand for natural numbers; rows, reads and writes ===== -/
theorem nP {a : Nat} (h : a < 2 ^ 31) : ¬ nI a < 0 := nI_pos h
theorem nLe {a b : Nat} (ha : a < 2 ^ 31) (hb : b < 2 ^ 31) : (nI a ≤ nI b) = (a ≤ b) := propext (nI_leI ha hb)
theorem nLt {a b : Nat} (ha : a < 2 ^ 31) (hb : b < 2 ^ 31) : (nI a < nI b) = (a < b) := propext (nI_ltI ha hb)
theorem nEq {a b : Nat} (ha : a < 2 ^ 31) (hb : b < 2 ^ 31) : (nI a = nI b) = (a = b) := propext (nI_eq ha hb)
theorem nS {a b : Nat} (h : b ≤ a) : nI a - nI b = nI (a - b) := pk_sub h
theorem nM (a b : Nat) : nI a * nI b = nI (a * b) := pk_mul a b
theorem nA (a b : Nat) : nI a + nI b = nI (a + b) := nI_add a b
theorem nA1 (a : Nat) : nI a + 1 = nI (a + 1) := nI_1 a
theorem nG {a N : Nat} (h : a < N) (hN : N < 2 ^ 31) : ¬ (nI a < 0 ∨ N ≤ (nI a).toNatClampNeg) := nI_in h hN
theorem nC {a : Nat} (h : a < 2 ^ 31) : (nI a).toNatClampNeg = a := nI_clamp h
theorem nT {a : Nat} (h : a < 2 ^ 31) : (nI a).toInt = (a : Int) := nI_toInt h
theorem n9 {a : Nat} (h : a < 2 ^ 31) : ¬ nI a = -9 := fun q => by
  have := congrArg Int32.toInt q
  rw [nT h, show (-9 : Int32).toInt = -9 by decide] at this
  omega
theorem n8 {a : Nat} (h : a < 2 ^ 31) : ¬ nI a = -8 := fun q => by
  have := congrArg Int32.toInt q
  rw [nT h, show (-8 : Int32).toInt = -8 by decide] at this
  omega
theorem nm1 {a : Nat} (h : a < 2 ^ 31) : ¬ nI a = -1 := fun q => by
  have := congrArg Int32.toInt q
  rw [nT h, show (-1 : Int32).toInt = -1 by decide] at this
  omega
/-- an int is below 0, above, or a place -/
theorem ix3 (x : Int32) {n : Nat} (hn : n < 2 ^ 31) : x < 0 ∨ nI n ≤ x ∨ ∃ j : Nat, j < n ∧ x = nI j := pk_ix x hn
theorem ltI {x y : Int32} : x < y ↔ x.toInt < y.toInt := Int32.lt_iff_toInt_lt
theorem leI {x y : Int32} : x ≤ y ↔ x.toInt ≤ y.toInt := Int32.le_iff_toInt_le
/-- rows: reading and writing by the class's own item and put -/
theorem item_in {N a : Nat} {f : Nat → Int32} (h : a < N) (hN : N < 2 ^ 31) : f_X6_item N f (nI a) = some (f a) := by
  unfold f_X6_item
  rw [if_neg (nP (by omega)), if_neg (show ¬ Int32.ofNat N ≤ nI a from nI_ge h hN), if_neg (nG h hN), nC (by omega)]
theorem item_out {N a : Nat} {f : Nat → Int32} (h : N ≤ a) (ha : a < 2 ^ 31) : f_X6_item N f (nI a) = some (-9) := by
  unfold f_X6_item
  rw [if_neg (nP ha), if_pos (show Int32.ofNat N ≤ nI a from nI_le h ha)]
theorem put_in {N a : Nat} {f : Nat → Int32} {x : Int32} (h : a < N) (hN : N < 2 ^ 31) : f_X6_put N f (nI a) x = some (upd f a x) := by
  unfold f_X6_put
  rw [if_neg (nP (by omega)), if_neg (show ¬ Int32.ofNat N ≤ nI a from nI_ge h hN), if_neg (nG h hN), nC (by omega)]
theorem who_in {f : Nat → Int32} {w r : Nat} (hw : w < 720) (hr : r < 6) : f_X5_who f (nI w) (nI r) = some (f (w * 6 + r)) := by
  unfold f_X5_who
  have e : nI w * 6 + nI r = nI (w * 6 + r) := by rw [show (6 : Int32) = nI 6 from rfl, nM, nA]
  rw [if_neg (nP (by omega)), if_neg (show ¬ (720 : Int32) ≤ nI w from nI_ge (b := 720) hw (by omega)), if_neg (nP (by omega)), if_pos (show nI r < (6 : Int32) from nI_lt (b := 6) hr (by omega)), e, if_neg (nG (by omega) (by omega)), nC (by omega)]
theorem changedAt_in {f : Nat → Int32} {w r : Nat} (hw : w < 720) (hr : r < 5) : f_X5_changedAt f (nI w) (nI r) = some (f (w * 5 + r)) := by
  unfold f_X5_changedAt
  have e : nI w * 5 + nI r = nI (w * 5 + r) := by rw [show (5 : Int32) = nI 5 from rfl, nM, nA]
  rw [if_neg (nP (by omega)), if_neg (show ¬ (720 : Int32) ≤ nI w from nI_ge (b := 720) hw (by omega)), if_neg (nP (by omega)), if_pos (show nI r < (5 : Int32) from nI_lt (b := 5) hr (by omega)), e, if_neg (nG (by omega) (by omega)), nC (by omega)]
theorem flashOf_in {f : Nat → Int32} {a : Nat} (h : a < 6) : f_X4_flashOf f (nI a) = some (f a) := by
  unfold f_X4_flashOf
  rw [if_neg (nP (by omega)), if_neg (show ¬ (6 : Int32) ≤ nI a from nI_ge (b := 6) h (by omega)), if_neg (nG h (by omega)), nC (by omega)]
theorem hatersOf_in {f : Nat → Int32} {a : Nat} (h : a < 6) : f_X4_hatersOf f (nI a) = some (f a) := by
  unfold f_X4_hatersOf
  rw [if_neg (nP (by omega)), if_neg (show ¬ (6 : Int32) ≤ nI a from nI_ge (b := 6) h (by omega)), if_neg (nG h (by omega)), nC (by omega)]
/-- what may be asked for -/
theorem isK_in {n a : Nat} (h : a < n) (hn : n < 2 ^ 31) : f_X6_isKeeper (nI n) (nI a) = some 1 := by
  unfold f_X6_isKeeper
  rw [if_neg (nP (by omega)), if_neg (nI_ge h hn)]
theorem isK_lo {n : Nat} {x : Int32} (h : x < 0) : f_X6_isKeeper (nI n) x = some 0 := by
  unfold f_X6_isKeeper
  rw [if_pos h]
theorem isK_hi {n : Nat} {x : Int32} (h : nI n ≤ x) : f_X6_isKeeper (nI n) x = some 0 := by
  unfold f_X6_isKeeper
  by_cases c : x < 0
  · rw [if_pos c]
  · rw [if_neg c, if_pos h]
theorem isR_of {n : Nat} {x v : Int32} (h : f_X6_isKeeper (nI n) x = some v) (hv : v = 0 ∨ v = 1) : f_X6_isRock (nI n) x = some v := by
  unfold f_X6_isRock
  rw [h]
  show (if ¬ (v = 0 ∨ v = 1) then none else some v) = some v
  rw [if_neg (fun q => q hv)]
theorem in_yes {x lo hi : Int32} (h1 : ¬ x < lo) (h2 : ¬ hi < x) : f_X7_in x lo hi = some 1 := by
  unfold f_X7_in
  rw [if_neg h1, if_neg h2]
theorem in_lo {x lo hi : Int32} (h1 : x < lo) : f_X7_in x lo hi = some 0 := by
  unfold f_X7_in
  rw [if_pos h1]
theorem in_hi {x lo hi : Int32} (h2 : hi < x) : f_X7_in x lo hi = some 0 := by
  unfold f_X7_in
  by_cases c : x < lo
  · rw [if_pos c]
  · rw [if_neg c, if_pos h2]
theorem m1n : ∀ n : Nat, n < 7 → (nI n - 1).toInt = (n : Int) - 1 := by decide +kernel
theorem isOne_in {n a : Nat} (h : a < n) (hn : n < 7) : f_X7_isOne (nI n) (nI a) = some 1 := by
  unfold f_X7_isOne
  rw [in_yes (nP (by omega)) (fun q => by rw [ltI, m1n n hn, nT (by omega)] at q; omega)]
  rfl
theorem isOne_lo {n : Nat} {x : Int32} (h : x < 0) : f_X7_isOne (nI n) x = some 0 := by
  unfold f_X7_isOne
  rw [in_lo h]
  rfl
theorem isOne_hi {n : Nat} {x : Int32} (hn : n < 7) (h : nI n ≤ x) : f_X7_isOne (nI n) x = some 0 := by
  unfold f_X7_isOne
  rw [in_hi (by rw [ltI, m1n n hn]; rw [leI, nT (by omega)] at h; omega)]
  rfl
/-- the three ways of a KEEPER's (a ROCK's) number, for the class and for the reference at once -/
theorem asked (n : Nat) (hn : n < 7) (x : Int32) : (f_X6_isKeeper (nI n) x = some 0 ∧ f_X6_isRock (nI n) x = some 0 ∧ f_X7_isOne (nI n) x = some 0 ∧ ∀ j, j < n → ¬ x = nI j) ∨ ∃ a : Nat, a < n ∧ x = nI a ∧ f_X6_isKeeper (nI n) x = some 1 ∧ f_X6_isRock (nI n) x = some 1 ∧ f_X7_isOne (nI n) x = some 1 := by
  rcases ix3 x (n := n) (by omega) with h | h | ⟨j, hj, rfl⟩
  · exact Or.inl ⟨isK_lo h, isR_of (isK_lo h) (Or.inl rfl), isOne_lo h, fun j hj e => by rw [e] at h; exact nP (by omega) h⟩
  · exact Or.inl ⟨isK_hi h, isR_of (isK_hi h) (Or.inl rfl), isOne_hi hn h, fun j hj e => by rw [e] at h; exact nI_ge hj (by omega) h⟩
  · exact Or.inr ⟨j, hj, rfl, isK_in hj (by omega), isR_of (isK_in hj (by omega)) (Or.inr rfl), isOne_in hj hn⟩
/-- bits of small sets -/
theorem bit_at : ∀ m : Nat, m < 64 → ∀ k : Nat, k < 6 → ((nI m >>> (nI k &&& 31)) &&& 1) = nI (m / 2 ^ k % 2) := by decide +kernel
def bt6 (m k : Nat) : Bool := m / 2 ^ k % 2 == 1
theorem isOut_eq : ∀ m : Nat, m < 64 → ∀ k : Nat, k < 6 → f_X6_isOut (nI m) (nI k) = some (if bt6 m k then 1 else 0) := by decide +kernel
theorem has_eq : ∀ m : Nat, m < 64 → ∀ k : Nat, k < 6 → f_X7_has (nI m) (nI k) = some (if bt6 m k then 1 else 0) := by decide +kernel
def pc6 (m : Nat) : Nat := m % 2 + m / 2 % 2 + m / 4 % 2 + m / 8 % 2 + m / 16 % 2 + m / 32 % 2
theorem bitCount_eq : ∀ m : Nat, m < 64 → f_J6_bitCount_0f7a4 (nI m) = some (nI (pc6 m)) := by decide +kernel
theorem bits_eq : ∀ m : Nat, m < 64 → f_X7_bits (nI m) = some (nI (pc6 m)) := by decide +kernel
theorem flip_eq : ∀ m : Nat, m < 64 → ∀ k : Nat, k < 6 → (nI m ^^^ (1 <<< (nI k &&& 31))) = nI (m ^^^ 2 ^ k) := by decide +kernel
theorem flip_lt : ∀ m : Nat, m < 64 → ∀ k : Nat, k < 6 → m ^^^ 2 ^ k < 64 := by decide +kernel
theorem orbit_eq : ∀ m : Nat, m < 64 → ∀ k : Nat, k < 6 → (nI m ||| (1 <<< (nI k &&& 31))) = nI (m ||| 2 ^ k) := by decide +kernel
theorem orbit_lt : ∀ m : Nat, m < 64 → ∀ k : Nat, k < 6 → m ||| 2 ^ k < 64 := by decide +kernel
theorem orbit_bt : ∀ m : Nat, m < 64 → ∀ k : Nat, k < 6 → ∀ j : Nat, j < 6 → bt6 (m ||| 2 ^ k) j = (bt6 m j || j == k) := by decide +kernel
theorem z1 (x : Int32) : (if x = 0 then (1 : Int32) else if x = 1 then 1 else 0) = 1 ∨ True := Or.inr trivial
theorem zo (x : Int32) : (f_X6_isZeroOrOne x = some 1 ∧ f_X7_in x 0 1 = some 1 ∧ (x = 0 ∨ x = 1)) ∨ (f_X6_isZeroOrOne x = some 0 ∧ f_X7_in x 0 1 = some 0 ∧ ¬ x = 0 ∧ ¬ x = 1) := by
  by_cases h0 : x = 0
  · subst h0; exact Or.inl ⟨by decide, by decide, Or.inl rfl⟩
  · by_cases h1 : x = 1
    · subst h1; exact Or.inl ⟨by decide, by decide, Or.inr rfl⟩
    · refine Or.inr ⟨by unfold f_X6_isZeroOrOne; rw [if_neg h0, if_neg h1], ?_, h0, h1⟩
      by_cases c : x < 0
      · exact in_lo c
      · refine in_hi ?_
        have a0 : x.toInt ≠ 0 := fun q => h0 (Int32.toInt_inj.mp (q.trans (by decide)))
        have a1 : x.toInt ≠ 1 := fun q => h1 (Int32.toInt_inj.mp (q.trans (by decide)))
        rw [ltI, show (0 : Int32).toInt = 0 by decide] at c
        rw [ltI, show (1 : Int32).toInt = 1 by decide]
        omega
