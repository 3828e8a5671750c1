/-! ===== 60.fits: who can be where ===== -/
def fitB (n w : Nat) (fl : Nat → Nat) (sr sf : Nat → Int32) : Nat → Bool
  | 0 => true
  | j + 1 => fitB n w fl sr sf j && (fl (P n w (sr j).toNatClampNeg) == (sf j).toNatClampNeg)
theorem fitB_no {n w : Nat} {fl : Nat → Nat} {sr sf : Nat → Int32} {j : Nat} (h : fitB n w fl sr sf j = false) : ∀ d, fitB n w fl sr sf (j + d) = false
  | 0 => h
  | d + 1 => by
    show (fitB n w fl sr sf (j + d) && _) = false
    rw [fitB_no h d, Bool.false_and]
/-- what was seen: the rocks and flashes of the class's rows and of the reference's one row -/
def SE (n k : Nat) (sr sf sn : Nat → Int32) : Prop := k ≤ 6 ∧ ∀ j, j < k → ∃ r c : Nat, r < n ∧ 1 ≤ c ∧ c < 10 ∧ sr j = nI r ∧ sf j = nI c ∧ sn (2 * j) = nI r ∧ sn (2 * j + 1) = nI c
theorem fitsSeen_l {n w k : Nat} {fl : Nat → Nat} {fk fc ff sr sf sn : Nat → Int32} (hT : Tab n fk fc) (hn : n < 7) (hw : w < fac n) (hff : ∀ a, a < n → ff a = nI (fl a)) (hfl : ∀ a, a < n → fl a < 10) (hS : SE n k sr sf sn) :
    ∀ (d f j : Nat), k = j + d → d < f → fitB n w fl sr sf j = true → lp_X6_fitsSeen_L2 (nI k) sr fk ff sf (nI w) (fun _ => some 1) f (nI j) = some (if fitB n w fl sr sf k = true then 1 else 0) := by
  obtain ⟨hk, hS⟩ := hS
  intro d
  induction d with
  | zero =>
    intro f j hj hf hb
    obtain ⟨f, rfl⟩ := pred1 hf
    unfold lp_X6_fitsSeen_L2
    have e : j = k := by omega
    rw [if_pos (nI_le (by omega) (by omega)), ← e, if_pos hb]
  | succ d ih =>
    intro f j hj hf hb
    obtain ⟨f, rfl⟩ := pred1 (Nat.lt_of_le_of_lt (Nat.zero_le _) hf)
    unfold lp_X6_fitsSeen_L2
    obtain ⟨r, c, h1, h2, h3, h4, h5, h6, h7⟩ := hS j (by omega)
    have hp := P_lt hn hw h1
    have h10 := hfl _ hp
    have e : fitB n w fl sr sf (j + 1) = (fl (P n w r) == c) := by
      show (fitB n w fl sr sf j && (fl (P n w (sr j).toNatClampNeg) == (sf j).toNatClampNeg)) = _
      rw [hb, Bool.true_and, h4, h5, nC (by omega), nC (by omega)]
    rw [if_neg (nI_ge (by omega) (by omega)), item_in (by omega) (by omega), bs, h4, flashAt_t hT hn hw h1 hff, bs, item_in (by omega) (by omega), bs, h5, ifEq (by omega) (by omega), nI_1]
    by_cases z : fl (P n w r) = c
    · rw [if_pos z]
      exact ih f (j + 1) (by omega) (by omega) (by rw [e]; simp [z])
    · rw [if_neg z]
      have : fitB n w fl sr sf (j + 1) = false := by rw [e]; simp [z]
      have := fitB_no this d
      rw [show j + 1 + d = k by omega] at this
      rw [this]
      rfl
theorem fitsSeen_x {n w k : Nat} {fl : Nat → Nat} {fk fc ff sr sf sn : Nat → Int32} (hT : Tab n fk fc) (hn : n < 7) (hw : w < fac n) (hff : ∀ a, a < n → ff a = nI (fl a)) (hfl : ∀ a, a < n → fl a < 10) (hS : SE n k sr sf sn) :
    f_X6_fitsSeen (nI k) sr fk ff sf (nI w) = some (if fitB n w fl sr sf k = true then 1 else 0) := by
  unfold f_X6_fitsSeen
  have hk := hS.1
  exact fitsSeen_l hT hn hw hff hfl hS k FU 0 (by omega) (by show _ < 4096; omega) rfl
theorem isSo_l {n w k : Nat} {fl : Nat → Nat} {row flash sr sf sn : Nat → Int32} {kk : Int32 → Int32 → Option Int32} (hR : Row n w row) (hn : n < 7) (hw : w < fac n) (hff : ∀ a, a < n → flash a = nI (fl a)) (hfl : ∀ a, a < n → fl a < 10) (hS : SE n k sr sf sn) :
    ∀ (d f j : Nat), k = j + d → d < f → ∃ y, lp_X7_isSo_L4 (nI k) flash row sn kk f (if fitB n w fl sr sf j = true then 1 else 0) (nI j) = kk (if fitB n w fl sr sf k = true then 1 else 0) y := by
  obtain ⟨hk, hS⟩ := hS
  intro d
  induction d with
  | zero =>
    intro f j hj hf
    obtain ⟨f, rfl⟩ := pred1 hf
    unfold lp_X7_isSo_L4
    have e : j = k := by omega
    exact ⟨nI j, by rw [if_pos (nI_le (by omega) (by omega)), e]⟩
  | succ d ih =>
    intro f j hj hf
    obtain ⟨f, rfl⟩ := pred1 (Nat.lt_of_le_of_lt (Nat.zero_le _) hf)
    unfold lp_X7_isSo_L4
    obtain ⟨r, c, h1, h2, h3, h4, h5, h6, h7⟩ := hS j (by omega)
    have hp := P_lt hn hw h1
    have h10 := hfl _ hp
    have e : fitB n w fl sr sf (j + 1) = (fitB n w fl sr sf j && (fl (P n w r) == c)) := by
      show (fitB n w fl sr sf j && (fl (P n w (sr j).toNatClampNeg) == (sf j).toNatClampNeg)) = _
      rw [h4, h5, nC (by omega), nC (by omega)]
    obtain ⟨y, h⟩ := ih f (j + 1) (by omega) (by omega)
    refine ⟨y, ?_⟩
    rw [e] at h
    have d2 : 2 * nI j = nI (2 * j) := by rw [show (2 : Int32) = nI 2 from rfl, nM]
    rw [if_neg (nI_ge (by omega) (by omega)), nI_1]
    cases hb : fitB n w fl sr sf j
    · rw [hb, Bool.false_and] at h
      rw [if_neg (show ¬ (false = true) by decide), if_pos rfl]
      exact h
    · rw [hb, Bool.true_and] at h
      rw [if_pos rfl, if_neg (show ¬ (1 : Int32) = 0 by decide), d2, nI_1, nC (a := 2 * j) (by omega), nC (a := 2 * j + 1) (by omega), h6, h7, nC (a := r) (by omega), hR r h1, nC (a := P n w r) (by omega), hff _ hp, if_neg (nH (by omega) (by omega)), if_neg (nH (by omega) (by omega)), if_neg (nH (by omega) (by omega)), if_neg (nH (by omega) (by omega)), ifEq (by omega) (by omega)]
      by_cases z : fl (P n w r) = c
      · rw [if_pos z]
        rw [if_pos (by simp [z])] at h
        exact h
      · rw [if_neg z]
        rw [if_neg (by simp [z])] at h
        exact h
theorem isSo_m {n w k : Nat} {fl : Nat → Nat} {row flash sr sf sn : Nat → Int32} (hR : Row n w row) (hn : n < 7) (hw : w < fac n) (hff : ∀ a, a < n → flash a = nI (fl a)) (hfl : ∀ a, a < n → fl a < 10) (hS : SE n k sr sf sn) :
    f_X7_isSo (nI k) flash row sn = some (if fitB n w fl sr sf k = true then 1 else 0) := by
  unfold f_X7_isSo
  have hk := hS.1
  obtain ⟨y, h⟩ := isSo_l (kk := fun y8 _ => if ¬ (y8 = 0 ∨ y8 = 1) then none else some y8) hR hn hw hff hfl hS k FU 0 (by omega) (by show _ < 4096; omega)
  refine h.trans ?_
  show (if ¬ ((if fitB n w fl sr sf k = true then (1 : Int32) else 0) = 0 ∨ (if fitB n w fl sr sf k = true then (1 : Int32) else 0) = 1) then none else some (if fitB n w fl sr sf k = true then (1 : Int32) else 0)) = _
  cases fitB n w fl sr sf k
  · rfl
  · rfl
def f1 (n k : Nat) (fl : Nat → Nat) (sr sf : Nat → Int32) (w : Nat) : Nat := if fitB n w fl sr sf k = true then 1 else 0
theorem ways_x {n k : Nat} {fl : Nat → Nat} {fk fc ff sr sf sn : Nat → Int32} {kk : Int32 → Int32 → Option Int32} (hT : Tab n fk fc) (hn : n < 7) (hff : ∀ a, a < n → ff a = nI (fl a)) (hfl : ∀ a, a < n → fl a < 10) (hS : SE n k sr sf sn) :
    ∀ (d f w : Nat), fac n = w + d → d < f → ∃ y, lp_X6_waysThatFit_L4 (nI k) (nI (fac n)) sr fk ff sf kk f (nI (sm (f1 n k fl sr sf) w)) (nI w) = kk (nI (sm (f1 n k fl sr sf) (fac n))) y := by
  have h720 := fac_le n hn
  intro d
  induction d with
  | zero =>
    intro f w hw hf
    obtain ⟨f, rfl⟩ := pred1 hf
    unfold lp_X6_waysThatFit_L4
    exact ⟨nI w, by rw [if_pos (nI_le (by omega) (by omega)), show w = fac n by omega]⟩
  | succ d ih =>
    intro f w hw hf
    obtain ⟨f, rfl⟩ := pred1 (Nat.lt_of_le_of_lt (Nat.zero_le _) hf)
    unfold lp_X6_waysThatFit_L4
    obtain ⟨y, h⟩ := ih f (w + 1) (by omega) (by omega)
    refine ⟨y, ?_⟩
    have e : sm (f1 n k fl sr sf) (w + 1) = sm (f1 n k fl sr sf) w + f1 n k fl sr sf w := rfl
    rw [e] at h
    rw [if_neg (nI_ge (by omega) (by omega)), fitsSeen_x hT hn (by omega) hff hfl hS, bs, nI_1, nI_1]
    unfold f1 at h ⊢
    cases hb : fitB n w fl sr sf k
    · rw [hb, if_neg (show ¬ (false = true) by decide), Nat.add_zero] at h
      rw [if_neg (show ¬ (false = true) by decide), if_pos rfl]
      exact h
    · rw [hb, if_pos rfl] at h
      rw [if_pos rfl, if_neg (show ¬ (1 : Int32) = 0 by decide)]
      exact h
-- who is there in all of them
def svN (n k : Nat) (fl : Nat → Nat) (sr sf : Nat → Int32) (r : Nat) (s : Bool × Option Nat) (w : Nat) : Bool × Option Nat :=
  (s.1 && (match s.2 with | none => true | some a => P n w r == a), some (P n w r))
def sv (n k : Nat) (fl : Nat → Nat) (sr sf : Nat → Int32) (r : Nat) : Nat → Bool × Option Nat
  | 0 => (true, none)
  | w + 1 => if fitB n w fl sr sf k = true then svN n k fl sr sf r (sv n k fl sr sf r w) w else sv n k fl sr sf r w
def sve : Option Nat → Int32
  | none => -9
  | some a => nI a
theorem sv_no {n k : Nat} {fl : Nat → Nat} {sr sf : Nat → Int32} {r w : Nat} (h : (sv n k fl sr sf r w).1 = false) : ∀ d, (sv n k fl sr sf r (w + d)).1 = false
  | 0 => h
  | d + 1 => by
    show (if fitB n (w + d) fl sr sf k = true then svN n k fl sr sf r (sv n k fl sr sf r (w + d)) (w + d) else sv n k fl sr sf r (w + d)).1 = false
    have ih := sv_no h d
    by_cases z : fitB n (w + d) fl sr sf k = true
    · rw [if_pos z]
      unfold svN
      rw [ih]
      rfl
    · rw [if_neg z]
      exact ih
theorem sv_lt {n k : Nat} {fl : Nat → Nat} {sr sf : Nat → Int32} {r : Nat} (hn : n < 7) (hr : r < n) : ∀ w, w ≤ fac n → ∀ a, (sv n k fl sr sf r w).2 = some a → a < n
  | 0, _, a, h => by cases h
  | w + 1, hw, a, h => by
    have e : sv n k fl sr sf r (w + 1) = if fitB n w fl sr sf k = true then svN n k fl sr sf r (sv n k fl sr sf r w) w else sv n k fl sr sf r w := rfl
    rw [e] at h
    by_cases z : fitB n w fl sr sf k = true
    · rw [if_pos z] at h
      have : P n w r = a := Option.some.inj h
      rw [← this]
      exact P_lt hn (by omega) hr
    · rw [if_neg z] at h
      exact sv_lt hn hr w (by omega) a h
theorem sure_x {n k r : Nat} {fl : Nat → Nat} {fk fc ff sr sf sn : Nat → Int32} (hT : Tab n fk fc) (hn : n < 7) (hff : ∀ a, a < n → ff a = nI (fl a)) (hfl : ∀ a, a < n → fl a < 10) (hS : SE n k sr sf sn) (hr : r < n) :
    ∀ (d f w : Nat), fac n = w + d → d < f → (sv n k fl sr sf r w).1 = true → lp_X6_sureOf_L5 (nI k) (nI (fac n)) sr fk ff sf (nI r) (fun y7 _ => some y7) f (sve (sv n k fl sr sf r w).2) (nI w) = some (if (sv n k fl sr sf r (fac n)).1 = true then sve (sv n k fl sr sf r (fac n)).2 else -9) := by
  have h720 := fac_le n hn
  intro d
  induction d with
  | zero =>
    intro f w hw hf hb
    obtain ⟨f, rfl⟩ := pred1 hf
    unfold lp_X6_sureOf_L5
    have e : w = fac n := by omega
    rw [if_pos (nI_le (by omega) (by omega)), ← e, if_pos hb]
  | succ d ih =>
    intro f w hw hf hb
    obtain ⟨f, rfl⟩ := pred1 (Nat.lt_of_le_of_lt (Nat.zero_le _) hf)
    unfold lp_X6_sureOf_L5
    have hp := P_lt hn (w := w) (r := r) (by omega) hr
    have e : sv n k fl sr sf r (w + 1) = if fitB n w fl sr sf k = true then svN n k fl sr sf r (sv n k fl sr sf r w) w else sv n k fl sr sf r w := rfl
    have hlt := sv_lt (k := k) (fl := fl) (sr := sr) (sf := sf) hn hr w (by omega)
    have ih := ih f (w + 1) (by omega) (by omega)
    rw [if_neg (nI_ge (by omega) (by omega)), fitsSeen_x hT hn (by omega) hff hfl hS, bs, nI_1]
    by_cases z : fitB n w fl sr sf k = true
    · rw [if_pos z] at e
      rw [if_pos z, if_neg (show ¬ (1 : Int32) = 0 by decide), who_t hT hn (by omega) hr, bs]
      cases h2 : (sv n k fl sr sf r w).2 with
      | none =>
        have e1 : sv n k fl sr sf r (w + 1) = (true, some (P n w r)) := by rw [e]; unfold svN; rw [hb, h2]; rfl
        rw [e1] at ih
        rw [if_pos (show sve none = -9 from rfl)]
        exact ih rfl
      | some a =>
        have ha := hlt a h2
        have e1 : sv n k fl sr sf r (w + 1) = (P n w r == a, some (P n w r)) := by rw [e]; unfold svN; rw [hb, h2]; rfl
        rw [if_neg (show ¬ sve (some a) = -9 from n9 (show a < 2 ^ 31 by omega))]
        by_cases q : a = P n w r
        · rw [e1] at ih
          rw [if_pos (show sve (some a) = nI (P n w r) from by rw [q]; rfl)]
          exact ih (by simp [q])
        · rw [if_neg (show ¬ sve (some a) = nI (P n w r) from fun y => q ((nI_eq (by omega) (by omega)).mp y))]
          have e2 : (sv n k fl sr sf r (w + 1)).1 = false := by rw [e1]; simp [Ne.symm q]
          have := sv_no e2 d
          rw [show w + 1 + d = fac n by omega] at this
          rw [this]
          rfl
    · rw [if_neg z] at e
      rw [if_neg z, if_pos rfl]
      rw [e] at ih
      exact ih hb
theorem fits_m1 {n k : Nat} {fl : Nat → Nat} {flash sr sf sn : Nat → Int32} {kk : Int32 → Int32 → Int32 → Int32 → (Nat → Int32) → (Nat → Int32) → Option (Int32 × (Nat → Int32) × (Nat → Int32))} (hn : n < 7) (hff : ∀ a, a < n → flash a = nI (fl a)) (hfl : ∀ a, a < n → fl a < 10) (hS : SE n k sr sf sn) :
    ∀ (d f w : Nat) (of at0 : Nat → Int32), fac n = w + d → d < f → ∃ y of' at', lp_X7_fits_L49 (nI n) (nI k) flash sn (-1) (nI (fac n)) kk f (nI (sm (f1 n k fl sr sf) w)) (-9) 1 (nI w) of at0 = kk (nI (sm (f1 n k fl sr sf) (fac n))) (-9) 1 y of' at' := by
  have h720 := fac_le n hn
  intro d
  induction d with
  | zero =>
    intro f w of at0 hw hf
    obtain ⟨f, rfl⟩ := pred1 hf
    unfold lp_X7_fits_L49
    exact ⟨nI w, of, at0, by rw [if_pos (nI_le (by omega) (by omega)), show w = fac n by omega]⟩
  | succ d ih =>
    intro f w of at0 hw hf
    obtain ⟨f, rfl⟩ := pred1 (Nat.lt_of_le_of_lt (Nat.zero_le _) hf)
    unfold lp_X7_fits_L49
    obtain ⟨of1, at1, a1, a2, a3⟩ := isWay_m (f_of := of) (f_at := at0) hn (w := w) (by omega)
    obtain ⟨y, of', at', h⟩ := ih f (w + 1) of1 at1 (by omega) (by omega)
    refine ⟨y, of', at', ?_⟩
    have e : sm (f1 n k fl sr sf) (w + 1) = sm (f1 n k fl sr sf) w + f1 n k fl sr sf w := rfl
    rw [e] at h
    rw [if_neg (nI_ge (by omega) (by omega)), a3, bs, isSo_m a1 hn (by omega) hff hfl hS, bs, nI_1, nI_1, if_pos (show (-1 : Int32) < 0 by decide)]
    unfold f1 at h ⊢
    cases hb : fitB n w fl sr sf k
    · rw [hb, if_neg (show ¬ (false = true) by decide), Nat.add_zero] at h
      rw [if_neg (show ¬ (false = true) by decide), if_pos rfl]
      exact h
    · rw [hb, if_pos rfl] at h
      rw [if_pos rfl, if_neg (show ¬ (1 : Int32) = 0 by decide)]
      exact h
theorem fits_m2 {n k r : Nat} {fl : Nat → Nat} {flash sr sf sn : Nat → Int32} {kk : Int32 → Int32 → Int32 → Int32 → (Nat → Int32) → (Nat → Int32) → Option (Int32 × (Nat → Int32) × (Nat → Int32))} (hn : n < 7) (hff : ∀ a, a < n → flash a = nI (fl a)) (hfl : ∀ a, a < n → fl a < 10) (hS : SE n k sr sf sn) (hr : r < n) :
    ∀ (d f w : Nat) (c : Int32) (of at0 : Nat → Int32), fac n = w + d → d < f → ∃ c' y of' at', lp_X7_fits_L49 (nI n) (nI k) flash sn (nI r) (nI (fac n)) kk f c (sve (sv n k fl sr sf r w).2) (if (sv n k fl sr sf r w).1 = true then 1 else 0) (nI w) of at0 = kk c' (sve (sv n k fl sr sf r (fac n)).2) (if (sv n k fl sr sf r (fac n)).1 = true then 1 else 0) y of' at' := by
  have h720 := fac_le n hn
  intro d
  induction d with
  | zero =>
    intro f w c of at0 hw hf
    obtain ⟨f, rfl⟩ := pred1 hf
    unfold lp_X7_fits_L49
    exact ⟨c, nI w, of, at0, by rw [if_pos (nI_le (by omega) (by omega)), show w = fac n by omega]⟩
  | succ d ih =>
    intro f w c of at0 hw hf
    obtain ⟨f, rfl⟩ := pred1 (Nat.lt_of_le_of_lt (Nat.zero_le _) hf)
    unfold lp_X7_fits_L49
    obtain ⟨of1, at1, a1, a2, a3⟩ := isWay_m (f_of := of) (f_at := at0) hn (w := w) (by omega)
    have hp := P_lt hn (w := w) (r := r) (by omega) hr
    have hlt := sv_lt (k := k) (fl := fl) (sr := sr) (sf := sf) hn hr w (by omega)
    have e : sv n k fl sr sf r (w + 1) = if fitB n w fl sr sf k = true then svN n k fl sr sf r (sv n k fl sr sf r w) w else sv n k fl sr sf r w := rfl
    rw [if_neg (nI_ge (by omega) (by omega)), a3, bs, isSo_m a1 hn (by omega) hff hfl hS, bs, nI_1, if_neg (nP (a := r) (by omega))]
    by_cases z : fitB n w fl sr sf k = true
    · rw [if_pos z] at e
      obtain ⟨c', y, of', at', h⟩ := ih f (w + 1) (c + 1) of1 at1 (by omega) (by omega)
      refine ⟨c', y, of', at', ?_⟩
      have gr : ¬ (nI r < 0 ∨ 6 ≤ (nI r).toNatClampNeg) := nG (by omega) (by omega)
      have er : at1 (nI r).toNatClampNeg = nI (P n w r) := by rw [nC (by omega)]; exact a1 r hr
      rw [if_pos z, if_neg (show ¬ (1 : Int32) = 0 by decide)]
      simp only [if_neg gr, er]
      cases hb : (sv n k fl sr sf r w).1
      · have e1 : sv n k fl sr sf r (w + 1) = (false, some (P n w r)) := by rw [e]; unfold svN; rw [hb]; rfl
        rw [e1] at h
        rw [if_neg (show ¬ (false = true) by decide), if_pos rfl]
        exact h
      · rw [if_pos rfl, if_neg (show ¬ (1 : Int32) = 0 by decide)]
        cases h2 : (sv n k fl sr sf r w).2 with
        | none =>
          have e1 : sv n k fl sr sf r (w + 1) = (true, some (P n w r)) := by rw [e]; unfold svN; rw [hb, h2]; rfl
          rw [e1] at h
          rw [if_pos (show sve none < 0 by decide)]
          exact h
        | some a =>
          have ha := hlt a h2
          have e1 : sv n k fl sr sf r (w + 1) = (P n w r == a, some (P n w r)) := by rw [e]; unfold svN; rw [hb, h2]; rfl
          rw [e1] at h
          rw [if_neg (show ¬ sve (some a) < 0 from nP (a := a) (by omega))]
          by_cases q : P n w r = a
          · rw [if_pos (show nI (P n w r) = sve (some a) from by rw [q]; rfl)]
            rw [if_pos (show (P n w r == a) = true by simp [q])] at h
            exact h
          · rw [if_neg (show ¬ nI (P n w r) = sve (some a) from fun y => q ((nI_eq (by omega) (by omega)).mp y))]
            rw [if_neg (show ¬ (P n w r == a) = true by simp [q])] at h
            exact h
    · rw [if_neg z] at e
      obtain ⟨c', y, of', at', h⟩ := ih f (w + 1) c of1 at1 (by omega) (by omega)
      refine ⟨c', y, of', at', ?_⟩
      rw [if_neg z, if_pos rfl]
      rw [e] at h
      exact h
theorem fac_l {n : Nat} {kk : Int32 → Int32 → Option (Int32 × (Nat → Int32) × (Nat → Int32))} (hn : n < 7) : ∀ (d f i : Nat), n = i + d → d < f → ∃ y, lp_X7_fits_L19 (nI n) kk f (nI (fac i)) (nI (i + 1)) = kk (nI (fac n)) y := by
  intro d
  induction d with
  | zero =>
    intro f i hi hf
    obtain ⟨f, rfl⟩ := pred1 hf
    unfold lp_X7_fits_L19
    exact ⟨nI (i + 1), by rw [if_pos (show nI n < nI (i + 1) from nI_lt (by omega) (by omega)), show i = n by omega]⟩
  | succ d ih =>
    intro f i hi hf
    obtain ⟨f, rfl⟩ := pred1 (Nat.lt_of_le_of_lt (Nat.zero_le _) hf)
    unfold lp_X7_fits_L19
    obtain ⟨y, h⟩ := ih f (i + 1) (by omega) (by omega)
    refine ⟨y, ?_⟩
    rw [if_neg (show ¬ nI n < nI (i + 1) from fun q => by rw [nLt (by omega) (by omega)] at q; omega), nM, nI_1, show fac i * (i + 1) = fac (i + 1) from Nat.mul_comm _ _]
    exact h
theorem fac_m {n : Nat} {kk : Int32 → Int32 → Option (Int32 × (Nat → Int32) × (Nat → Int32))} (hn : n < 7) : ∃ y, lp_X7_fits_L19 (nI n) kk FU 1 2 = kk (nI (fac n)) y := by
  by_cases z : n = 0
  · subst z
    refine ⟨2, ?_⟩
    show (if nI 0 < 2 then kk 1 2 else _) = _
    rw [if_pos (show nI 0 < 2 by decide)]
    rfl
  · obtain ⟨y, h⟩ := fac_l (kk := kk) hn (n - 1) FU 1 (by omega) (by show _ < 4096; omega)
    exact ⟨y, h⟩
theorem fits_eq {n sg : Nat} {fl ht : Nat → Nat} {seen many : Int32} {fk fc ff sr sf sn flash of at0 : Nat → Int32}
    (hT : Tab n fk fc) (hC : Told6 n sg fl ht) (hff : ∀ a, a < n → ff a = nI (fl a)) (hmf : ∀ a, a < n → flash a = nI (fl a)) (hS : SN n seen sr sf many sn) (x1 : Int32) :
    ∃ a of' at', f_X6_fits seen (nI (fac n)) sr (nI n) fk ff sf x1 = some a ∧ f_X7_fits (nI n) many of at0 flash sn x1 = some (a, of', at') := by
  obtain ⟨hn, hsg, hfl, hht, hsym⟩ := id hC
  obtain ⟨k, s1, s2, s3, s4⟩ := hS
  have hS : SE n k sr sf sn := ⟨s1, s4⟩
  have h720 := fac_le n hn
  have hfl' : ∀ a, a < n → fl a < 10 := fun a ha => (hfl a ha).2
  unfold f_X6_fits f_X7_fits
  rw [s2, s3]
  by_cases c : x1 = -1
  · subst c
    rw [if_pos rfl, if_pos rfl]
    obtain ⟨y, h1⟩ := ways_x (kk := fun y4 _ => some y4) hT hn hff hfl' hS (fac n) FU 0 (by omega) (by show _ < 4096; omega)
    have h1 : f_X6_waysThatFit (nI k) (nI (fac n)) sr fk ff sf = some (nI (sm (f1 n k fl sr sf) (fac n))) := h1
    obtain ⟨y2, of', at', h2⟩ := fits_m1 (kk := fun y18 y19 y20 y21 y22 y23 => if 0 ≤ (-1 : Int32) then if y20 = 0 then some ((-9), y22, y23) else some (y19, y22, y23) else some (y18, y22, y23)) hn hmf hfl' hS (fac n) FU 0 of at0 (by omega) (by show _ < 4096; omega)
    obtain ⟨y3, h3⟩ := fac_m (n := n) (kk := fun y3 _ => lp_X7_fits_L49 (nI n) (nI k) flash sn (-1) y3 (fun y18 y19 y20 y21 y22 y23 => if 0 ≤ (-1 : Int32) then if y20 = 0 then some ((-9), y22, y23) else some (y19, y22, y23) else some (y18, y22, y23)) FU 0 (-9) 1 0 of at0) hn
    refine ⟨_, of', at', by rw [h1, bs], ?_⟩
    refine h3.trans (h2.trans ?_)
    show (if 0 ≤ (-1 : Int32) then _ else _) = _
    rw [if_neg (show ¬ (0 : Int32) ≤ -1 by decide)]
  · rw [if_neg c, if_neg c]
    rcases asked n hn x1 with ⟨-, k1, o1, -⟩ | ⟨r, hr, e1, -, k1, o1⟩
    · exact ⟨-1, of, at0, by rw [k1, bs, if_pos rfl], by rw [o1, bs, if_pos rfl]⟩
    · rw [k1, bs, if_neg (show ¬ (1 : Int32) = 0 by decide), o1, bs, if_neg (show ¬ (1 : Int32) = 0 by decide), e1]
      have h1 := sure_x (r := r) hT hn hff hfl' hS hr (fac n) FU 0 (by omega) (by show _ < 4096; omega) rfl
      have h1 : f_X6_sureOf (nI k) (nI (fac n)) sr fk ff sf (nI r) = some (if (sv n k fl sr sf r (fac n)).1 = true then sve (sv n k fl sr sf r (fac n)).2 else -9) := h1
      obtain ⟨c', y2, of', at', h2⟩ := fits_m2 (kk := fun y18 y19 y20 y21 y22 y23 => if 0 ≤ nI r then if y20 = 0 then some ((-9), y22, y23) else some (y19, y22, y23) else some (y18, y22, y23)) hn hmf hfl' hS hr (fac n) FU 0 0 of at0 (by omega) (by show _ < 4096; omega)
      obtain ⟨y3, h3⟩ := fac_m (n := n) (kk := fun y28 _ => lp_X7_fits_L49 (nI n) (nI k) flash sn (nI r) y28 (fun y18 y19 y20 y21 y22 y23 => if 0 ≤ nI r then if y20 = 0 then some ((-9), y22, y23) else some (y19, y22, y23) else some (y18, y22, y23)) FU 0 (-9) 1 0 of at0) hn
      refine ⟨_, of', at', by rw [h1, bs], ?_⟩
      refine h3.trans (h2.trans ?_)
      show (if 0 ≤ nI r then _ else _) = _
      rw [if_pos (show (0 : Int32) ≤ nI r from nI_le (a := 0) (by omega) (by omega))]
      cases hb : (sv n k fl sr sf r (fac n)).1
      · rfl
      · rfl
